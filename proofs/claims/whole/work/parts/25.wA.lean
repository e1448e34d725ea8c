theorem dWd_makeEmpty_0 : decode prog_12_method_2_code 0 = .ok (.iload_n 1, 1) := by decide +kernel
theorem dWd_makeEmpty_1 : decode prog_12_method_2_code 1 = .ok (.invokestatic 22, 3) := by decide +kernel
theorem dWd_makeEmpty_4 : decode prog_12_method_2_code 4 = .ok (.istore_n 3, 1) := by decide +kernel
theorem dWd_makeEmpty_5 : decode prog_12_method_2_code 5 = .ok (.iload_n 3, 1) := by decide +kernel
theorem dWd_makeEmpty_6 : decode prog_12_method_2_code 6 = .ok (.ifCond .ne 4, 3) := by decide +kernel
theorem dWd_makeEmpty_9 : decode prog_12_method_2_code 9 = .ok (.return_, 1) := by decide +kernel
theorem dWd_makeEmpty_10 : decode prog_12_method_2_code 10 = .ok (.aload_n 0, 1) := by decide +kernel
theorem dWd_makeEmpty_11 : decode prog_12_method_2_code 11 = .ok (.iload_n 1, 1) := by decide +kernel
theorem dWd_makeEmpty_12 : decode prog_12_method_2_code 12 = .ok (.putfield 15, 3) := by decide +kernel
theorem dWd_makeEmpty_15 : decode prog_12_method_2_code 15 = .ok (.aload_n 0, 1) := by decide +kernel
theorem dWd_makeEmpty_16 : decode prog_12_method_2_code 16 = .ok (.iconst 1, 1) := by decide +kernel
theorem dWd_makeEmpty_17 : decode prog_12_method_2_code 17 = .ok (.iload_n 2, 1) := by decide +kernel
theorem dWd_makeEmpty_18 : decode prog_12_method_2_code 18 = .ok (.iload_n 3, 1) := by decide +kernel
theorem dWd_makeEmpty_19 : decode prog_12_method_2_code 19 = .ok (.invokestatic 26, 3) := by decide +kernel
theorem dWd_makeEmpty_22 : decode prog_12_method_2_code 22 = .ok (.invokestatic 32, 3) := by decide +kernel
theorem dWd_makeEmpty_25 : decode prog_12_method_2_code 25 = .ok (.putfield 19, 3) := by decide +kernel
theorem dWd_makeEmpty_28 : decode prog_12_method_2_code 28 = .ok (.aload_n 0, 1) := by decide +kernel
theorem dWd_makeEmpty_29 : decode prog_12_method_2_code 29 = .ok (.getfield 9, 3) := by decide +kernel
theorem dWd_makeEmpty_32 : decode prog_12_method_2_code 32 = .ok (.iconst 0, 1) := by decide +kernel
theorem dWd_makeEmpty_33 : decode prog_12_method_2_code 33 = .ok (.invokestatic 35, 3) := by decide +kernel
theorem dWd_makeEmpty_36 : decode prog_12_method_2_code 36 = .ok (.return_, 1) := by decide +kernel
theorem t_Wd_makeEmpty {d : Nat} {x0 x1 x2 : Int} {σ : SG} {Q : Int → SG → Prop} (h : inI x1 → inI x2 → (Tri d M_X_sizeLimit [vI x1] σ (fun r1 σ1 => (r1 ≠ 0 → (obok 10 x0 ∧ ∀ σ3, σ3 = up σ1 x0 1 x1 → (obok 10 x0 ∧ ∀ σ4, σ4 = up σ3 x0 2 (max 1 (min x2 r1)) → obok 10 x0 ∧ Tri d M_JA_fill___II_V [vA (x0 + 1), vI 0] σ4 (fun r5 σ5 => Q 0 σ5)))) ∧ (r1 = 0 → Q 0 σ1)))) : Tri (d + 1) M_Wd_makeEmpty [vA x0, vI x1, vI x2] σ Q :=
  Tri_intro rfl (Nat.le_of_ble_eq_true rfl) (ls := [vA x0, vI x1, vI x2, vU]) rfl (fun hok => L_iload_n dWd_makeEmpty_0 rfl (L_callNI rfl cs_X_sizeLimit (As := [vI x1]) rfl (by decide +kernel) rfl (Nat.le_of_ble_eq_true rfl) dWd_makeEmpty_1 (Tri.mono ((h (hok _ (List.mem_of_getElem? (i := 1) rfl)) (hok _ (List.mem_of_getElem? (i := 2) rfl)))) (fun r1 σ1 q1 => L_istore_n dWd_makeEmpty_4 (by decide) (L_iload_n dWd_makeEmpty_5 rfl (L_if_ne dWd_makeEmpty_6 (by decide) ⟨fun c2 => L_aload_n dWd_makeEmpty_10 rfl (L_iload_n dWd_makeEmpty_11 rfl (L_putfN fp_Wd_15 rfl rfl (fun _ => ⟨rfl, rfl⟩) dWd_makeEmpty_12 ⟨(q1.1 c2).1, fun σ3 e3 => L_aload_n dWd_makeEmpty_15 rfl (L_iconst dWd_makeEmpty_16 in_1 (L_iload_n dWd_makeEmpty_17 rfl (L_iload_n dWd_makeEmpty_18 rfl (L_min (tk3 171 rfl rfl) (Nat.le_of_ble_eq_true rfl) dWd_makeEmpty_19 (L_max (tk3 172 rfl rfl) (Nat.le_of_ble_eq_true rfl) dWd_makeEmpty_22 (L_putfN fp_Wd_19 rfl rfl (fun _ => ⟨rfl, rfl⟩) dWd_makeEmpty_25 ⟨((q1.1 c2).2 σ3 e3).1, fun σ4 e4 => L_aload_n dWd_makeEmpty_28 rfl (L_getF (b := x0 + 1) fw_Wd_9 rfl rfl (by omega) dWd_makeEmpty_29 ⟨(((q1.1 c2).2 σ3 e3).2 σ4 e4).1, L_iconst dWd_makeEmpty_32 in_0 (L_callSV rfl cs_JA_fill___II_V (As := [vA (x0 + 1), vI 0]) rfl (tk3 173 rfl rfl) rfl (Nat.le_of_ble_eq_true rfl) dWd_makeEmpty_33 (Tri.mono ((((q1.1 c2).2 σ3 e3).2 σ4 e4).2) (fun r5 σ5 q5 => L_return rfl dWd_makeEmpty_36 q5)))⟩)⟩))))))⟩)), fun c2 => L_return rfl dWd_makeEmpty_9 (q1.2 c2)⟩))))))
theorem dWd_copyFrom_0 : decode prog_12_method_3_code 0 = .ok (.aload_n 0, 1) := by decide +kernel
theorem dWd_copyFrom_1 : decode prog_12_method_3_code 1 = .ok (.aload_n 1, 1) := by decide +kernel
theorem dWd_copyFrom_2 : decode prog_12_method_3_code 2 = .ok (.getfield 15, 3) := by decide +kernel
theorem dWd_copyFrom_5 : decode prog_12_method_3_code 5 = .ok (.putfield 15, 3) := by decide +kernel
theorem dWd_copyFrom_8 : decode prog_12_method_3_code 8 = .ok (.aload_n 0, 1) := by decide +kernel
theorem dWd_copyFrom_9 : decode prog_12_method_3_code 9 = .ok (.aload_n 1, 1) := by decide +kernel
theorem dWd_copyFrom_10 : decode prog_12_method_3_code 10 = .ok (.getfield 19, 3) := by decide +kernel
theorem dWd_copyFrom_13 : decode prog_12_method_3_code 13 = .ok (.putfield 19, 3) := by decide +kernel
theorem dWd_copyFrom_16 : decode prog_12_method_3_code 16 = .ok (.aload_n 1, 1) := by decide +kernel
theorem dWd_copyFrom_17 : decode prog_12_method_3_code 17 = .ok (.getfield 9, 3) := by decide +kernel
theorem dWd_copyFrom_20 : decode prog_12_method_3_code 20 = .ok (.iconst 0, 1) := by decide +kernel
theorem dWd_copyFrom_21 : decode prog_12_method_3_code 21 = .ok (.aload_n 0, 1) := by decide +kernel
theorem dWd_copyFrom_22 : decode prog_12_method_3_code 22 = .ok (.getfield 9, 3) := by decide +kernel
theorem dWd_copyFrom_25 : decode prog_12_method_3_code 25 = .ok (.iconst 0, 1) := by decide +kernel
theorem dWd_copyFrom_26 : decode prog_12_method_3_code 26 = .ok (.bipush 125, 2) := by decide +kernel
theorem dWd_copyFrom_28 : decode prog_12_method_3_code 28 = .ok (.invokestatic 41, 3) := by decide +kernel
theorem dWd_copyFrom_31 : decode prog_12_method_3_code 31 = .ok (.return_, 1) := by decide +kernel
theorem t_Wd_copyFrom {d : Nat} {x0 x1 : Int} {σ : SG} {Q : Int → SG → Prop} (h : obok 10 x1 ∧ (obok 10 x0 ∧ ∀ σ1, σ1 = up σ x0 1 (σ x1 1) → obok 10 x1 ∧ (obok 10 x0 ∧ ∀ σ2, σ2 = up σ1 x0 2 (σ1 x1 2) → obok 10 x1 ∧ obok 10 x0 ∧ ((0 : Int) ≤ x0 + 1 ∧ (kd (x0 + 1)).1 = 100 ∧ (kd (x1 + 1)).1 = 100 ∧ (0 : Int) ≤ 0 ∧ (0 : Int) ≤ 0 ∧ (0 : Int) ≤ 125 ∧ 0 + 125 ≤ ((kd (x1 + 1)).2 : Int) ∧ 0 + 125 ≤ ((kd (x0 + 1)).2 : Int)) ∧ (∀ σ3, σ3 = cpy σ2 (x1 + 1) 0 (x0 + 1) 0 125 → Q 0 σ3)))) : Tri (d + 1) M_Wd_copyFrom [vA x0, vA x1] σ Q :=
  Tri_intro rfl (Nat.le_of_ble_eq_true rfl) (ls := [vA x0, vA x1]) rfl (fun hok => L_aload_n dWd_copyFrom_0 rfl (L_aload_n dWd_copyFrom_1 rfl (L_getf fw_Wd_15 rfl dWd_copyFrom_2 ⟨h.1, L_putfN fp_Wd_15 rfl rfl (fun _ => ⟨rfl, rfl⟩) dWd_copyFrom_5 ⟨h.2.1, fun σ1 e1 => L_aload_n dWd_copyFrom_8 rfl (L_aload_n dWd_copyFrom_9 rfl (L_getf fw_Wd_19 rfl dWd_copyFrom_10 ⟨(h.2.2 σ1 e1).1, L_putfN fp_Wd_19 rfl rfl (fun _ => ⟨rfl, rfl⟩) dWd_copyFrom_13 ⟨(h.2.2 σ1 e1).2.1, fun σ2 e2 => L_aload_n dWd_copyFrom_16 rfl (L_getF (b := x1 + 1) fw_Wd_9 rfl rfl (by omega) dWd_copyFrom_17 ⟨((h.2.2 σ1 e1).2.2 σ2 e2).1, L_iconst dWd_copyFrom_20 in_0 (L_aload_n dWd_copyFrom_21 rfl (L_getF (b := x0 + 1) fw_Wd_9 rfl rfl (by omega) dWd_copyFrom_22 ⟨((h.2.2 σ1 e1).2.2 σ2 e2).2.1, L_iconst dWd_copyFrom_25 in_0 (L_bipush dWd_copyFrom_26 bp_125 in_125 (L_copyIN (tk3 207 rfl rfl) (Nat.le_of_ble_eq_true rfl) dWd_copyFrom_28 ⟨((h.2.2 σ1 e1).2.2 σ2 e2).2.2.1, fun σ3 e3 => L_return rfl dWd_copyFrom_31 (((h.2.2 σ1 e1).2.2 σ2 e2).2.2.2 σ3 e3)⟩))⟩))⟩)⟩⟩))⟩⟩)))
theorem dWd_isLike_0 : decode prog_12_method_4_code 0 = .ok (.aload_n 0, 1) := by decide +kernel
theorem dWd_isLike_1 : decode prog_12_method_4_code 1 = .ok (.getfield 15, 3) := by decide +kernel
theorem dWd_isLike_4 : decode prog_12_method_4_code 4 = .ok (.aload_n 1, 1) := by decide +kernel
theorem dWd_isLike_5 : decode prog_12_method_4_code 5 = .ok (.getfield 15, 3) := by decide +kernel
theorem dWd_isLike_8 : decode prog_12_method_4_code 8 = .ok (.if_icmp .ne 18, 3) := by decide +kernel
theorem dWd_isLike_11 : decode prog_12_method_4_code 11 = .ok (.aload_n 0, 1) := by decide +kernel
theorem dWd_isLike_12 : decode prog_12_method_4_code 12 = .ok (.getfield 19, 3) := by decide +kernel
theorem dWd_isLike_15 : decode prog_12_method_4_code 15 = .ok (.aload_n 1, 1) := by decide +kernel
theorem dWd_isLike_16 : decode prog_12_method_4_code 16 = .ok (.getfield 19, 3) := by decide +kernel
theorem dWd_isLike_19 : decode prog_12_method_4_code 19 = .ok (.if_icmp .ne 7, 3) := by decide +kernel
theorem dWd_isLike_22 : decode prog_12_method_4_code 22 = .ok (.iconst 1, 1) := by decide +kernel
theorem dWd_isLike_23 : decode prog_12_method_4_code 23 = .ok (.goto 4, 3) := by decide +kernel
theorem dWd_isLike_26 : decode prog_12_method_4_code 26 = .ok (.iconst 0, 1) := by decide +kernel
theorem dWd_isLike_27 : decode prog_12_method_4_code 27 = .ok (.ireturn, 1) := by decide +kernel
theorem t_Wd_isLike {d : Nat} {x0 x1 : Int} {σ : SG} {Q : Int → SG → Prop} (h : obok 10 x0 ∧ obok 10 x1 ∧ (σ x0 1 ≠ σ x1 1 → Q 0 σ) ∧ (σ x0 1 = σ x1 1 → obok 10 x0 ∧ obok 10 x1 ∧ (σ x0 2 ≠ σ x1 2 → Q 0 σ) ∧ (σ x0 2 = σ x1 2 → Q 1 σ))) : Tri (d + 1) M_Wd_isLike [vA x0, vA x1] σ Q :=
  Tri_intro rfl (Nat.le_of_ble_eq_true rfl) (ls := [vA x0, vA x1]) rfl (fun hok => L_aload_n dWd_isLike_0 rfl (L_getf fw_Wd_15 rfl dWd_isLike_1 ⟨h.1, L_aload_n dWd_isLike_4 rfl (L_getf fw_Wd_15 rfl dWd_isLike_5 ⟨h.2.1, L_icmp_ne dWd_isLike_8 (by decide) ⟨fun c1 => L_iconst dWd_isLike_26 in_0 (L_zreturn0 rfl dWd_isLike_27 (h.2.2.1 c1)), fun c1 => L_aload_n dWd_isLike_11 rfl (L_getf fw_Wd_19 rfl dWd_isLike_12 ⟨(h.2.2.2 c1).1, L_aload_n dWd_isLike_15 rfl (L_getf fw_Wd_19 rfl dWd_isLike_16 ⟨(h.2.2.2 c1).2.1, L_icmp_ne dWd_isLike_19 (by decide) ⟨fun c2 => L_iconst dWd_isLike_26 in_0 (L_zreturn0 rfl dWd_isLike_27 ((h.2.2.2 c1).2.2.1 c2)), fun c2 => L_iconst dWd_isLike_22 in_1 (L_goto dWd_isLike_23 (by decide) (L_zreturn1 rfl dWd_isLike_27 ((h.2.2.2 c1).2.2.2 c2)))⟩⟩)⟩)⟩⟩)⟩))
theorem dWd_vectors_0 : decode prog_12_method_5_code 0 = .ok (.aload_n 0, 1) := by decide +kernel
theorem dWd_vectors_1 : decode prog_12_method_5_code 1 = .ok (.getfield 15, 3) := by decide +kernel
theorem dWd_vectors_4 : decode prog_12_method_5_code 4 = .ok (.aload_n 0, 1) := by decide +kernel
theorem dWd_vectors_5 : decode prog_12_method_5_code 5 = .ok (.getfield 19, 3) := by decide +kernel
theorem dWd_vectors_8 : decode prog_12_method_5_code 8 = .ok (.invokestatic 47, 3) := by decide +kernel
theorem dWd_vectors_11 : decode prog_12_method_5_code 11 = .ok (.ireturn, 1) := by decide +kernel
theorem t_Wd_vectors {d : Nat} {x0 : Int} {σ : SG} {Q : Int → SG → Prop} (h : obok 10 x0 ∧ obok 10 x0 ∧ Tri d M_X_raised [vI (σ x0 1), vI (σ x0 2)] σ (fun r1 σ1 => Q r1 σ1)) : Tri (d + 1) M_Wd_vectors [vA x0] σ Q :=
  Tri_intro rfl (Nat.le_of_ble_eq_true rfl) (ls := [vA x0]) rfl (fun hok => L_aload_n dWd_vectors_0 rfl (L_getf fw_Wd_15 rfl dWd_vectors_1 ⟨h.1, L_aload_n dWd_vectors_4 rfl (L_getf fw_Wd_19 rfl dWd_vectors_5 ⟨h.2.1, L_callNI rfl cs_X_raised (As := [vI (σ x0 1), vI (σ x0 2)]) rfl (by decide +kernel) rfl (Nat.le_of_ble_eq_true rfl) dWd_vectors_8 (Tri.mono (h.2.2) (fun r1 σ1 q1 => L_ireturn rfl dWd_vectors_11 q1))⟩)⟩))
theorem dWd_cell_0 : decode prog_12_method_6_code 0 = .ok (.iload_n 1, 1) := by decide +kernel
theorem dWd_cell_1 : decode prog_12_method_6_code 1 = .ok (.ifCond .lt 35, 3) := by decide +kernel
theorem dWd_cell_4 : decode prog_12_method_6_code 4 = .ok (.iload_n 1, 1) := by decide +kernel
theorem dWd_cell_5 : decode prog_12_method_6_code 5 = .ok (.aload_n 0, 1) := by decide +kernel
theorem dWd_cell_6 : decode prog_12_method_6_code 6 = .ok (.getfield 19, 3) := by decide +kernel
theorem dWd_cell_9 : decode prog_12_method_6_code 9 = .ok (.if_icmp .ge 27, 3) := by decide +kernel
theorem dWd_cell_12 : decode prog_12_method_6_code 12 = .ok (.iload_n 2, 1) := by decide +kernel
theorem dWd_cell_13 : decode prog_12_method_6_code 13 = .ok (.ifCond .lt 23, 3) := by decide +kernel
theorem dWd_cell_16 : decode prog_12_method_6_code 16 = .ok (.iload_n 2, 1) := by decide +kernel
theorem dWd_cell_17 : decode prog_12_method_6_code 17 = .ok (.aload_n 0, 1) := by decide +kernel
theorem dWd_cell_18 : decode prog_12_method_6_code 18 = .ok (.getfield 19, 3) := by decide +kernel
theorem dWd_cell_21 : decode prog_12_method_6_code 21 = .ok (.if_icmp .ge 15, 3) := by decide +kernel
theorem dWd_cell_24 : decode prog_12_method_6_code 24 = .ok (.iload_n 3, 1) := by decide +kernel
theorem dWd_cell_25 : decode prog_12_method_6_code 25 = .ok (.ifCond .lt 11, 3) := by decide +kernel
theorem dWd_cell_28 : decode prog_12_method_6_code 28 = .ok (.iload_n 3, 1) := by decide +kernel
theorem dWd_cell_29 : decode prog_12_method_6_code 29 = .ok (.aload_n 0, 1) := by decide +kernel
theorem dWd_cell_30 : decode prog_12_method_6_code 30 = .ok (.getfield 19, 3) := by decide +kernel
theorem dWd_cell_33 : decode prog_12_method_6_code 33 = .ok (.if_icmp .lt 5, 3) := by decide +kernel
theorem dWd_cell_36 : decode prog_12_method_6_code 36 = .ok (.iconst 0, 1) := by decide +kernel
theorem dWd_cell_37 : decode prog_12_method_6_code 37 = .ok (.ireturn, 1) := by decide +kernel
theorem dWd_cell_38 : decode prog_12_method_6_code 38 = .ok (.aload_n 0, 1) := by decide +kernel
theorem dWd_cell_39 : decode prog_12_method_6_code 39 = .ok (.getfield 9, 3) := by decide +kernel
theorem dWd_cell_42 : decode prog_12_method_6_code 42 = .ok (.iload_n 1, 1) := by decide +kernel
theorem dWd_cell_43 : decode prog_12_method_6_code 43 = .ok (.iconst 5, 1) := by decide +kernel
theorem dWd_cell_44 : decode prog_12_method_6_code 44 = .ok (.imul, 1) := by decide +kernel
theorem dWd_cell_45 : decode prog_12_method_6_code 45 = .ok (.iload_n 2, 1) := by decide +kernel
theorem dWd_cell_46 : decode prog_12_method_6_code 46 = .ok (.iadd, 1) := by decide +kernel
theorem dWd_cell_47 : decode prog_12_method_6_code 47 = .ok (.iconst 5, 1) := by decide +kernel
theorem dWd_cell_48 : decode prog_12_method_6_code 48 = .ok (.imul, 1) := by decide +kernel
theorem dWd_cell_49 : decode prog_12_method_6_code 49 = .ok (.iload_n 3, 1) := by decide +kernel
theorem dWd_cell_50 : decode prog_12_method_6_code 50 = .ok (.iadd, 1) := by decide +kernel
theorem dWd_cell_51 : decode prog_12_method_6_code 51 = .ok (.iaload, 1) := by decide +kernel
theorem dWd_cell_52 : decode prog_12_method_6_code 52 = .ok (.ireturn, 1) := by decide +kernel
theorem t_Wd_cell {d : Nat} {x0 x1 x2 x3 : Int} {σ : SG} {Q : Int → SG → Prop} (h : inI x1 → inI x2 → inI x3 → ((x1 < 0 → Q 0 σ) ∧ (0 ≤ x1 → obok 10 x0 ∧ (σ x0 2 ≤ x1 → Q 0 σ) ∧ (x1 < σ x0 2 → (x2 < 0 → Q 0 σ) ∧ (0 ≤ x2 → obok 10 x0 ∧ (σ x0 2 ≤ x2 → Q 0 σ) ∧ (x2 < σ x0 2 → (x3 < 0 → Q 0 σ) ∧ (0 ≤ x3 → obok 10 x0 ∧ (x3 < σ x0 2 → obok 10 x0 ∧ rdok 100 (x0 + 1) (w32 ((w32 ((w32 ((w32 (x1 * 5)) + x2)) * 5)) + x3)) ∧ Q (σ (x0 + 1) (w32 ((w32 ((w32 ((w32 (x1 * 5)) + x2)) * 5)) + x3))) σ) ∧ (σ x0 2 ≤ x3 → Q 0 σ)))))))) : Tri (d + 1) M_Wd_cell [vA x0, vI x1, vI x2, vI x3] σ Q :=
  Tri_intro rfl (Nat.le_of_ble_eq_true rfl) (ls := [vA x0, vI x1, vI x2, vI x3]) rfl (fun hok => L_iload_n dWd_cell_0 rfl (L_if_lt dWd_cell_1 (by decide) ⟨fun c1 => L_iconst dWd_cell_36 in_0 (L_ireturn rfl dWd_cell_37 ((h (hok _ (List.mem_of_getElem? (i := 1) rfl)) (hok _ (List.mem_of_getElem? (i := 2) rfl)) (hok _ (List.mem_of_getElem? (i := 3) rfl))).1 c1)), fun c1 => L_iload_n dWd_cell_4 rfl (L_aload_n dWd_cell_5 rfl (L_getf fw_Wd_19 rfl dWd_cell_6 ⟨((h (hok _ (List.mem_of_getElem? (i := 1) rfl)) (hok _ (List.mem_of_getElem? (i := 2) rfl)) (hok _ (List.mem_of_getElem? (i := 3) rfl))).2 c1).1, L_icmp_ge dWd_cell_9 (by decide) ⟨fun c2 => L_iconst dWd_cell_36 in_0 (L_ireturn rfl dWd_cell_37 (((h (hok _ (List.mem_of_getElem? (i := 1) rfl)) (hok _ (List.mem_of_getElem? (i := 2) rfl)) (hok _ (List.mem_of_getElem? (i := 3) rfl))).2 c1).2.1 c2)), fun c2 => L_iload_n dWd_cell_12 rfl (L_if_lt dWd_cell_13 (by decide) ⟨fun c3 => L_iconst dWd_cell_36 in_0 (L_ireturn rfl dWd_cell_37 ((((h (hok _ (List.mem_of_getElem? (i := 1) rfl)) (hok _ (List.mem_of_getElem? (i := 2) rfl)) (hok _ (List.mem_of_getElem? (i := 3) rfl))).2 c1).2.2 c2).1 c3)), fun c3 => L_iload_n dWd_cell_16 rfl (L_aload_n dWd_cell_17 rfl (L_getf fw_Wd_19 rfl dWd_cell_18 ⟨((((h (hok _ (List.mem_of_getElem? (i := 1) rfl)) (hok _ (List.mem_of_getElem? (i := 2) rfl)) (hok _ (List.mem_of_getElem? (i := 3) rfl))).2 c1).2.2 c2).2 c3).1, L_icmp_ge dWd_cell_21 (by decide) ⟨fun c4 => L_iconst dWd_cell_36 in_0 (L_ireturn rfl dWd_cell_37 (((((h (hok _ (List.mem_of_getElem? (i := 1) rfl)) (hok _ (List.mem_of_getElem? (i := 2) rfl)) (hok _ (List.mem_of_getElem? (i := 3) rfl))).2 c1).2.2 c2).2 c3).2.1 c4)), fun c4 => L_iload_n dWd_cell_24 rfl (L_if_lt dWd_cell_25 (by decide) ⟨fun c5 => L_iconst dWd_cell_36 in_0 (L_ireturn rfl dWd_cell_37 ((((((h (hok _ (List.mem_of_getElem? (i := 1) rfl)) (hok _ (List.mem_of_getElem? (i := 2) rfl)) (hok _ (List.mem_of_getElem? (i := 3) rfl))).2 c1).2.2 c2).2 c3).2.2 c4).1 c5)), fun c5 => L_iload_n dWd_cell_28 rfl (L_aload_n dWd_cell_29 rfl (L_getf fw_Wd_19 rfl dWd_cell_30 ⟨((((((h (hok _ (List.mem_of_getElem? (i := 1) rfl)) (hok _ (List.mem_of_getElem? (i := 2) rfl)) (hok _ (List.mem_of_getElem? (i := 3) rfl))).2 c1).2.2 c2).2 c3).2.2 c4).2 c5).1, L_icmp_lt dWd_cell_33 (by decide) ⟨fun c6 => L_aload_n dWd_cell_38 rfl (L_getF (b := x0 + 1) fw_Wd_9 rfl rfl (by omega) dWd_cell_39 ⟨(((((((h (hok _ (List.mem_of_getElem? (i := 1) rfl)) (hok _ (List.mem_of_getElem? (i := 2) rfl)) (hok _ (List.mem_of_getElem? (i := 3) rfl))).2 c1).2.2 c2).2 c3).2.2 c4).2 c5).2.1 c6).1, L_iload_n dWd_cell_42 rfl (L_iconst dWd_cell_43 in_5 (L_imul dWd_cell_44 (L_iload_n dWd_cell_45 rfl (L_iadd dWd_cell_46 (L_iconst dWd_cell_47 in_5 (L_imul dWd_cell_48 (L_iload_n dWd_cell_49 rfl (L_iadd dWd_cell_50 (L_iaload dWd_cell_51 ⟨(((((((h (hok _ (List.mem_of_getElem? (i := 1) rfl)) (hok _ (List.mem_of_getElem? (i := 2) rfl)) (hok _ (List.mem_of_getElem? (i := 3) rfl))).2 c1).2.2 c2).2 c3).2.2 c4).2 c5).2.1 c6).2.1, L_ireturn rfl dWd_cell_52 ((((((((h (hok _ (List.mem_of_getElem? (i := 1) rfl)) (hok _ (List.mem_of_getElem? (i := 2) rfl)) (hok _ (List.mem_of_getElem? (i := 3) rfl))).2 c1).2.2 c2).2 c3).2.2 c4).2 c5).2.1 c6).2.2)⟩)))))))))⟩), fun c6 => L_iconst dWd_cell_36 in_0 (L_ireturn rfl dWd_cell_37 (((((((h (hok _ (List.mem_of_getElem? (i := 1) rfl)) (hok _ (List.mem_of_getElem? (i := 2) rfl)) (hok _ (List.mem_of_getElem? (i := 3) rfl))).2 c1).2.2 c2).2 c3).2.2 c4).2 c5).2.2 c6))⟩⟩))⟩)⟩⟩))⟩)⟩⟩))⟩))
theorem dWd_setCell_0 : decode prog_12_method_7_code 0 = .ok (.iload_n 1, 1) := by decide +kernel
theorem dWd_setCell_1 : decode prog_12_method_7_code 1 = .ok (.iload_n 2, 1) := by decide +kernel
theorem dWd_setCell_2 : decode prog_12_method_7_code 2 = .ok (.if_icmp .eq 39, 3) := by decide +kernel
theorem dWd_setCell_5 : decode prog_12_method_7_code 5 = .ok (.iload_n 1, 1) := by decide +kernel
theorem dWd_setCell_6 : decode prog_12_method_7_code 6 = .ok (.ifCond .lt 35, 3) := by decide +kernel
theorem dWd_setCell_9 : decode prog_12_method_7_code 9 = .ok (.iload_n 1, 1) := by decide +kernel
theorem dWd_setCell_10 : decode prog_12_method_7_code 10 = .ok (.aload_n 0, 1) := by decide +kernel
theorem dWd_setCell_11 : decode prog_12_method_7_code 11 = .ok (.getfield 19, 3) := by decide +kernel
theorem dWd_setCell_14 : decode prog_12_method_7_code 14 = .ok (.if_icmp .ge 27, 3) := by decide +kernel
theorem dWd_setCell_17 : decode prog_12_method_7_code 17 = .ok (.iload_n 2, 1) := by decide +kernel
theorem dWd_setCell_18 : decode prog_12_method_7_code 18 = .ok (.ifCond .lt 23, 3) := by decide +kernel
theorem dWd_setCell_21 : decode prog_12_method_7_code 21 = .ok (.iload_n 2, 1) := by decide +kernel
theorem dWd_setCell_22 : decode prog_12_method_7_code 22 = .ok (.aload_n 0, 1) := by decide +kernel
theorem dWd_setCell_23 : decode prog_12_method_7_code 23 = .ok (.getfield 19, 3) := by decide +kernel
theorem dWd_setCell_26 : decode prog_12_method_7_code 26 = .ok (.if_icmp .ge 15, 3) := by decide +kernel
theorem dWd_setCell_29 : decode prog_12_method_7_code 29 = .ok (.iload_n 3, 1) := by decide +kernel
theorem dWd_setCell_30 : decode prog_12_method_7_code 30 = .ok (.ifCond .lt 11, 3) := by decide +kernel
theorem dWd_setCell_33 : decode prog_12_method_7_code 33 = .ok (.iload_n 3, 1) := by decide +kernel
theorem dWd_setCell_34 : decode prog_12_method_7_code 34 = .ok (.aload_n 0, 1) := by decide +kernel
theorem dWd_setCell_35 : decode prog_12_method_7_code 35 = .ok (.getfield 19, 3) := by decide +kernel
theorem dWd_setCell_38 : decode prog_12_method_7_code 38 = .ok (.if_icmp .lt 4, 3) := by decide +kernel
theorem dWd_setCell_41 : decode prog_12_method_7_code 41 = .ok (.return_, 1) := by decide +kernel
theorem dWd_setCell_42 : decode prog_12_method_7_code 42 = .ok (.aload_n 0, 1) := by decide +kernel
theorem dWd_setCell_43 : decode prog_12_method_7_code 43 = .ok (.getfield 9, 3) := by decide +kernel
theorem dWd_setCell_46 : decode prog_12_method_7_code 46 = .ok (.iload_n 1, 1) := by decide +kernel
theorem dWd_setCell_47 : decode prog_12_method_7_code 47 = .ok (.iconst 5, 1) := by decide +kernel
theorem dWd_setCell_48 : decode prog_12_method_7_code 48 = .ok (.imul, 1) := by decide +kernel
theorem dWd_setCell_49 : decode prog_12_method_7_code 49 = .ok (.iload_n 2, 1) := by decide +kernel
theorem dWd_setCell_50 : decode prog_12_method_7_code 50 = .ok (.iadd, 1) := by decide +kernel
theorem dWd_setCell_51 : decode prog_12_method_7_code 51 = .ok (.iconst 5, 1) := by decide +kernel
theorem dWd_setCell_52 : decode prog_12_method_7_code 52 = .ok (.imul, 1) := by decide +kernel
theorem dWd_setCell_53 : decode prog_12_method_7_code 53 = .ok (.iload_n 3, 1) := by decide +kernel
theorem dWd_setCell_54 : decode prog_12_method_7_code 54 = .ok (.iadd, 1) := by decide +kernel
theorem dWd_setCell_55 : decode prog_12_method_7_code 55 = .ok (.iload 4, 2) := by decide +kernel
theorem dWd_setCell_57 : decode prog_12_method_7_code 57 = .ok (.aload_n 0, 1) := by decide +kernel
theorem dWd_setCell_58 : decode prog_12_method_7_code 58 = .ok (.getfield 15, 3) := by decide +kernel
theorem dWd_setCell_61 : decode prog_12_method_7_code 61 = .ok (.invokestatic 50, 3) := by decide +kernel
theorem dWd_setCell_64 : decode prog_12_method_7_code 64 = .ok (.iastore, 1) := by decide +kernel
theorem dWd_setCell_65 : decode prog_12_method_7_code 65 = .ok (.aload_n 0, 1) := by decide +kernel
theorem dWd_setCell_66 : decode prog_12_method_7_code 66 = .ok (.getfield 9, 3) := by decide +kernel
theorem dWd_setCell_69 : decode prog_12_method_7_code 69 = .ok (.iload_n 2, 1) := by decide +kernel
theorem dWd_setCell_70 : decode prog_12_method_7_code 70 = .ok (.iconst 5, 1) := by decide +kernel
theorem dWd_setCell_71 : decode prog_12_method_7_code 71 = .ok (.imul, 1) := by decide +kernel
theorem dWd_setCell_72 : decode prog_12_method_7_code 72 = .ok (.iload_n 1, 1) := by decide +kernel
theorem dWd_setCell_73 : decode prog_12_method_7_code 73 = .ok (.iadd, 1) := by decide +kernel
theorem dWd_setCell_74 : decode prog_12_method_7_code 74 = .ok (.iconst 5, 1) := by decide +kernel
theorem dWd_setCell_75 : decode prog_12_method_7_code 75 = .ok (.imul, 1) := by decide +kernel
theorem dWd_setCell_76 : decode prog_12_method_7_code 76 = .ok (.iload_n 3, 1) := by decide +kernel
theorem dWd_setCell_77 : decode prog_12_method_7_code 77 = .ok (.iadd, 1) := by decide +kernel
theorem dWd_setCell_78 : decode prog_12_method_7_code 78 = .ok (.iload 4, 2) := by decide +kernel
theorem dWd_setCell_80 : decode prog_12_method_7_code 80 = .ok (.ineg, 1) := by decide +kernel
theorem dWd_setCell_81 : decode prog_12_method_7_code 81 = .ok (.aload_n 0, 1) := by decide +kernel
theorem dWd_setCell_82 : decode prog_12_method_7_code 82 = .ok (.getfield 15, 3) := by decide +kernel
theorem dWd_setCell_85 : decode prog_12_method_7_code 85 = .ok (.invokestatic 50, 3) := by decide +kernel
theorem dWd_setCell_88 : decode prog_12_method_7_code 88 = .ok (.iastore, 1) := by decide +kernel
theorem dWd_setCell_89 : decode prog_12_method_7_code 89 = .ok (.return_, 1) := by decide +kernel
theorem t_Wd_setCell {d : Nat} {x0 x1 x2 x3 x4 : Int} {σ : SG} {Q : Int → SG → Prop} (h : inI x1 → inI x2 → inI x3 → inI x4 → ((x1 = x2 → Q 0 σ) ∧ (x1 ≠ x2 → (x1 < 0 → Q 0 σ) ∧ (0 ≤ x1 → obok 10 x0 ∧ (σ x0 2 ≤ x1 → Q 0 σ) ∧ (x1 < σ x0 2 → (x2 < 0 → Q 0 σ) ∧ (0 ≤ x2 → obok 10 x0 ∧ (σ x0 2 ≤ x2 → Q 0 σ) ∧ (x2 < σ x0 2 → (x3 < 0 → Q 0 σ) ∧ (0 ≤ x3 → obok 10 x0 ∧ (x3 < σ x0 2 → obok 10 x0 ∧ obok 10 x0 ∧ Tri d M_X_mod [vI x4, vI (σ x0 1)] σ (fun r8 σ8 => wrok 100 (x0 + 1) (w32 ((w32 ((w32 ((w32 (x1 * 5)) + x2)) * 5)) + x3)) ∧ (∀ σ9, σ9 = up σ8 (x0 + 1) (w32 ((w32 ((w32 ((w32 (x1 * 5)) + x2)) * 5)) + x3)) r8 → obok 10 x0 ∧ obok 10 x0 ∧ Tri d M_X_mod [vI (w32 (-x4)), vI (σ9 x0 1)] σ9 (fun r10 σ10 => wrok 100 (x0 + 1) (w32 ((w32 ((w32 ((w32 (x2 * 5)) + x1)) * 5)) + x3)) ∧ (∀ σ11, σ11 = up σ10 (x0 + 1) (w32 ((w32 ((w32 ((w32 (x2 * 5)) + x1)) * 5)) + x3)) r10 → Q 0 σ11))))) ∧ (σ x0 2 ≤ x3 → Q 0 σ))))))))) : Tri (d + 1) M_Wd_setCell [vA x0, vI x1, vI x2, vI x3, vI x4] σ Q :=
  Tri_intro rfl (Nat.le_of_ble_eq_true rfl) (ls := [vA x0, vI x1, vI x2, vI x3, vI x4]) rfl (fun hok => L_iload_n dWd_setCell_0 rfl (L_iload_n dWd_setCell_1 rfl (L_icmp_eq dWd_setCell_2 (by decide) ⟨fun c1 => L_return rfl dWd_setCell_41 ((h (hok _ (List.mem_of_getElem? (i := 1) rfl)) (hok _ (List.mem_of_getElem? (i := 2) rfl)) (hok _ (List.mem_of_getElem? (i := 3) rfl)) (hok _ (List.mem_of_getElem? (i := 4) rfl))).1 c1), fun c1 => L_iload_n dWd_setCell_5 rfl (L_if_lt dWd_setCell_6 (by decide) ⟨fun c2 => L_return rfl dWd_setCell_41 (((h (hok _ (List.mem_of_getElem? (i := 1) rfl)) (hok _ (List.mem_of_getElem? (i := 2) rfl)) (hok _ (List.mem_of_getElem? (i := 3) rfl)) (hok _ (List.mem_of_getElem? (i := 4) rfl))).2 c1).1 c2), fun c2 => L_iload_n dWd_setCell_9 rfl (L_aload_n dWd_setCell_10 rfl (L_getf fw_Wd_19 rfl dWd_setCell_11 ⟨(((h (hok _ (List.mem_of_getElem? (i := 1) rfl)) (hok _ (List.mem_of_getElem? (i := 2) rfl)) (hok _ (List.mem_of_getElem? (i := 3) rfl)) (hok _ (List.mem_of_getElem? (i := 4) rfl))).2 c1).2 c2).1, L_icmp_ge dWd_setCell_14 (by decide) ⟨fun c3 => L_return rfl dWd_setCell_41 ((((h (hok _ (List.mem_of_getElem? (i := 1) rfl)) (hok _ (List.mem_of_getElem? (i := 2) rfl)) (hok _ (List.mem_of_getElem? (i := 3) rfl)) (hok _ (List.mem_of_getElem? (i := 4) rfl))).2 c1).2 c2).2.1 c3), fun c3 => L_iload_n dWd_setCell_17 rfl (L_if_lt dWd_setCell_18 (by decide) ⟨fun c4 => L_return rfl dWd_setCell_41 (((((h (hok _ (List.mem_of_getElem? (i := 1) rfl)) (hok _ (List.mem_of_getElem? (i := 2) rfl)) (hok _ (List.mem_of_getElem? (i := 3) rfl)) (hok _ (List.mem_of_getElem? (i := 4) rfl))).2 c1).2 c2).2.2 c3).1 c4), fun c4 => L_iload_n dWd_setCell_21 rfl (L_aload_n dWd_setCell_22 rfl (L_getf fw_Wd_19 rfl dWd_setCell_23 ⟨(((((h (hok _ (List.mem_of_getElem? (i := 1) rfl)) (hok _ (List.mem_of_getElem? (i := 2) rfl)) (hok _ (List.mem_of_getElem? (i := 3) rfl)) (hok _ (List.mem_of_getElem? (i := 4) rfl))).2 c1).2 c2).2.2 c3).2 c4).1, L_icmp_ge dWd_setCell_26 (by decide) ⟨fun c5 => L_return rfl dWd_setCell_41 ((((((h (hok _ (List.mem_of_getElem? (i := 1) rfl)) (hok _ (List.mem_of_getElem? (i := 2) rfl)) (hok _ (List.mem_of_getElem? (i := 3) rfl)) (hok _ (List.mem_of_getElem? (i := 4) rfl))).2 c1).2 c2).2.2 c3).2 c4).2.1 c5), fun c5 => L_iload_n dWd_setCell_29 rfl (L_if_lt dWd_setCell_30 (by decide) ⟨fun c6 => L_return rfl dWd_setCell_41 (((((((h (hok _ (List.mem_of_getElem? (i := 1) rfl)) (hok _ (List.mem_of_getElem? (i := 2) rfl)) (hok _ (List.mem_of_getElem? (i := 3) rfl)) (hok _ (List.mem_of_getElem? (i := 4) rfl))).2 c1).2 c2).2.2 c3).2 c4).2.2 c5).1 c6), fun c6 => L_iload_n dWd_setCell_33 rfl (L_aload_n dWd_setCell_34 rfl (L_getf fw_Wd_19 rfl dWd_setCell_35 ⟨(((((((h (hok _ (List.mem_of_getElem? (i := 1) rfl)) (hok _ (List.mem_of_getElem? (i := 2) rfl)) (hok _ (List.mem_of_getElem? (i := 3) rfl)) (hok _ (List.mem_of_getElem? (i := 4) rfl))).2 c1).2 c2).2.2 c3).2 c4).2.2 c5).2 c6).1, L_icmp_lt dWd_setCell_38 (by decide) ⟨fun c7 => L_aload_n dWd_setCell_42 rfl (L_getF (b := x0 + 1) fw_Wd_9 rfl rfl (by omega) dWd_setCell_43 ⟨((((((((h (hok _ (List.mem_of_getElem? (i := 1) rfl)) (hok _ (List.mem_of_getElem? (i := 2) rfl)) (hok _ (List.mem_of_getElem? (i := 3) rfl)) (hok _ (List.mem_of_getElem? (i := 4) rfl))).2 c1).2 c2).2.2 c3).2 c4).2.2 c5).2 c6).2.1 c7).1, L_iload_n dWd_setCell_46 rfl (L_iconst dWd_setCell_47 in_5 (L_imul dWd_setCell_48 (L_iload_n dWd_setCell_49 rfl (L_iadd dWd_setCell_50 (L_iconst dWd_setCell_51 in_5 (L_imul dWd_setCell_52 (L_iload_n dWd_setCell_53 rfl (L_iadd dWd_setCell_54 (L_iload dWd_setCell_55 rfl (L_aload_n dWd_setCell_57 rfl (L_getf fw_Wd_15 rfl dWd_setCell_58 ⟨((((((((h (hok _ (List.mem_of_getElem? (i := 1) rfl)) (hok _ (List.mem_of_getElem? (i := 2) rfl)) (hok _ (List.mem_of_getElem? (i := 3) rfl)) (hok _ (List.mem_of_getElem? (i := 4) rfl))).2 c1).2 c2).2.2 c3).2 c4).2.2 c5).2 c6).2.1 c7).2.1, L_callNI rfl cs_X_mod (As := [vI x4, vI (σ x0 1)]) rfl (by decide +kernel) rfl (Nat.le_of_ble_eq_true rfl) dWd_setCell_61 (Tri.mono (((((((((h (hok _ (List.mem_of_getElem? (i := 1) rfl)) (hok _ (List.mem_of_getElem? (i := 2) rfl)) (hok _ (List.mem_of_getElem? (i := 3) rfl)) (hok _ (List.mem_of_getElem? (i := 4) rfl))).2 c1).2 c2).2.2 c3).2 c4).2.2 c5).2 c6).2.1 c7).2.2) (fun r8 σ8 q8 => L_iastoreN dWd_setCell_64 ⟨q8.1, fun σ9 e9 => L_aload_n dWd_setCell_65 rfl (L_getF (b := x0 + 1) fw_Wd_9 rfl rfl (by omega) dWd_setCell_66 ⟨(q8.2 σ9 e9).1, L_iload_n dWd_setCell_69 rfl (L_iconst dWd_setCell_70 in_5 (L_imul dWd_setCell_71 (L_iload_n dWd_setCell_72 rfl (L_iadd dWd_setCell_73 (L_iconst dWd_setCell_74 in_5 (L_imul dWd_setCell_75 (L_iload_n dWd_setCell_76 rfl (L_iadd dWd_setCell_77 (L_iload dWd_setCell_78 rfl (L_ineg dWd_setCell_80 (L_aload_n dWd_setCell_81 rfl (L_getf fw_Wd_15 rfl dWd_setCell_82 ⟨(q8.2 σ9 e9).2.1, L_callNI rfl cs_X_mod (As := [vI (w32 (-x4)), vI (σ9 x0 1)]) rfl (by decide +kernel) rfl (Nat.le_of_ble_eq_true rfl) dWd_setCell_85 (Tri.mono ((q8.2 σ9 e9).2.2) (fun r10 σ10 q10 => L_iastoreN dWd_setCell_88 ⟨q10.1, fun σ11 e11 => L_return rfl dWd_setCell_89 (q10.2 σ11 e11)⟩))⟩))))))))))))⟩)⟩))⟩)))))))))))⟩), fun c7 => L_return rfl dWd_setCell_41 ((((((((h (hok _ (List.mem_of_getElem? (i := 1) rfl)) (hok _ (List.mem_of_getElem? (i := 2) rfl)) (hok _ (List.mem_of_getElem? (i := 3) rfl)) (hok _ (List.mem_of_getElem? (i := 4) rfl))).2 c1).2 c2).2.2 c3).2 c4).2.2 c5).2 c6).2.2 c7)⟩⟩))⟩)⟩⟩))⟩)⟩⟩))⟩)⟩)))
theorem dWd_countCells_0 : decode prog_12_method_8_code 0 = .ok (.iconst 0, 1) := by decide +kernel
theorem dWd_countCells_1 : decode prog_12_method_8_code 1 = .ok (.istore_n 1, 1) := by decide +kernel
theorem dWd_countCells_2 : decode prog_12_method_8_code 2 = .ok (.iconst 0, 1) := by decide +kernel
theorem dWd_countCells_3 : decode prog_12_method_8_code 3 = .ok (.istore_n 2, 1) := by decide +kernel
theorem dWd_countCells_4 : decode prog_12_method_8_code 4 = .ok (.iload_n 2, 1) := by decide +kernel
theorem dWd_countCells_5 : decode prog_12_method_8_code 5 = .ok (.aload_n 0, 1) := by decide +kernel
theorem dWd_countCells_6 : decode prog_12_method_8_code 6 = .ok (.getfield 19, 3) := by decide +kernel
theorem dWd_countCells_9 : decode prog_12_method_8_code 9 = .ok (.if_icmp .ge 64, 3) := by decide +kernel
theorem dWd_countCells_12 : decode prog_12_method_8_code 12 = .ok (.iload_n 2, 1) := by decide +kernel
theorem dWd_countCells_13 : decode prog_12_method_8_code 13 = .ok (.iconst 1, 1) := by decide +kernel
theorem dWd_countCells_14 : decode prog_12_method_8_code 14 = .ok (.iadd, 1) := by decide +kernel
theorem dWd_countCells_15 : decode prog_12_method_8_code 15 = .ok (.istore_n 3, 1) := by decide +kernel
theorem dWd_countCells_16 : decode prog_12_method_8_code 16 = .ok (.iload_n 3, 1) := by decide +kernel
theorem dWd_countCells_17 : decode prog_12_method_8_code 17 = .ok (.aload_n 0, 1) := by decide +kernel
theorem dWd_countCells_18 : decode prog_12_method_8_code 18 = .ok (.getfield 19, 3) := by decide +kernel
theorem dWd_countCells_21 : decode prog_12_method_8_code 21 = .ok (.if_icmp .ge 46, 3) := by decide +kernel
theorem dWd_countCells_24 : decode prog_12_method_8_code 24 = .ok (.iconst 0, 1) := by decide +kernel
theorem dWd_countCells_25 : decode prog_12_method_8_code 25 = .ok (.istore 4, 2) := by decide +kernel
theorem dWd_countCells_27 : decode prog_12_method_8_code 27 = .ok (.iload 4, 2) := by decide +kernel
theorem dWd_countCells_29 : decode prog_12_method_8_code 29 = .ok (.aload_n 0, 1) := by decide +kernel
theorem dWd_countCells_30 : decode prog_12_method_8_code 30 = .ok (.getfield 19, 3) := by decide +kernel
theorem dWd_countCells_33 : decode prog_12_method_8_code 33 = .ok (.if_icmp .ge 28, 3) := by decide +kernel
theorem dWd_countCells_36 : decode prog_12_method_8_code 36 = .ok (.iload_n 1, 1) := by decide +kernel
theorem dWd_countCells_37 : decode prog_12_method_8_code 37 = .ok (.aload_n 0, 1) := by decide +kernel
theorem dWd_countCells_38 : decode prog_12_method_8_code 38 = .ok (.iload_n 2, 1) := by decide +kernel
theorem dWd_countCells_39 : decode prog_12_method_8_code 39 = .ok (.iload_n 3, 1) := by decide +kernel
theorem dWd_countCells_40 : decode prog_12_method_8_code 40 = .ok (.iload 4, 2) := by decide +kernel
theorem dWd_countCells_42 : decode prog_12_method_8_code 42 = .ok (.invokevirtual 53, 3) := by decide +kernel
theorem dWd_countCells_45 : decode prog_12_method_8_code 45 = .ok (.ifCond .ne 7, 3) := by decide +kernel
theorem dWd_countCells_48 : decode prog_12_method_8_code 48 = .ok (.iconst 0, 1) := by decide +kernel
theorem dWd_countCells_49 : decode prog_12_method_8_code 49 = .ok (.goto 4, 3) := by decide +kernel
theorem dWd_countCells_52 : decode prog_12_method_8_code 52 = .ok (.iconst 1, 1) := by decide +kernel
theorem dWd_countCells_53 : decode prog_12_method_8_code 53 = .ok (.iadd, 1) := by decide +kernel
theorem dWd_countCells_54 : decode prog_12_method_8_code 54 = .ok (.istore_n 1, 1) := by decide +kernel
theorem dWd_countCells_55 : decode prog_12_method_8_code 55 = .ok (.iinc 4 1, 3) := by decide +kernel
theorem dWd_countCells_58 : decode prog_12_method_8_code 58 = .ok (.goto (-31), 3) := by decide +kernel
theorem dWd_countCells_61 : decode prog_12_method_8_code 61 = .ok (.iinc 3 1, 3) := by decide +kernel
theorem dWd_countCells_64 : decode prog_12_method_8_code 64 = .ok (.goto (-48), 3) := by decide +kernel
theorem dWd_countCells_67 : decode prog_12_method_8_code 67 = .ok (.iinc 2 1, 3) := by decide +kernel
theorem dWd_countCells_70 : decode prog_12_method_8_code 70 = .ok (.goto (-66), 3) := by decide +kernel
theorem dWd_countCells_73 : decode prog_12_method_8_code 73 = .ok (.iload_n 1, 1) := by decide +kernel
theorem dWd_countCells_74 : decode prog_12_method_8_code 74 = .ok (.ireturn, 1) := by decide +kernel
theorem t_Wd_countCells {d : Nat} {x0 : Int} {σ : SG} {Q : Int → SG → Prop} (h : L (d + 1) M_Wd_countCells 4 [vA x0, vI 0, vI 0, vU, vU] [] σ Q) : Tri (d + 1) M_Wd_countCells [vA x0] σ Q :=
  Tri_intro rfl (Nat.le_of_ble_eq_true rfl) (ls := [vA x0, vU, vU, vU, vU]) rfl (fun hok => L_iconst dWd_countCells_0 in_0 (L_istore_n dWd_countCells_1 (by decide) (L_iconst dWd_countCells_2 in_0 (L_istore_n dWd_countCells_3 (by decide) (h)))))
theorem s_Wd_countCells_4 {d : Nat} {x0 x1 x2 : Int} {σ : SG} {Q : Int → SG → Prop} (h : obok 10 x0 ∧ (σ x0 2 ≤ x2 → Q x1 σ) ∧ (x2 < σ x0 2 → L (d + 1) M_Wd_countCells 16 [vA x0, vI x1, vI x2, vI (w32 (x2 + 1)), vU] [] σ Q)) : L (d + 1) M_Wd_countCells 4 [vA x0, vI x1, vI x2, vU, vU] [] σ Q :=
  L_iload_n dWd_countCells_4 rfl (L_aload_n dWd_countCells_5 rfl (L_getf fw_Wd_19 rfl dWd_countCells_6 ⟨h.1, L_icmp_ge dWd_countCells_9 (by decide) ⟨fun c1 => L_iload_n dWd_countCells_73 rfl (L_ireturn rfl dWd_countCells_74 (h.2.1 c1)), fun c1 => L_iload_n dWd_countCells_12 rfl (L_iconst dWd_countCells_13 in_1 (L_iadd dWd_countCells_14 (L_istore_n dWd_countCells_15 (by decide) (h.2.2 c1))))⟩⟩))
theorem s_Wd_countCells_16 {d : Nat} {x0 x1 x2 x3 : Int} {σ : SG} {Q : Int → SG → Prop} (h : obok 10 x0 ∧ (σ x0 2 ≤ x3 → L (d + 1) M_Wd_countCells 4 [vA x0, vI x1, vI (w32 (x2 + 1)), vU, vU] [] σ Q) ∧ (x3 < σ x0 2 → L (d + 1) M_Wd_countCells 27 [vA x0, vI x1, vI x2, vI x3, vI 0] [] σ Q)) : L (d + 1) M_Wd_countCells 16 [vA x0, vI x1, vI x2, vI x3, vU] [] σ Q :=
  L_iload_n dWd_countCells_16 rfl (L_aload_n dWd_countCells_17 rfl (L_getf fw_Wd_19 rfl dWd_countCells_18 ⟨h.1, L_icmp_ge dWd_countCells_21 (by decide) ⟨fun c1 => L_iinc dWd_countCells_67 rfl (by decide) (L_goto dWd_countCells_70 (by decide) (L_weak [true, true, true, false, true] (h.2.1 c1))), fun c1 => L_iconst dWd_countCells_24 in_0 (L_istore dWd_countCells_25 (by decide) (h.2.2 c1))⟩⟩))
theorem s_Wd_countCells_27 {d : Nat} {x0 x1 x2 x3 x4 : Int} {σ : SG} {Q : Int → SG → Prop} (h : obok 10 x0 ∧ (σ x0 2 ≤ x4 → L (d + 1) M_Wd_countCells 16 [vA x0, vI x1, vI x2, vI (w32 (x3 + 1)), vU] [] σ Q) ∧ (x4 < σ x0 2 → obok 10 x0 ∧ Tri d M_Wd_cell [vA x0, vI x2, vI x3, vI x4] σ (fun r2 σ2 => (r2 ≠ 0 → L (d + 1) M_Wd_countCells 27 [vA x0, vI (w32 (x1 + 1)), vI x2, vI x3, vI (w32 (x4 + 1))] [] σ2 Q) ∧ (r2 = 0 → L (d + 1) M_Wd_countCells 27 [vA x0, vI (w32 (x1 + 0)), vI x2, vI x3, vI (w32 (x4 + 1))] [] σ2 Q)))) : L (d + 1) M_Wd_countCells 27 [vA x0, vI x1, vI x2, vI x3, vI x4] [] σ Q :=
  L_iload dWd_countCells_27 rfl (L_aload_n dWd_countCells_29 rfl (L_getf fw_Wd_19 rfl dWd_countCells_30 ⟨h.1, L_icmp_ge dWd_countCells_33 (by decide) ⟨fun c1 => L_iinc dWd_countCells_61 rfl (by decide) (L_goto dWd_countCells_64 (by decide) (L_weak [true, true, true, true, false] (h.2.1 c1))), fun c1 => L_iload_n dWd_countCells_36 rfl (L_aload_n dWd_countCells_37 rfl (L_iload_n dWd_countCells_38 rfl (L_iload_n dWd_countCells_39 rfl (L_iload dWd_countCells_40 rfl (L_callVI rfl cv_Wd_cell (As := [vI x2, vI x3, vI x4]) rfl (tk4 45 rfl rfl) rfl (Nat.le_of_ble_eq_true rfl) dWd_countCells_42 ⟨(h.2.2 c1).1, Tri.mono ((h.2.2 c1).2) (fun r2 σ2 q2 => L_if_ne dWd_countCells_45 (by decide) ⟨fun c3 => L_iconst dWd_countCells_52 in_1 (L_iadd dWd_countCells_53 (L_istore_n dWd_countCells_54 (by decide) (L_iinc dWd_countCells_55 rfl (by decide) (L_goto dWd_countCells_58 (by decide) (q2.1 c3))))), fun c3 => L_iconst dWd_countCells_48 in_0 (L_goto dWd_countCells_49 (by decide) (L_iadd dWd_countCells_53 (L_istore_n dWd_countCells_54 (by decide) (L_iinc dWd_countCells_55 rfl (by decide) (L_goto dWd_countCells_58 (by decide) (q2.2 c3))))))⟩)⟩)))))⟩⟩))
theorem dWd_unpack_0 : decode prog_12_method_9_code 0 = .ok (.iload_n 1, 1) := by decide +kernel
theorem dWd_unpack_1 : decode prog_12_method_9_code 1 = .ok (.istore 4, 2) := by decide +kernel
theorem dWd_unpack_3 : decode prog_12_method_9_code 3 = .ok (.iconst 0, 1) := by decide +kernel
theorem dWd_unpack_4 : decode prog_12_method_9_code 4 = .ok (.istore 5, 2) := by decide +kernel
theorem dWd_unpack_6 : decode prog_12_method_9_code 6 = .ok (.iload 5, 2) := by decide +kernel
theorem dWd_unpack_8 : decode prog_12_method_9_code 8 = .ok (.aload_n 0, 1) := by decide +kernel
theorem dWd_unpack_9 : decode prog_12_method_9_code 9 = .ok (.getfield 19, 3) := by decide +kernel
theorem dWd_unpack_12 : decode prog_12_method_9_code 12 = .ok (.if_icmp .ge 61, 3) := by decide +kernel
theorem dWd_unpack_15 : decode prog_12_method_9_code 15 = .ok (.iload_n 3, 1) := by decide +kernel
theorem dWd_unpack_16 : decode prog_12_method_9_code 16 = .ok (.iload 5, 2) := by decide +kernel
theorem dWd_unpack_18 : decode prog_12_method_9_code 18 = .ok (.iadd, 1) := by decide +kernel
theorem dWd_unpack_19 : decode prog_12_method_9_code 19 = .ok (.aload_n 2, 1) := by decide +kernel
theorem dWd_unpack_20 : decode prog_12_method_9_code 20 = .ok (.arraylength, 1) := by decide +kernel
theorem dWd_unpack_21 : decode prog_12_method_9_code 21 = .ok (.if_icmp .ge 52, 3) := by decide +kernel
theorem dWd_unpack_24 : decode prog_12_method_9_code 24 = .ok (.iload 4, 2) := by decide +kernel
theorem dWd_unpack_26 : decode prog_12_method_9_code 26 = .ok (.aload_n 0, 1) := by decide +kernel
theorem dWd_unpack_27 : decode prog_12_method_9_code 27 = .ok (.getfield 15, 3) := by decide +kernel
theorem dWd_unpack_30 : decode prog_12_method_9_code 30 = .ok (.invokestatic 50, 3) := by decide +kernel
theorem dWd_unpack_33 : decode prog_12_method_9_code 33 = .ok (.istore 6, 2) := by decide +kernel
theorem dWd_unpack_35 : decode prog_12_method_9_code 35 = .ok (.aload_n 2, 1) := by decide +kernel
theorem dWd_unpack_36 : decode prog_12_method_9_code 36 = .ok (.iload_n 3, 1) := by decide +kernel
theorem dWd_unpack_37 : decode prog_12_method_9_code 37 = .ok (.iload 5, 2) := by decide +kernel
theorem dWd_unpack_39 : decode prog_12_method_9_code 39 = .ok (.iadd, 1) := by decide +kernel
theorem dWd_unpack_40 : decode prog_12_method_9_code 40 = .ok (.iload 6, 2) := by decide +kernel
theorem dWd_unpack_42 : decode prog_12_method_9_code 42 = .ok (.iastore, 1) := by decide +kernel
theorem dWd_unpack_43 : decode prog_12_method_9_code 43 = .ok (.aload_n 0, 1) := by decide +kernel
theorem dWd_unpack_44 : decode prog_12_method_9_code 44 = .ok (.getfield 15, 3) := by decide +kernel
theorem dWd_unpack_47 : decode prog_12_method_9_code 47 = .ok (.iconst 2, 1) := by decide +kernel
theorem dWd_unpack_48 : decode prog_12_method_9_code 48 = .ok (.if_icmp .ge 7, 3) := by decide +kernel
theorem dWd_unpack_51 : decode prog_12_method_9_code 51 = .ok (.iconst 0, 1) := by decide +kernel
theorem dWd_unpack_52 : decode prog_12_method_9_code 52 = .ok (.goto 13, 3) := by decide +kernel
theorem dWd_unpack_55 : decode prog_12_method_9_code 55 = .ok (.iload 4, 2) := by decide +kernel
theorem dWd_unpack_57 : decode prog_12_method_9_code 57 = .ok (.iload 6, 2) := by decide +kernel
theorem dWd_unpack_59 : decode prog_12_method_9_code 59 = .ok (.isub, 1) := by decide +kernel
theorem dWd_unpack_60 : decode prog_12_method_9_code 60 = .ok (.aload_n 0, 1) := by decide +kernel
theorem dWd_unpack_61 : decode prog_12_method_9_code 61 = .ok (.getfield 15, 3) := by decide +kernel
theorem dWd_unpack_64 : decode prog_12_method_9_code 64 = .ok (.idiv, 1) := by decide +kernel
theorem dWd_unpack_65 : decode prog_12_method_9_code 65 = .ok (.istore 4, 2) := by decide +kernel
theorem dWd_unpack_67 : decode prog_12_method_9_code 67 = .ok (.iinc 5 1, 3) := by decide +kernel
theorem dWd_unpack_70 : decode prog_12_method_9_code 70 = .ok (.goto (-64), 3) := by decide +kernel
theorem dWd_unpack_73 : decode prog_12_method_9_code 73 = .ok (.return_, 1) := by decide +kernel
theorem t_Wd_unpack {d : Nat} {x0 x1 x2 x3 : Int} {σ : SG} {Q : Int → SG → Prop} (h : inI x1 → inI x3 → (L (d + 1) M_Wd_unpack 6 [vA x0, vU, vA x2, vI x3, vI x1, vI 0, vU] [] σ Q)) : Tri (d + 1) M_Wd_unpack [vA x0, vI x1, vA x2, vI x3] σ Q :=
  Tri_intro rfl (Nat.le_of_ble_eq_true rfl) (ls := [vA x0, vI x1, vA x2, vI x3, vU, vU, vU]) rfl (fun hok => L_iload_n dWd_unpack_0 rfl (L_istore dWd_unpack_1 (by decide) (L_iconst dWd_unpack_3 in_0 (L_istore dWd_unpack_4 (by decide) (L_weak [true, false, true, true, true, true, true] ((h (hok _ (List.mem_of_getElem? (i := 1) rfl)) (hok _ (List.mem_of_getElem? (i := 3) rfl)))))))))
theorem s_Wd_unpack_6 {d : Nat} {x0 x2 x3 x4 x5 : Int} {σ : SG} {Q : Int → SG → Prop} (h : obok 10 x0 ∧ (σ x0 2 ≤ x5 → Q 0 σ) ∧ (x5 < σ x0 2 → (kd x2).1 = 100 ∧ (((kd x2).2 : Int) ≤ w32 (x3 + x5) → Q 0 σ) ∧ (w32 (x3 + x5) < ((kd x2).2 : Int) → obok 10 x0 ∧ Tri d M_X_mod [vI x4, vI (σ x0 1)] σ (fun r3 σ3 => wrok 100 x2 (w32 (x3 + x5)) ∧ (∀ σ4, σ4 = up σ3 x2 (w32 (x3 + x5)) r3 → obok 10 x0 ∧ (2 ≤ σ4 x0 1 → obok 10 x0 ∧ σ4 x0 1 ≠ 0 ∧ L (d + 1) M_Wd_unpack 6 [vA x0, vU, vA x2, vI x3, vI (w32 ((w32 (x4 - r3)).tdiv (σ4 x0 1))), vI (w32 (x5 + 1)), vU] [] σ4 Q) ∧ (σ4 x0 1 < 2 → L (d + 1) M_Wd_unpack 6 [vA x0, vU, vA x2, vI x3, vI 0, vI (w32 (x5 + 1)), vU] [] σ4 Q)))))) : L (d + 1) M_Wd_unpack 6 [vA x0, vU, vA x2, vI x3, vI x4, vI x5, vU] [] σ Q :=
  L_iload dWd_unpack_6 rfl (L_aload_n dWd_unpack_8 rfl (L_getf fw_Wd_19 rfl dWd_unpack_9 ⟨h.1, L_icmp_ge dWd_unpack_12 (by decide) ⟨fun c1 => L_return rfl dWd_unpack_73 (h.2.1 c1), fun c1 => L_iload_n dWd_unpack_15 rfl (L_iload dWd_unpack_16 rfl (L_iadd dWd_unpack_18 (L_aload_n dWd_unpack_19 rfl (L_alenU dWd_unpack_20 ⟨(h.2.2 c1).1, L_icmp_ge dWd_unpack_21 (by decide) ⟨fun c2 => L_return rfl dWd_unpack_73 ((h.2.2 c1).2.1 c2), fun c2 => L_iload dWd_unpack_24 rfl (L_aload_n dWd_unpack_26 rfl (L_getf fw_Wd_15 rfl dWd_unpack_27 ⟨((h.2.2 c1).2.2 c2).1, L_callNI rfl cs_X_mod (As := [vI x4, vI (σ x0 1)]) rfl (by decide +kernel) rfl (Nat.le_of_ble_eq_true rfl) dWd_unpack_30 (Tri.mono (((h.2.2 c1).2.2 c2).2) (fun r3 σ3 q3 => L_istore dWd_unpack_33 (by decide) (L_aload_n dWd_unpack_35 rfl (L_iload_n dWd_unpack_36 rfl (L_iload dWd_unpack_37 rfl (L_iadd dWd_unpack_39 (L_iload dWd_unpack_40 rfl (L_iastoreN dWd_unpack_42 ⟨q3.1, fun σ4 e4 => L_aload_n dWd_unpack_43 rfl (L_getf fw_Wd_15 rfl dWd_unpack_44 ⟨(q3.2 σ4 e4).1, L_iconst dWd_unpack_47 in_2 (L_icmp_ge dWd_unpack_48 (by decide) ⟨fun c5 => L_iload dWd_unpack_55 rfl (L_iload dWd_unpack_57 rfl (L_isub dWd_unpack_59 (L_aload_n dWd_unpack_60 rfl (L_getf fw_Wd_15 rfl dWd_unpack_61 ⟨((q3.2 σ4 e4).2.1 c5).1, L_idiv dWd_unpack_64 ⟨((q3.2 σ4 e4).2.1 c5).2.1, L_istore dWd_unpack_65 (by decide) (L_iinc dWd_unpack_67 rfl (by decide) (L_goto dWd_unpack_70 (by decide) (L_weak [true, true, true, true, true, true, false] (((q3.2 σ4 e4).2.1 c5).2.2))))⟩⟩)))), fun c5 => L_iconst dWd_unpack_51 in_0 (L_goto dWd_unpack_52 (by decide) (L_istore dWd_unpack_65 (by decide) (L_iinc dWd_unpack_67 rfl (by decide) (L_goto dWd_unpack_70 (by decide) (L_weak [true, true, true, true, true, true, false] ((q3.2 σ4 e4).2.2 c5))))))⟩)⟩)⟩))))))))⟩))⟩⟩))))⟩⟩))
theorem dWd_pack_0 : decode prog_12_method_10_code 0 = .ok (.iconst 0, 1) := by decide +kernel
theorem dWd_pack_1 : decode prog_12_method_10_code 1 = .ok (.istore_n 2, 1) := by decide +kernel
theorem dWd_pack_2 : decode prog_12_method_10_code 2 = .ok (.aload_n 0, 1) := by decide +kernel
theorem dWd_pack_3 : decode prog_12_method_10_code 3 = .ok (.getfield 19, 3) := by decide +kernel
theorem dWd_pack_6 : decode prog_12_method_10_code 6 = .ok (.aload_n 1, 1) := by decide +kernel
theorem dWd_pack_7 : decode prog_12_method_10_code 7 = .ok (.arraylength, 1) := by decide +kernel
theorem dWd_pack_8 : decode prog_12_method_10_code 8 = .ok (.invokestatic 26, 3) := by decide +kernel
theorem dWd_pack_11 : decode prog_12_method_10_code 11 = .ok (.iconst 1, 1) := by decide +kernel
theorem dWd_pack_12 : decode prog_12_method_10_code 12 = .ok (.isub, 1) := by decide +kernel
theorem dWd_pack_13 : decode prog_12_method_10_code 13 = .ok (.istore_n 3, 1) := by decide +kernel
theorem dWd_pack_14 : decode prog_12_method_10_code 14 = .ok (.iload_n 3, 1) := by decide +kernel
theorem dWd_pack_15 : decode prog_12_method_10_code 15 = .ok (.ifCond .lt 20, 3) := by decide +kernel
theorem dWd_pack_18 : decode prog_12_method_10_code 18 = .ok (.iload_n 2, 1) := by decide +kernel
theorem dWd_pack_19 : decode prog_12_method_10_code 19 = .ok (.aload_n 0, 1) := by decide +kernel
theorem dWd_pack_20 : decode prog_12_method_10_code 20 = .ok (.getfield 15, 3) := by decide +kernel
theorem dWd_pack_23 : decode prog_12_method_10_code 23 = .ok (.imul, 1) := by decide +kernel
theorem dWd_pack_24 : decode prog_12_method_10_code 24 = .ok (.aload_n 1, 1) := by decide +kernel
theorem dWd_pack_25 : decode prog_12_method_10_code 25 = .ok (.iload_n 3, 1) := by decide +kernel
theorem dWd_pack_26 : decode prog_12_method_10_code 26 = .ok (.iaload, 1) := by decide +kernel
theorem dWd_pack_27 : decode prog_12_method_10_code 27 = .ok (.iadd, 1) := by decide +kernel
theorem dWd_pack_28 : decode prog_12_method_10_code 28 = .ok (.istore_n 2, 1) := by decide +kernel
theorem dWd_pack_29 : decode prog_12_method_10_code 29 = .ok (.iinc 3 (-1), 3) := by decide +kernel
theorem dWd_pack_32 : decode prog_12_method_10_code 32 = .ok (.goto (-18), 3) := by decide +kernel
theorem dWd_pack_35 : decode prog_12_method_10_code 35 = .ok (.iload_n 2, 1) := by decide +kernel
theorem dWd_pack_36 : decode prog_12_method_10_code 36 = .ok (.ireturn, 1) := by decide +kernel
theorem t_Wd_pack {d : Nat} {x0 x1 : Int} {σ : SG} {Q : Int → SG → Prop} (h : obok 10 x0 ∧ (kd x1).1 = 100 ∧ L (d + 1) M_Wd_pack 14 [vA x0, vA x1, vI 0, vI (w32 ((min (σ x0 2) ((kd x1).2 : Int)) - 1))] [] σ Q) : Tri (d + 1) M_Wd_pack [vA x0, vA x1] σ Q :=
  Tri_intro rfl (Nat.le_of_ble_eq_true rfl) (ls := [vA x0, vA x1, vU, vU]) rfl (fun hok => L_iconst dWd_pack_0 in_0 (L_istore_n dWd_pack_1 (by decide) (L_aload_n dWd_pack_2 rfl (L_getf fw_Wd_19 rfl dWd_pack_3 ⟨h.1, L_aload_n dWd_pack_6 rfl (L_alenU dWd_pack_7 ⟨h.2.1, L_min (tk3 171 rfl rfl) (Nat.le_of_ble_eq_true rfl) dWd_pack_8 (L_iconst dWd_pack_11 in_1 (L_isub dWd_pack_12 (L_istore_n dWd_pack_13 (by decide) (h.2.2))))⟩)⟩))))
theorem s_Wd_pack_14 {d : Nat} {x0 x1 x2 x3 : Int} {σ : SG} {Q : Int → SG → Prop} (h : (x3 < 0 → Q x2 σ) ∧ (0 ≤ x3 → obok 10 x0 ∧ rdok 100 x1 x3 ∧ L (d + 1) M_Wd_pack 14 [vA x0, vA x1, vI (w32 ((w32 (x2 * (σ x0 1))) + (σ x1 x3))), vI (w32 (x3 + (-1)))] [] σ Q)) : L (d + 1) M_Wd_pack 14 [vA x0, vA x1, vI x2, vI x3] [] σ Q :=
  L_iload_n dWd_pack_14 rfl (L_if_lt dWd_pack_15 (by decide) ⟨fun c1 => L_iload_n dWd_pack_35 rfl (L_ireturn rfl dWd_pack_36 (h.1 c1)), fun c1 => L_iload_n dWd_pack_18 rfl (L_aload_n dWd_pack_19 rfl (L_getf fw_Wd_15 rfl dWd_pack_20 ⟨(h.2 c1).1, L_imul dWd_pack_23 (L_aload_n dWd_pack_24 rfl (L_iload_n dWd_pack_25 rfl (L_iaload dWd_pack_26 ⟨(h.2 c1).2.1, L_iadd dWd_pack_27 (L_istore_n dWd_pack_28 (by decide) (L_iinc dWd_pack_29 rfl (by decide) (L_goto dWd_pack_32 (by decide) ((h.2 c1).2.2))))⟩)))⟩))⟩)
theorem dWd_bracketInto_0 : decode prog_12_method_11_code 0 = .ok (.iload_n 2, 1) := by decide +kernel
theorem dWd_bracketInto_1 : decode prog_12_method_11_code 1 = .ok (.ifCond .lt 41, 3) := by decide +kernel
theorem dWd_bracketInto_4 : decode prog_12_method_11_code 4 = .ok (.iload 4, 2) := by decide +kernel
theorem dWd_bracketInto_6 : decode prog_12_method_11_code 6 = .ok (.ifCond .lt 36, 3) := by decide +kernel
theorem dWd_bracketInto_9 : decode prog_12_method_11_code 9 = .ok (.iload_n 2, 1) := by decide +kernel
theorem dWd_bracketInto_10 : decode prog_12_method_11_code 10 = .ok (.aload_n 0, 1) := by decide +kernel
theorem dWd_bracketInto_11 : decode prog_12_method_11_code 11 = .ok (.getfield 19, 3) := by decide +kernel
theorem dWd_bracketInto_14 : decode prog_12_method_11_code 14 = .ok (.iadd, 1) := by decide +kernel
theorem dWd_bracketInto_15 : decode prog_12_method_11_code 15 = .ok (.aload_n 1, 1) := by decide +kernel
theorem dWd_bracketInto_16 : decode prog_12_method_11_code 16 = .ok (.arraylength, 1) := by decide +kernel
theorem dWd_bracketInto_17 : decode prog_12_method_11_code 17 = .ok (.if_icmp .gt 25, 3) := by decide +kernel
theorem dWd_bracketInto_20 : decode prog_12_method_11_code 20 = .ok (.iload 4, 2) := by decide +kernel
theorem dWd_bracketInto_22 : decode prog_12_method_11_code 22 = .ok (.aload_n 0, 1) := by decide +kernel
theorem dWd_bracketInto_23 : decode prog_12_method_11_code 23 = .ok (.getfield 19, 3) := by decide +kernel
theorem dWd_bracketInto_26 : decode prog_12_method_11_code 26 = .ok (.iadd, 1) := by decide +kernel
theorem dWd_bracketInto_27 : decode prog_12_method_11_code 27 = .ok (.aload_n 3, 1) := by decide +kernel
theorem dWd_bracketInto_28 : decode prog_12_method_11_code 28 = .ok (.arraylength, 1) := by decide +kernel
theorem dWd_bracketInto_29 : decode prog_12_method_11_code 29 = .ok (.if_icmp .gt 13, 3) := by decide +kernel
theorem dWd_bracketInto_32 : decode prog_12_method_11_code 32 = .ok (.aload_n 0, 1) := by decide +kernel
theorem dWd_bracketInto_33 : decode prog_12_method_11_code 33 = .ok (.getfield 19, 3) := by decide +kernel
theorem dWd_bracketInto_36 : decode prog_12_method_11_code 36 = .ok (.aload 5, 2) := by decide +kernel
theorem dWd_bracketInto_38 : decode prog_12_method_11_code 38 = .ok (.arraylength, 1) := by decide +kernel
theorem dWd_bracketInto_39 : decode prog_12_method_11_code 39 = .ok (.if_icmp .le 4, 3) := by decide +kernel
theorem dWd_bracketInto_42 : decode prog_12_method_11_code 42 = .ok (.return_, 1) := by decide +kernel
theorem dWd_bracketInto_43 : decode prog_12_method_11_code 43 = .ok (.aload 5, 2) := by decide +kernel
theorem dWd_bracketInto_45 : decode prog_12_method_11_code 45 = .ok (.iconst 0, 1) := by decide +kernel
theorem dWd_bracketInto_46 : decode prog_12_method_11_code 46 = .ok (.aload_n 0, 1) := by decide +kernel
theorem dWd_bracketInto_47 : decode prog_12_method_11_code 47 = .ok (.getfield 19, 3) := by decide +kernel
theorem dWd_bracketInto_50 : decode prog_12_method_11_code 50 = .ok (.iconst 0, 1) := by decide +kernel
theorem dWd_bracketInto_51 : decode prog_12_method_11_code 51 = .ok (.invokestatic 57, 3) := by decide +kernel
theorem dWd_bracketInto_54 : decode prog_12_method_11_code 54 = .ok (.iconst 0, 1) := by decide +kernel
theorem dWd_bracketInto_55 : decode prog_12_method_11_code 55 = .ok (.istore 6, 2) := by decide +kernel
theorem dWd_bracketInto_57 : decode prog_12_method_11_code 57 = .ok (.iload 6, 2) := by decide +kernel
theorem dWd_bracketInto_59 : decode prog_12_method_11_code 59 = .ok (.aload_n 0, 1) := by decide +kernel
theorem dWd_bracketInto_60 : decode prog_12_method_11_code 60 = .ok (.getfield 19, 3) := by decide +kernel
theorem dWd_bracketInto_63 : decode prog_12_method_11_code 63 = .ok (.if_icmp .ge 78, 3) := by decide +kernel
theorem dWd_bracketInto_66 : decode prog_12_method_11_code 66 = .ok (.iload 6, 2) := by decide +kernel
theorem dWd_bracketInto_68 : decode prog_12_method_11_code 68 = .ok (.iconst 1, 1) := by decide +kernel
theorem dWd_bracketInto_69 : decode prog_12_method_11_code 69 = .ok (.iadd, 1) := by decide +kernel
theorem dWd_bracketInto_70 : decode prog_12_method_11_code 70 = .ok (.istore 7, 2) := by decide +kernel
theorem dWd_bracketInto_72 : decode prog_12_method_11_code 72 = .ok (.iload 7, 2) := by decide +kernel
theorem dWd_bracketInto_74 : decode prog_12_method_11_code 74 = .ok (.aload_n 0, 1) := by decide +kernel
theorem dWd_bracketInto_75 : decode prog_12_method_11_code 75 = .ok (.getfield 19, 3) := by decide +kernel
theorem dWd_bracketInto_78 : decode prog_12_method_11_code 78 = .ok (.if_icmp .ge 57, 3) := by decide +kernel
theorem dWd_bracketInto_81 : decode prog_12_method_11_code 81 = .ok (.aload_n 1, 1) := by decide +kernel
theorem dWd_bracketInto_82 : decode prog_12_method_11_code 82 = .ok (.iload_n 2, 1) := by decide +kernel
theorem dWd_bracketInto_83 : decode prog_12_method_11_code 83 = .ok (.iload 6, 2) := by decide +kernel
theorem dWd_bracketInto_85 : decode prog_12_method_11_code 85 = .ok (.iadd, 1) := by decide +kernel
theorem dWd_bracketInto_86 : decode prog_12_method_11_code 86 = .ok (.iaload, 1) := by decide +kernel
theorem dWd_bracketInto_87 : decode prog_12_method_11_code 87 = .ok (.aload_n 3, 1) := by decide +kernel
theorem dWd_bracketInto_88 : decode prog_12_method_11_code 88 = .ok (.iload 4, 2) := by decide +kernel
theorem dWd_bracketInto_90 : decode prog_12_method_11_code 90 = .ok (.iload 7, 2) := by decide +kernel
theorem dWd_bracketInto_92 : decode prog_12_method_11_code 92 = .ok (.iadd, 1) := by decide +kernel
theorem dWd_bracketInto_93 : decode prog_12_method_11_code 93 = .ok (.iaload, 1) := by decide +kernel
theorem dWd_bracketInto_94 : decode prog_12_method_11_code 94 = .ok (.imul, 1) := by decide +kernel
theorem dWd_bracketInto_95 : decode prog_12_method_11_code 95 = .ok (.aload_n 1, 1) := by decide +kernel
theorem dWd_bracketInto_96 : decode prog_12_method_11_code 96 = .ok (.iload_n 2, 1) := by decide +kernel
theorem dWd_bracketInto_97 : decode prog_12_method_11_code 97 = .ok (.iload 7, 2) := by decide +kernel
theorem dWd_bracketInto_99 : decode prog_12_method_11_code 99 = .ok (.iadd, 1) := by decide +kernel
theorem dWd_bracketInto_100 : decode prog_12_method_11_code 100 = .ok (.iaload, 1) := by decide +kernel
theorem dWd_bracketInto_101 : decode prog_12_method_11_code 101 = .ok (.aload_n 3, 1) := by decide +kernel
theorem dWd_bracketInto_102 : decode prog_12_method_11_code 102 = .ok (.iload 4, 2) := by decide +kernel
theorem dWd_bracketInto_104 : decode prog_12_method_11_code 104 = .ok (.iload 6, 2) := by decide +kernel
theorem dWd_bracketInto_106 : decode prog_12_method_11_code 106 = .ok (.iadd, 1) := by decide +kernel
theorem dWd_bracketInto_107 : decode prog_12_method_11_code 107 = .ok (.iaload, 1) := by decide +kernel
theorem dWd_bracketInto_108 : decode prog_12_method_11_code 108 = .ok (.imul, 1) := by decide +kernel
theorem dWd_bracketInto_109 : decode prog_12_method_11_code 109 = .ok (.isub, 1) := by decide +kernel
theorem dWd_bracketInto_110 : decode prog_12_method_11_code 110 = .ok (.istore 8, 2) := by decide +kernel
theorem dWd_bracketInto_112 : decode prog_12_method_11_code 112 = .ok (.iload 8, 2) := by decide +kernel
theorem dWd_bracketInto_114 : decode prog_12_method_11_code 114 = .ok (.ifCond .eq 15, 3) := by decide +kernel
theorem dWd_bracketInto_117 : decode prog_12_method_11_code 117 = .ok (.aload_n 0, 1) := by decide +kernel
theorem dWd_bracketInto_118 : decode prog_12_method_11_code 118 = .ok (.iload 6, 2) := by decide +kernel
theorem dWd_bracketInto_120 : decode prog_12_method_11_code 120 = .ok (.iload 7, 2) := by decide +kernel
theorem dWd_bracketInto_122 : decode prog_12_method_11_code 122 = .ok (.iload 8, 2) := by decide +kernel
theorem dWd_bracketInto_124 : decode prog_12_method_11_code 124 = .ok (.aload 5, 2) := by decide +kernel
theorem dWd_bracketInto_126 : decode prog_12_method_11_code 126 = .ok (.invokevirtual 60, 3) := by decide +kernel
theorem dWd_bracketInto_129 : decode prog_12_method_11_code 129 = .ok (.iinc 7 1, 3) := by decide +kernel
theorem dWd_bracketInto_132 : decode prog_12_method_11_code 132 = .ok (.goto (-60), 3) := by decide +kernel
theorem dWd_bracketInto_135 : decode prog_12_method_11_code 135 = .ok (.iinc 6 1, 3) := by decide +kernel
theorem dWd_bracketInto_138 : decode prog_12_method_11_code 138 = .ok (.goto (-81), 3) := by decide +kernel
theorem dWd_bracketInto_141 : decode prog_12_method_11_code 141 = .ok (.iconst 0, 1) := by decide +kernel
theorem dWd_bracketInto_142 : decode prog_12_method_11_code 142 = .ok (.istore 6, 2) := by decide +kernel
theorem dWd_bracketInto_144 : decode prog_12_method_11_code 144 = .ok (.iload 6, 2) := by decide +kernel
theorem dWd_bracketInto_146 : decode prog_12_method_11_code 146 = .ok (.aload_n 0, 1) := by decide +kernel
theorem dWd_bracketInto_147 : decode prog_12_method_11_code 147 = .ok (.getfield 19, 3) := by decide +kernel
theorem dWd_bracketInto_150 : decode prog_12_method_11_code 150 = .ok (.if_icmp .ge 26, 3) := by decide +kernel
theorem dWd_bracketInto_153 : decode prog_12_method_11_code 153 = .ok (.aload 5, 2) := by decide +kernel
theorem dWd_bracketInto_155 : decode prog_12_method_11_code 155 = .ok (.iload 6, 2) := by decide +kernel
theorem dWd_bracketInto_157 : decode prog_12_method_11_code 157 = .ok (.aload 5, 2) := by decide +kernel
theorem dWd_bracketInto_159 : decode prog_12_method_11_code 159 = .ok (.iload 6, 2) := by decide +kernel
theorem dWd_bracketInto_161 : decode prog_12_method_11_code 161 = .ok (.iaload, 1) := by decide +kernel
theorem dWd_bracketInto_162 : decode prog_12_method_11_code 162 = .ok (.aload_n 0, 1) := by decide +kernel
theorem dWd_bracketInto_163 : decode prog_12_method_11_code 163 = .ok (.getfield 15, 3) := by decide +kernel
theorem dWd_bracketInto_166 : decode prog_12_method_11_code 166 = .ok (.invokestatic 50, 3) := by decide +kernel
theorem dWd_bracketInto_169 : decode prog_12_method_11_code 169 = .ok (.iastore, 1) := by decide +kernel
theorem dWd_bracketInto_170 : decode prog_12_method_11_code 170 = .ok (.iinc 6 1, 3) := by decide +kernel
theorem dWd_bracketInto_173 : decode prog_12_method_11_code 173 = .ok (.goto (-29), 3) := by decide +kernel
theorem dWd_bracketInto_176 : decode prog_12_method_11_code 176 = .ok (.return_, 1) := by decide +kernel
theorem t_Wd_bracketInto {d : Nat} {x0 x1 x2 x3 x4 x5 : Int} {σ : SG} {Q : Int → SG → Prop} (h : inI x2 → inI x4 → ((x2 < 0 → Q 0 σ) ∧ (0 ≤ x2 → (x4 < 0 → Q 0 σ) ∧ (0 ≤ x4 → obok 10 x0 ∧ (kd x1).1 = 100 ∧ (((kd x1).2 : Int) < w32 (x2 + (σ x0 2)) → Q 0 σ) ∧ (w32 (x2 + (σ x0 2)) ≤ ((kd x1).2 : Int) → obok 10 x0 ∧ (kd x3).1 = 100 ∧ (((kd x3).2 : Int) < w32 (x4 + (σ x0 2)) → Q 0 σ) ∧ (w32 (x4 + (σ x0 2)) ≤ ((kd x3).2 : Int) → obok 10 x0 ∧ (kd x5).1 = 100 ∧ (σ x0 2 ≤ ((kd x5).2 : Int) → obok 10 x0 ∧ Tri d M_JA_fill___IIII_V [vA x5, vI 0, vI (σ x0 2), vI 0] σ (fun r6 σ6 => L (d + 1) M_Wd_bracketInto 57 [vA x0, vA x1, vI x2, vA x3, vI x4, vA x5, vI 0, vU, vU] [] σ6 Q)) ∧ (((kd x5).2 : Int) < σ x0 2 → Q 0 σ))))))) : Tri (d + 1) M_Wd_bracketInto [vA x0, vA x1, vI x2, vA x3, vI x4, vA x5] σ Q :=
  Tri_intro rfl (Nat.le_of_ble_eq_true rfl) (ls := [vA x0, vA x1, vI x2, vA x3, vI x4, vA x5, vU, vU, vU]) rfl (fun hok => L_iload_n dWd_bracketInto_0 rfl (L_if_lt dWd_bracketInto_1 (by decide) ⟨fun c1 => L_return rfl dWd_bracketInto_42 ((h (hok _ (List.mem_of_getElem? (i := 2) rfl)) (hok _ (List.mem_of_getElem? (i := 4) rfl))).1 c1), fun c1 => L_iload dWd_bracketInto_4 rfl (L_if_lt dWd_bracketInto_6 (by decide) ⟨fun c2 => L_return rfl dWd_bracketInto_42 (((h (hok _ (List.mem_of_getElem? (i := 2) rfl)) (hok _ (List.mem_of_getElem? (i := 4) rfl))).2 c1).1 c2), fun c2 => L_iload_n dWd_bracketInto_9 rfl (L_aload_n dWd_bracketInto_10 rfl (L_getf fw_Wd_19 rfl dWd_bracketInto_11 ⟨(((h (hok _ (List.mem_of_getElem? (i := 2) rfl)) (hok _ (List.mem_of_getElem? (i := 4) rfl))).2 c1).2 c2).1, L_iadd dWd_bracketInto_14 (L_aload_n dWd_bracketInto_15 rfl (L_alenU dWd_bracketInto_16 ⟨(((h (hok _ (List.mem_of_getElem? (i := 2) rfl)) (hok _ (List.mem_of_getElem? (i := 4) rfl))).2 c1).2 c2).2.1, L_icmp_gt dWd_bracketInto_17 (by decide) ⟨fun c3 => L_return rfl dWd_bracketInto_42 ((((h (hok _ (List.mem_of_getElem? (i := 2) rfl)) (hok _ (List.mem_of_getElem? (i := 4) rfl))).2 c1).2 c2).2.2.1 c3), fun c3 => L_iload dWd_bracketInto_20 rfl (L_aload_n dWd_bracketInto_22 rfl (L_getf fw_Wd_19 rfl dWd_bracketInto_23 ⟨((((h (hok _ (List.mem_of_getElem? (i := 2) rfl)) (hok _ (List.mem_of_getElem? (i := 4) rfl))).2 c1).2 c2).2.2.2 c3).1, L_iadd dWd_bracketInto_26 (L_aload_n dWd_bracketInto_27 rfl (L_alenU dWd_bracketInto_28 ⟨((((h (hok _ (List.mem_of_getElem? (i := 2) rfl)) (hok _ (List.mem_of_getElem? (i := 4) rfl))).2 c1).2 c2).2.2.2 c3).2.1, L_icmp_gt dWd_bracketInto_29 (by decide) ⟨fun c4 => L_return rfl dWd_bracketInto_42 (((((h (hok _ (List.mem_of_getElem? (i := 2) rfl)) (hok _ (List.mem_of_getElem? (i := 4) rfl))).2 c1).2 c2).2.2.2 c3).2.2.1 c4), fun c4 => L_aload_n dWd_bracketInto_32 rfl (L_getf fw_Wd_19 rfl dWd_bracketInto_33 ⟨(((((h (hok _ (List.mem_of_getElem? (i := 2) rfl)) (hok _ (List.mem_of_getElem? (i := 4) rfl))).2 c1).2 c2).2.2.2 c3).2.2.2 c4).1, L_aload dWd_bracketInto_36 rfl (L_alenU dWd_bracketInto_38 ⟨(((((h (hok _ (List.mem_of_getElem? (i := 2) rfl)) (hok _ (List.mem_of_getElem? (i := 4) rfl))).2 c1).2 c2).2.2.2 c3).2.2.2 c4).2.1, L_icmp_le dWd_bracketInto_39 (by decide) ⟨fun c5 => L_aload dWd_bracketInto_43 rfl (L_iconst dWd_bracketInto_45 in_0 (L_aload_n dWd_bracketInto_46 rfl (L_getf fw_Wd_19 rfl dWd_bracketInto_47 ⟨((((((h (hok _ (List.mem_of_getElem? (i := 2) rfl)) (hok _ (List.mem_of_getElem? (i := 4) rfl))).2 c1).2 c2).2.2.2 c3).2.2.2 c4).2.2.1 c5).1, L_iconst dWd_bracketInto_50 in_0 (L_callSV rfl cs_JA_fill___IIII_V (As := [vA x5, vI 0, vI (σ x0 2), vI 0]) rfl (tk4 90 rfl rfl) rfl (Nat.le_of_ble_eq_true rfl) dWd_bracketInto_51 (Tri.mono (((((((h (hok _ (List.mem_of_getElem? (i := 2) rfl)) (hok _ (List.mem_of_getElem? (i := 4) rfl))).2 c1).2 c2).2.2.2 c3).2.2.2 c4).2.2.1 c5).2) (fun r6 σ6 q6 => L_iconst dWd_bracketInto_54 in_0 (L_istore dWd_bracketInto_55 (by decide) q6))))⟩))), fun c5 => L_return rfl dWd_bracketInto_42 ((((((h (hok _ (List.mem_of_getElem? (i := 2) rfl)) (hok _ (List.mem_of_getElem? (i := 4) rfl))).2 c1).2 c2).2.2.2 c3).2.2.2 c4).2.2.2 c5)⟩⟩)⟩)⟩⟩))⟩))⟩⟩))⟩))⟩)⟩))
theorem s_Wd_bracketInto_57 {d : Nat} {x0 x1 x2 x3 x4 x5 x6 : Int} {σ : SG} {Q : Int → SG → Prop} (h : obok 10 x0 ∧ (σ x0 2 ≤ x6 → L (d + 1) M_Wd_bracketInto 144 [vA x0, vU, vU, vU, vU, vA x5, vI 0, vU, vU] [] σ Q) ∧ (x6 < σ x0 2 → L (d + 1) M_Wd_bracketInto 72 [vA x0, vA x1, vI x2, vA x3, vI x4, vA x5, vI x6, vI (w32 (x6 + 1)), vU] [] σ Q)) : L (d + 1) M_Wd_bracketInto 57 [vA x0, vA x1, vI x2, vA x3, vI x4, vA x5, vI x6, vU, vU] [] σ Q :=
  L_iload dWd_bracketInto_57 rfl (L_aload_n dWd_bracketInto_59 rfl (L_getf fw_Wd_19 rfl dWd_bracketInto_60 ⟨h.1, L_icmp_ge dWd_bracketInto_63 (by decide) ⟨fun c1 => L_iconst dWd_bracketInto_141 in_0 (L_istore dWd_bracketInto_142 (by decide) (L_weak [true, false, false, false, false, true, true, true, true] (h.2.1 c1))), fun c1 => L_iload dWd_bracketInto_66 rfl (L_iconst dWd_bracketInto_68 in_1 (L_iadd dWd_bracketInto_69 (L_istore dWd_bracketInto_70 (by decide) (h.2.2 c1))))⟩⟩))
theorem s_Wd_bracketInto_144 {d : Nat} {x0 x5 x6 : Int} {σ : SG} {Q : Int → SG → Prop} (h : obok 10 x0 ∧ (σ x0 2 ≤ x6 → Q 0 σ) ∧ (x6 < σ x0 2 → rdok 100 x5 x6 ∧ obok 10 x0 ∧ Tri d M_X_mod [vI (σ x5 x6), vI (σ x0 1)] σ (fun r2 σ2 => wrok 100 x5 x6 ∧ (∀ σ3, σ3 = up σ2 x5 x6 r2 → L (d + 1) M_Wd_bracketInto 144 [vA x0, vU, vU, vU, vU, vA x5, vI (w32 (x6 + 1)), vU, vU] [] σ3 Q)))) : L (d + 1) M_Wd_bracketInto 144 [vA x0, vU, vU, vU, vU, vA x5, vI x6, vU, vU] [] σ Q :=
  L_iload dWd_bracketInto_144 rfl (L_aload_n dWd_bracketInto_146 rfl (L_getf fw_Wd_19 rfl dWd_bracketInto_147 ⟨h.1, L_icmp_ge dWd_bracketInto_150 (by decide) ⟨fun c1 => L_return rfl dWd_bracketInto_176 (h.2.1 c1), fun c1 => L_aload dWd_bracketInto_153 rfl (L_iload dWd_bracketInto_155 rfl (L_aload dWd_bracketInto_157 rfl (L_iload dWd_bracketInto_159 rfl (L_iaload dWd_bracketInto_161 ⟨(h.2.2 c1).1, L_aload_n dWd_bracketInto_162 rfl (L_getf fw_Wd_15 rfl dWd_bracketInto_163 ⟨(h.2.2 c1).2.1, L_callNI rfl cs_X_mod (As := [vI (σ x5 x6), vI (σ x0 1)]) rfl (by decide +kernel) rfl (Nat.le_of_ble_eq_true rfl) dWd_bracketInto_166 (Tri.mono ((h.2.2 c1).2.2) (fun r2 σ2 q2 => L_iastoreN dWd_bracketInto_169 ⟨q2.1, fun σ3 e3 => L_iinc dWd_bracketInto_170 rfl (by decide) (L_goto dWd_bracketInto_173 (by decide) (q2.2 σ3 e3))⟩))⟩)⟩))))⟩⟩))
theorem s_Wd_bracketInto_72 {d : Nat} {x0 x1 x2 x3 x4 x5 x6 x7 : Int} {σ : SG} {Q : Int → SG → Prop} (h : obok 10 x0 ∧ (σ x0 2 ≤ x7 → L (d + 1) M_Wd_bracketInto 57 [vA x0, vA x1, vI x2, vA x3, vI x4, vA x5, vI (w32 (x6 + 1)), vU, vU] [] σ Q) ∧ (x7 < σ x0 2 → rdok 100 x1 (w32 (x2 + x6)) ∧ rdok 100 x3 (w32 (x4 + x7)) ∧ rdok 100 x1 (w32 (x2 + x7)) ∧ rdok 100 x3 (w32 (x4 + x6)) ∧ (w32 ((w32 ((σ x1 (w32 (x2 + x6))) * (σ x3 (w32 (x4 + x7))))) - (w32 ((σ x1 (w32 (x2 + x7))) * (σ x3 (w32 (x4 + x6)))))) = 0 → L (d + 1) M_Wd_bracketInto 72 [vA x0, vA x1, vI x2, vA x3, vI x4, vA x5, vI x6, vI (w32 (x7 + 1)), vU] [] σ Q) ∧ (w32 ((w32 ((σ x1 (w32 (x2 + x6))) * (σ x3 (w32 (x4 + x7))))) - (w32 ((σ x1 (w32 (x2 + x7))) * (σ x3 (w32 (x4 + x6)))))) ≠ 0 → obok 10 x0 ∧ Tri d M_Wd_addCells [vA x0, vI x6, vI x7, vI (w32 ((w32 ((σ x1 (w32 (x2 + x6))) * (σ x3 (w32 (x4 + x7))))) - (w32 ((σ x1 (w32 (x2 + x7))) * (σ x3 (w32 (x4 + x6))))))), vA x5] σ (fun r3 σ3 => L (d + 1) M_Wd_bracketInto 72 [vA x0, vA x1, vI x2, vA x3, vI x4, vA x5, vI x6, vI (w32 (x7 + 1)), vU] [] σ3 Q)))) : L (d + 1) M_Wd_bracketInto 72 [vA x0, vA x1, vI x2, vA x3, vI x4, vA x5, vI x6, vI x7, vU] [] σ Q :=
  L_iload dWd_bracketInto_72 rfl (L_aload_n dWd_bracketInto_74 rfl (L_getf fw_Wd_19 rfl dWd_bracketInto_75 ⟨h.1, L_icmp_ge dWd_bracketInto_78 (by decide) ⟨fun c1 => L_iinc dWd_bracketInto_135 rfl (by decide) (L_goto dWd_bracketInto_138 (by decide) (L_weak [true, true, true, true, true, true, true, false, true] (h.2.1 c1))), fun c1 => L_aload_n dWd_bracketInto_81 rfl (L_iload_n dWd_bracketInto_82 rfl (L_iload dWd_bracketInto_83 rfl (L_iadd dWd_bracketInto_85 (L_iaload dWd_bracketInto_86 ⟨(h.2.2 c1).1, L_aload_n dWd_bracketInto_87 rfl (L_iload dWd_bracketInto_88 rfl (L_iload dWd_bracketInto_90 rfl (L_iadd dWd_bracketInto_92 (L_iaload dWd_bracketInto_93 ⟨(h.2.2 c1).2.1, L_imul dWd_bracketInto_94 (L_aload_n dWd_bracketInto_95 rfl (L_iload_n dWd_bracketInto_96 rfl (L_iload dWd_bracketInto_97 rfl (L_iadd dWd_bracketInto_99 (L_iaload dWd_bracketInto_100 ⟨(h.2.2 c1).2.2.1, L_aload_n dWd_bracketInto_101 rfl (L_iload dWd_bracketInto_102 rfl (L_iload dWd_bracketInto_104 rfl (L_iadd dWd_bracketInto_106 (L_iaload dWd_bracketInto_107 ⟨(h.2.2 c1).2.2.2.1, L_imul dWd_bracketInto_108 (L_isub dWd_bracketInto_109 (L_istore dWd_bracketInto_110 (by decide) (L_iload dWd_bracketInto_112 rfl (L_if_eq dWd_bracketInto_114 (by decide) ⟨fun c2 => L_iinc dWd_bracketInto_129 rfl (by decide) (L_goto dWd_bracketInto_132 (by decide) (L_weak [true, true, true, true, true, true, true, true, false] ((h.2.2 c1).2.2.2.2.1 c2))), fun c2 => L_aload_n dWd_bracketInto_117 rfl (L_iload dWd_bracketInto_118 rfl (L_iload dWd_bracketInto_120 rfl (L_iload dWd_bracketInto_122 rfl (L_aload dWd_bracketInto_124 rfl (L_callVV rfl cv_Wd_addCells (As := [vI x6, vI x7, vI (w32 ((w32 ((σ x1 (w32 (x2 + x6))) * (σ x3 (w32 (x4 + x7))))) - (w32 ((σ x1 (w32 (x2 + x7))) * (σ x3 (w32 (x4 + x6))))))), vA x5]) rfl (tk4 93 rfl rfl) rfl (Nat.le_of_ble_eq_true rfl) dWd_bracketInto_126 ⟨((h.2.2 c1).2.2.2.2.2 c2).1, Tri.mono (((h.2.2 c1).2.2.2.2.2 c2).2) (fun r3 σ3 q3 => L_iinc dWd_bracketInto_129 rfl (by decide) (L_goto dWd_bracketInto_132 (by decide) (L_weak [true, true, true, true, true, true, true, true, false] q3)))⟩)))))⟩))))⟩))))⟩)))))⟩))))⟩))))⟩⟩))
theorem dWd_addCells_0 : decode prog_12_method_12_code 0 = .ok (.iload_n 1, 1) := by decide +kernel
theorem dWd_addCells_1 : decode prog_12_method_12_code 1 = .ok (.iconst 5, 1) := by decide +kernel
theorem dWd_addCells_2 : decode prog_12_method_12_code 2 = .ok (.imul, 1) := by decide +kernel
theorem dWd_addCells_3 : decode prog_12_method_12_code 3 = .ok (.iload_n 2, 1) := by decide +kernel
theorem dWd_addCells_4 : decode prog_12_method_12_code 4 = .ok (.iadd, 1) := by decide +kernel
theorem dWd_addCells_5 : decode prog_12_method_12_code 5 = .ok (.iconst 5, 1) := by decide +kernel
theorem dWd_addCells_6 : decode prog_12_method_12_code 6 = .ok (.imul, 1) := by decide +kernel
theorem dWd_addCells_7 : decode prog_12_method_12_code 7 = .ok (.istore 5, 2) := by decide +kernel
theorem dWd_addCells_9 : decode prog_12_method_12_code 9 = .ok (.iconst 0, 1) := by decide +kernel
theorem dWd_addCells_10 : decode prog_12_method_12_code 10 = .ok (.istore 6, 2) := by decide +kernel
theorem dWd_addCells_12 : decode prog_12_method_12_code 12 = .ok (.iload 6, 2) := by decide +kernel
theorem dWd_addCells_14 : decode prog_12_method_12_code 14 = .ok (.aload_n 0, 1) := by decide +kernel
theorem dWd_addCells_15 : decode prog_12_method_12_code 15 = .ok (.getfield 19, 3) := by decide +kernel
theorem dWd_addCells_18 : decode prog_12_method_12_code 18 = .ok (.if_icmp .ge 29, 3) := by decide +kernel
theorem dWd_addCells_21 : decode prog_12_method_12_code 21 = .ok (.aload 4, 2) := by decide +kernel
theorem dWd_addCells_23 : decode prog_12_method_12_code 23 = .ok (.iload 6, 2) := by decide +kernel
theorem dWd_addCells_25 : decode prog_12_method_12_code 25 = .ok (.dup2, 1) := by decide +kernel
theorem dWd_addCells_26 : decode prog_12_method_12_code 26 = .ok (.iaload, 1) := by decide +kernel
theorem dWd_addCells_27 : decode prog_12_method_12_code 27 = .ok (.iload_n 3, 1) := by decide +kernel
theorem dWd_addCells_28 : decode prog_12_method_12_code 28 = .ok (.aload_n 0, 1) := by decide +kernel
theorem dWd_addCells_29 : decode prog_12_method_12_code 29 = .ok (.getfield 9, 3) := by decide +kernel
theorem dWd_addCells_32 : decode prog_12_method_12_code 32 = .ok (.iload 5, 2) := by decide +kernel
theorem dWd_addCells_34 : decode prog_12_method_12_code 34 = .ok (.iload 6, 2) := by decide +kernel
theorem dWd_addCells_36 : decode prog_12_method_12_code 36 = .ok (.iadd, 1) := by decide +kernel
theorem dWd_addCells_37 : decode prog_12_method_12_code 37 = .ok (.iaload, 1) := by decide +kernel
theorem dWd_addCells_38 : decode prog_12_method_12_code 38 = .ok (.imul, 1) := by decide +kernel
theorem dWd_addCells_39 : decode prog_12_method_12_code 39 = .ok (.iadd, 1) := by decide +kernel
theorem dWd_addCells_40 : decode prog_12_method_12_code 40 = .ok (.iastore, 1) := by decide +kernel
theorem dWd_addCells_41 : decode prog_12_method_12_code 41 = .ok (.iinc 6 1, 3) := by decide +kernel
theorem dWd_addCells_44 : decode prog_12_method_12_code 44 = .ok (.goto (-32), 3) := by decide +kernel
theorem dWd_addCells_47 : decode prog_12_method_12_code 47 = .ok (.return_, 1) := by decide +kernel
theorem t_Wd_addCells {d : Nat} {x0 x1 x2 x3 x4 : Int} {σ : SG} {Q : Int → SG → Prop} (h : inI x1 → inI x2 → inI x3 → (L (d + 1) M_Wd_addCells 12 [vA x0, vU, vU, vI x3, vA x4, vI (w32 ((w32 ((w32 (x1 * 5)) + x2)) * 5)), vI 0] [] σ Q)) : Tri (d + 1) M_Wd_addCells [vA x0, vI x1, vI x2, vI x3, vA x4] σ Q :=
  Tri_intro rfl (Nat.le_of_ble_eq_true rfl) (ls := [vA x0, vI x1, vI x2, vI x3, vA x4, vU, vU]) rfl (fun hok => L_iload_n dWd_addCells_0 rfl (L_iconst dWd_addCells_1 in_5 (L_imul dWd_addCells_2 (L_iload_n dWd_addCells_3 rfl (L_iadd dWd_addCells_4 (L_iconst dWd_addCells_5 in_5 (L_imul dWd_addCells_6 (L_istore dWd_addCells_7 (by decide) (L_iconst dWd_addCells_9 in_0 (L_istore dWd_addCells_10 (by decide) (L_weak [true, false, false, true, true, true, true] ((h (hok _ (List.mem_of_getElem? (i := 1) rfl)) (hok _ (List.mem_of_getElem? (i := 2) rfl)) (hok _ (List.mem_of_getElem? (i := 3) rfl)))))))))))))))
theorem s_Wd_addCells_12 {d : Nat} {x0 x3 x4 x5 x6 : Int} {σ : SG} {Q : Int → SG → Prop} (h : obok 10 x0 ∧ (σ x0 2 ≤ x6 → Q 0 σ) ∧ (x6 < σ x0 2 → rdok 100 x4 x6 ∧ obok 10 x0 ∧ rdok 100 (x0 + 1) (w32 (x5 + x6)) ∧ wrok 100 x4 x6 ∧ (∀ σ2, σ2 = up σ x4 x6 (w32 ((σ x4 x6) + (w32 (x3 * (σ (x0 + 1) (w32 (x5 + x6))))))) → L (d + 1) M_Wd_addCells 12 [vA x0, vU, vU, vI x3, vA x4, vI x5, vI (w32 (x6 + 1))] [] σ2 Q))) : L (d + 1) M_Wd_addCells 12 [vA x0, vU, vU, vI x3, vA x4, vI x5, vI x6] [] σ Q :=
  L_iload dWd_addCells_12 rfl (L_aload_n dWd_addCells_14 rfl (L_getf fw_Wd_19 rfl dWd_addCells_15 ⟨h.1, L_icmp_ge dWd_addCells_18 (by decide) ⟨fun c1 => L_return rfl dWd_addCells_47 (h.2.1 c1), fun c1 => L_aload dWd_addCells_21 rfl (L_iload dWd_addCells_23 rfl (L_dup2 dWd_addCells_25 n01 n21 (L_iaload dWd_addCells_26 ⟨(h.2.2 c1).1, L_iload_n dWd_addCells_27 rfl (L_aload_n dWd_addCells_28 rfl (L_getF (b := x0 + 1) fw_Wd_9 rfl rfl (by omega) dWd_addCells_29 ⟨(h.2.2 c1).2.1, L_iload dWd_addCells_32 rfl (L_iload dWd_addCells_34 rfl (L_iadd dWd_addCells_36 (L_iaload dWd_addCells_37 ⟨(h.2.2 c1).2.2.1, L_imul dWd_addCells_38 (L_iadd dWd_addCells_39 (L_iastoreN dWd_addCells_40 ⟨(h.2.2 c1).2.2.2.1, fun σ2 e2 => L_iinc dWd_addCells_41 rfl (by decide) (L_goto dWd_addCells_44 (by decide) ((h.2.2 c1).2.2.2.2 σ2 e2))⟩))⟩)))⟩))⟩)))⟩⟩))
theorem dWd_firstBreak_0 : decode prog_12_method_13_code 0 = .ok (.iconst 0, 1) := by decide +kernel
theorem dWd_firstBreak_1 : decode prog_12_method_13_code 1 = .ok (.istore_n 1, 1) := by decide +kernel
theorem dWd_firstBreak_2 : decode prog_12_method_13_code 2 = .ok (.iload_n 1, 1) := by decide +kernel
theorem dWd_firstBreak_3 : decode prog_12_method_13_code 3 = .ok (.aload_n 0, 1) := by decide +kernel
theorem dWd_firstBreak_4 : decode prog_12_method_13_code 4 = .ok (.getfield 19, 3) := by decide +kernel
theorem dWd_firstBreak_7 : decode prog_12_method_13_code 7 = .ok (.if_icmp .ge 66, 3) := by decide +kernel
theorem dWd_firstBreak_10 : decode prog_12_method_13_code 10 = .ok (.iload_n 1, 1) := by decide +kernel
theorem dWd_firstBreak_11 : decode prog_12_method_13_code 11 = .ok (.iconst 1, 1) := by decide +kernel
theorem dWd_firstBreak_12 : decode prog_12_method_13_code 12 = .ok (.iadd, 1) := by decide +kernel
theorem dWd_firstBreak_13 : decode prog_12_method_13_code 13 = .ok (.istore_n 2, 1) := by decide +kernel
theorem dWd_firstBreak_14 : decode prog_12_method_13_code 14 = .ok (.iload_n 2, 1) := by decide +kernel
theorem dWd_firstBreak_15 : decode prog_12_method_13_code 15 = .ok (.aload_n 0, 1) := by decide +kernel
theorem dWd_firstBreak_16 : decode prog_12_method_13_code 16 = .ok (.getfield 19, 3) := by decide +kernel
theorem dWd_firstBreak_19 : decode prog_12_method_13_code 19 = .ok (.if_icmp .ge 48, 3) := by decide +kernel
theorem dWd_firstBreak_22 : decode prog_12_method_13_code 22 = .ok (.iload_n 2, 1) := by decide +kernel
theorem dWd_firstBreak_23 : decode prog_12_method_13_code 23 = .ok (.iconst 1, 1) := by decide +kernel
theorem dWd_firstBreak_24 : decode prog_12_method_13_code 24 = .ok (.iadd, 1) := by decide +kernel
theorem dWd_firstBreak_25 : decode prog_12_method_13_code 25 = .ok (.istore_n 3, 1) := by decide +kernel
theorem dWd_firstBreak_26 : decode prog_12_method_13_code 26 = .ok (.iload_n 3, 1) := by decide +kernel
theorem dWd_firstBreak_27 : decode prog_12_method_13_code 27 = .ok (.aload_n 0, 1) := by decide +kernel
theorem dWd_firstBreak_28 : decode prog_12_method_13_code 28 = .ok (.getfield 19, 3) := by decide +kernel
theorem dWd_firstBreak_31 : decode prog_12_method_13_code 31 = .ok (.if_icmp .ge 30, 3) := by decide +kernel
theorem dWd_firstBreak_34 : decode prog_12_method_13_code 34 = .ok (.aload_n 0, 1) := by decide +kernel
theorem dWd_firstBreak_35 : decode prog_12_method_13_code 35 = .ok (.iload_n 1, 1) := by decide +kernel
theorem dWd_firstBreak_36 : decode prog_12_method_13_code 36 = .ok (.iload_n 2, 1) := by decide +kernel
theorem dWd_firstBreak_37 : decode prog_12_method_13_code 37 = .ok (.iload_n 3, 1) := by decide +kernel
theorem dWd_firstBreak_38 : decode prog_12_method_13_code 38 = .ok (.invokevirtual 64, 3) := by decide +kernel
theorem dWd_firstBreak_41 : decode prog_12_method_13_code 41 = .ok (.ifCond .ne 14, 3) := by decide +kernel
theorem dWd_firstBreak_44 : decode prog_12_method_13_code 44 = .ok (.iload_n 1, 1) := by decide +kernel
theorem dWd_firstBreak_45 : decode prog_12_method_13_code 45 = .ok (.bipush 25, 2) := by decide +kernel
theorem dWd_firstBreak_47 : decode prog_12_method_13_code 47 = .ok (.imul, 1) := by decide +kernel
theorem dWd_firstBreak_48 : decode prog_12_method_13_code 48 = .ok (.iload_n 2, 1) := by decide +kernel
theorem dWd_firstBreak_49 : decode prog_12_method_13_code 49 = .ok (.iconst 5, 1) := by decide +kernel
theorem dWd_firstBreak_50 : decode prog_12_method_13_code 50 = .ok (.imul, 1) := by decide +kernel
theorem dWd_firstBreak_51 : decode prog_12_method_13_code 51 = .ok (.iadd, 1) := by decide +kernel
theorem dWd_firstBreak_52 : decode prog_12_method_13_code 52 = .ok (.iload_n 3, 1) := by decide +kernel
theorem dWd_firstBreak_53 : decode prog_12_method_13_code 53 = .ok (.iadd, 1) := by decide +kernel
theorem dWd_firstBreak_54 : decode prog_12_method_13_code 54 = .ok (.ireturn, 1) := by decide +kernel
theorem dWd_firstBreak_55 : decode prog_12_method_13_code 55 = .ok (.iinc 3 1, 3) := by decide +kernel
theorem dWd_firstBreak_58 : decode prog_12_method_13_code 58 = .ok (.goto (-32), 3) := by decide +kernel
theorem dWd_firstBreak_61 : decode prog_12_method_13_code 61 = .ok (.iinc 2 1, 3) := by decide +kernel
theorem dWd_firstBreak_64 : decode prog_12_method_13_code 64 = .ok (.goto (-50), 3) := by decide +kernel
theorem dWd_firstBreak_67 : decode prog_12_method_13_code 67 = .ok (.iinc 1 1, 3) := by decide +kernel
theorem dWd_firstBreak_70 : decode prog_12_method_13_code 70 = .ok (.goto (-68), 3) := by decide +kernel
theorem dWd_firstBreak_73 : decode prog_12_method_13_code 73 = .ok (.iconst (-1), 1) := by decide +kernel
theorem dWd_firstBreak_74 : decode prog_12_method_13_code 74 = .ok (.ireturn, 1) := by decide +kernel
theorem t_Wd_firstBreak {d : Nat} {x0 : Int} {σ : SG} {Q : Int → SG → Prop} (h : L (d + 1) M_Wd_firstBreak 2 [vA x0, vI 0, vU, vU] [] σ Q) : Tri (d + 1) M_Wd_firstBreak [vA x0] σ Q :=
  Tri_intro rfl (Nat.le_of_ble_eq_true rfl) (ls := [vA x0, vU, vU, vU]) rfl (fun hok => L_iconst dWd_firstBreak_0 in_0 (L_istore_n dWd_firstBreak_1 (by decide) (h)))
theorem s_Wd_firstBreak_2 {d : Nat} {x0 x1 : Int} {σ : SG} {Q : Int → SG → Prop} (h : obok 10 x0 ∧ (σ x0 2 ≤ x1 → Q (-1) σ) ∧ (x1 < σ x0 2 → L (d + 1) M_Wd_firstBreak 14 [vA x0, vI x1, vI (w32 (x1 + 1)), vU] [] σ Q)) : L (d + 1) M_Wd_firstBreak 2 [vA x0, vI x1, vU, vU] [] σ Q :=
  L_iload_n dWd_firstBreak_2 rfl (L_aload_n dWd_firstBreak_3 rfl (L_getf fw_Wd_19 rfl dWd_firstBreak_4 ⟨h.1, L_icmp_ge dWd_firstBreak_7 (by decide) ⟨fun c1 => L_iconst dWd_firstBreak_73 in_m1 (L_ireturn rfl dWd_firstBreak_74 (h.2.1 c1)), fun c1 => L_iload_n dWd_firstBreak_10 rfl (L_iconst dWd_firstBreak_11 in_1 (L_iadd dWd_firstBreak_12 (L_istore_n dWd_firstBreak_13 (by decide) (h.2.2 c1))))⟩⟩))
theorem s_Wd_firstBreak_14 {d : Nat} {x0 x1 x2 : Int} {σ : SG} {Q : Int → SG → Prop} (h : obok 10 x0 ∧ (σ x0 2 ≤ x2 → L (d + 1) M_Wd_firstBreak 2 [vA x0, vI (w32 (x1 + 1)), vU, vU] [] σ Q) ∧ (x2 < σ x0 2 → L (d + 1) M_Wd_firstBreak 26 [vA x0, vI x1, vI x2, vI (w32 (x2 + 1))] [] σ Q)) : L (d + 1) M_Wd_firstBreak 14 [vA x0, vI x1, vI x2, vU] [] σ Q :=
  L_iload_n dWd_firstBreak_14 rfl (L_aload_n dWd_firstBreak_15 rfl (L_getf fw_Wd_19 rfl dWd_firstBreak_16 ⟨h.1, L_icmp_ge dWd_firstBreak_19 (by decide) ⟨fun c1 => L_iinc dWd_firstBreak_67 rfl (by decide) (L_goto dWd_firstBreak_70 (by decide) (L_weak [true, true, false, true] (h.2.1 c1))), fun c1 => L_iload_n dWd_firstBreak_22 rfl (L_iconst dWd_firstBreak_23 in_1 (L_iadd dWd_firstBreak_24 (L_istore_n dWd_firstBreak_25 (by decide) (h.2.2 c1))))⟩⟩))
theorem s_Wd_firstBreak_26 {d : Nat} {x0 x1 x2 x3 : Int} {σ : SG} {Q : Int → SG → Prop} (h : obok 10 x0 ∧ (σ x0 2 ≤ x3 → L (d + 1) M_Wd_firstBreak 14 [vA x0, vI x1, vI (w32 (x2 + 1)), vU] [] σ Q) ∧ (x3 < σ x0 2 → obok 10 x0 ∧ Tri d M_Wd_isJacobi [vA x0, vI x1, vI x2, vI x3] σ (fun r2 σ2 => (r2 ≠ 0 → L (d + 1) M_Wd_firstBreak 26 [vA x0, vI x1, vI x2, vI (w32 (x3 + 1))] [] σ2 Q) ∧ (r2 = 0 → Q (w32 ((w32 ((w32 (x1 * 25)) + (w32 (x2 * 5)))) + x3)) σ2)))) : L (d + 1) M_Wd_firstBreak 26 [vA x0, vI x1, vI x2, vI x3] [] σ Q :=
  L_iload_n dWd_firstBreak_26 rfl (L_aload_n dWd_firstBreak_27 rfl (L_getf fw_Wd_19 rfl dWd_firstBreak_28 ⟨h.1, L_icmp_ge dWd_firstBreak_31 (by decide) ⟨fun c1 => L_iinc dWd_firstBreak_61 rfl (by decide) (L_goto dWd_firstBreak_64 (by decide) (L_weak [true, true, true, false] (h.2.1 c1))), fun c1 => L_aload_n dWd_firstBreak_34 rfl (L_iload_n dWd_firstBreak_35 rfl (L_iload_n dWd_firstBreak_36 rfl (L_iload_n dWd_firstBreak_37 rfl (L_callVI rfl cv_Wd_isJacobi (As := [vI x1, vI x2, vI x3]) rfl (tk4 109 rfl rfl) rfl (Nat.le_of_ble_eq_true rfl) dWd_firstBreak_38 ⟨(h.2.2 c1).1, Tri.mono ((h.2.2 c1).2) (fun r2 σ2 q2 => L_if_ne dWd_firstBreak_41 (by decide) ⟨fun c3 => L_iinc dWd_firstBreak_55 rfl (by decide) (L_goto dWd_firstBreak_58 (by decide) (q2.1 c3)), fun c3 => L_iload_n dWd_firstBreak_44 rfl (L_bipush dWd_firstBreak_45 bp_25 in_25 (L_imul dWd_firstBreak_47 (L_iload_n dWd_firstBreak_48 rfl (L_iconst dWd_firstBreak_49 in_5 (L_imul dWd_firstBreak_50 (L_iadd dWd_firstBreak_51 (L_iload_n dWd_firstBreak_52 rfl (L_iadd dWd_firstBreak_53 (L_ireturn rfl dWd_firstBreak_54 (q2.2 c3))))))))))⟩)⟩))))⟩⟩))
theorem dWd_isJacobi_0 : decode prog_12_method_14_code 0 = .ok (.iconst 0, 1) := by decide +kernel
theorem dWd_isJacobi_1 : decode prog_12_method_14_code 1 = .ok (.istore 4, 2) := by decide +kernel
theorem dWd_isJacobi_3 : decode prog_12_method_14_code 3 = .ok (.iload 4, 2) := by decide +kernel
theorem dWd_isJacobi_5 : decode prog_12_method_14_code 5 = .ok (.aload_n 0, 1) := by decide +kernel
theorem dWd_isJacobi_6 : decode prog_12_method_14_code 6 = .ok (.getfield 19, 3) := by decide +kernel
theorem dWd_isJacobi_9 : decode prog_12_method_14_code 9 = .ok (.if_icmp .ge 113, 3) := by decide +kernel
theorem dWd_isJacobi_12 : decode prog_12_method_14_code 12 = .ok (.iconst 0, 1) := by decide +kernel
theorem dWd_isJacobi_13 : decode prog_12_method_14_code 13 = .ok (.istore 5, 2) := by decide +kernel
theorem dWd_isJacobi_15 : decode prog_12_method_14_code 15 = .ok (.iconst 0, 1) := by decide +kernel
theorem dWd_isJacobi_16 : decode prog_12_method_14_code 16 = .ok (.istore 6, 2) := by decide +kernel
theorem dWd_isJacobi_18 : decode prog_12_method_14_code 18 = .ok (.iload 6, 2) := by decide +kernel
theorem dWd_isJacobi_20 : decode prog_12_method_14_code 20 = .ok (.aload_n 0, 1) := by decide +kernel
theorem dWd_isJacobi_21 : decode prog_12_method_14_code 21 = .ok (.getfield 19, 3) := by decide +kernel
theorem dWd_isJacobi_24 : decode prog_12_method_14_code 24 = .ok (.if_icmp .ge 78, 3) := by decide +kernel
theorem dWd_isJacobi_27 : decode prog_12_method_14_code 27 = .ok (.iload 5, 2) := by decide +kernel
theorem dWd_isJacobi_29 : decode prog_12_method_14_code 29 = .ok (.aload_n 0, 1) := by decide +kernel
theorem dWd_isJacobi_30 : decode prog_12_method_14_code 30 = .ok (.iload_n 2, 1) := by decide +kernel
theorem dWd_isJacobi_31 : decode prog_12_method_14_code 31 = .ok (.iload_n 3, 1) := by decide +kernel
theorem dWd_isJacobi_32 : decode prog_12_method_14_code 32 = .ok (.iload 6, 2) := by decide +kernel
theorem dWd_isJacobi_34 : decode prog_12_method_14_code 34 = .ok (.invokevirtual 53, 3) := by decide +kernel
theorem dWd_isJacobi_37 : decode prog_12_method_14_code 37 = .ok (.aload_n 0, 1) := by decide +kernel
theorem dWd_isJacobi_38 : decode prog_12_method_14_code 38 = .ok (.iload_n 1, 1) := by decide +kernel
theorem dWd_isJacobi_39 : decode prog_12_method_14_code 39 = .ok (.iload 6, 2) := by decide +kernel
theorem dWd_isJacobi_41 : decode prog_12_method_14_code 41 = .ok (.iload 4, 2) := by decide +kernel
theorem dWd_isJacobi_43 : decode prog_12_method_14_code 43 = .ok (.invokevirtual 53, 3) := by decide +kernel
theorem dWd_isJacobi_46 : decode prog_12_method_14_code 46 = .ok (.imul, 1) := by decide +kernel
theorem dWd_isJacobi_47 : decode prog_12_method_14_code 47 = .ok (.iadd, 1) := by decide +kernel
theorem dWd_isJacobi_48 : decode prog_12_method_14_code 48 = .ok (.istore 5, 2) := by decide +kernel
theorem dWd_isJacobi_50 : decode prog_12_method_14_code 50 = .ok (.iload 5, 2) := by decide +kernel
theorem dWd_isJacobi_52 : decode prog_12_method_14_code 52 = .ok (.aload_n 0, 1) := by decide +kernel
theorem dWd_isJacobi_53 : decode prog_12_method_14_code 53 = .ok (.iload_n 3, 1) := by decide +kernel
theorem dWd_isJacobi_54 : decode prog_12_method_14_code 54 = .ok (.iload_n 1, 1) := by decide +kernel
theorem dWd_isJacobi_55 : decode prog_12_method_14_code 55 = .ok (.iload 6, 2) := by decide +kernel
theorem dWd_isJacobi_57 : decode prog_12_method_14_code 57 = .ok (.invokevirtual 53, 3) := by decide +kernel
theorem dWd_isJacobi_60 : decode prog_12_method_14_code 60 = .ok (.aload_n 0, 1) := by decide +kernel
theorem dWd_isJacobi_61 : decode prog_12_method_14_code 61 = .ok (.iload_n 2, 1) := by decide +kernel
theorem dWd_isJacobi_62 : decode prog_12_method_14_code 62 = .ok (.iload 6, 2) := by decide +kernel
theorem dWd_isJacobi_64 : decode prog_12_method_14_code 64 = .ok (.iload 4, 2) := by decide +kernel
theorem dWd_isJacobi_66 : decode prog_12_method_14_code 66 = .ok (.invokevirtual 53, 3) := by decide +kernel
theorem dWd_isJacobi_69 : decode prog_12_method_14_code 69 = .ok (.imul, 1) := by decide +kernel
theorem dWd_isJacobi_70 : decode prog_12_method_14_code 70 = .ok (.iadd, 1) := by decide +kernel
theorem dWd_isJacobi_71 : decode prog_12_method_14_code 71 = .ok (.istore 5, 2) := by decide +kernel
theorem dWd_isJacobi_73 : decode prog_12_method_14_code 73 = .ok (.iload 5, 2) := by decide +kernel
theorem dWd_isJacobi_75 : decode prog_12_method_14_code 75 = .ok (.aload_n 0, 1) := by decide +kernel
theorem dWd_isJacobi_76 : decode prog_12_method_14_code 76 = .ok (.iload_n 1, 1) := by decide +kernel
theorem dWd_isJacobi_77 : decode prog_12_method_14_code 77 = .ok (.iload_n 2, 1) := by decide +kernel
theorem dWd_isJacobi_78 : decode prog_12_method_14_code 78 = .ok (.iload 6, 2) := by decide +kernel
theorem dWd_isJacobi_80 : decode prog_12_method_14_code 80 = .ok (.invokevirtual 53, 3) := by decide +kernel
theorem dWd_isJacobi_83 : decode prog_12_method_14_code 83 = .ok (.aload_n 0, 1) := by decide +kernel
theorem dWd_isJacobi_84 : decode prog_12_method_14_code 84 = .ok (.iload_n 3, 1) := by decide +kernel
theorem dWd_isJacobi_85 : decode prog_12_method_14_code 85 = .ok (.iload 6, 2) := by decide +kernel
theorem dWd_isJacobi_87 : decode prog_12_method_14_code 87 = .ok (.iload 4, 2) := by decide +kernel
theorem dWd_isJacobi_89 : decode prog_12_method_14_code 89 = .ok (.invokevirtual 53, 3) := by decide +kernel
theorem dWd_isJacobi_92 : decode prog_12_method_14_code 92 = .ok (.imul, 1) := by decide +kernel
theorem dWd_isJacobi_93 : decode prog_12_method_14_code 93 = .ok (.iadd, 1) := by decide +kernel
theorem dWd_isJacobi_94 : decode prog_12_method_14_code 94 = .ok (.istore 5, 2) := by decide +kernel
theorem dWd_isJacobi_96 : decode prog_12_method_14_code 96 = .ok (.iinc 6 1, 3) := by decide +kernel
theorem dWd_isJacobi_99 : decode prog_12_method_14_code 99 = .ok (.goto (-81), 3) := by decide +kernel
theorem dWd_isJacobi_102 : decode prog_12_method_14_code 102 = .ok (.iload 5, 2) := by decide +kernel
theorem dWd_isJacobi_104 : decode prog_12_method_14_code 104 = .ok (.aload_n 0, 1) := by decide +kernel
theorem dWd_isJacobi_105 : decode prog_12_method_14_code 105 = .ok (.getfield 15, 3) := by decide +kernel
theorem dWd_isJacobi_108 : decode prog_12_method_14_code 108 = .ok (.invokestatic 50, 3) := by decide +kernel
theorem dWd_isJacobi_111 : decode prog_12_method_14_code 111 = .ok (.ifCond .eq 5, 3) := by decide +kernel
theorem dWd_isJacobi_114 : decode prog_12_method_14_code 114 = .ok (.iconst 0, 1) := by decide +kernel
theorem dWd_isJacobi_115 : decode prog_12_method_14_code 115 = .ok (.ireturn, 1) := by decide +kernel
theorem dWd_isJacobi_116 : decode prog_12_method_14_code 116 = .ok (.iinc 4 1, 3) := by decide +kernel
theorem dWd_isJacobi_119 : decode prog_12_method_14_code 119 = .ok (.goto (-116), 3) := by decide +kernel
theorem dWd_isJacobi_122 : decode prog_12_method_14_code 122 = .ok (.iconst 1, 1) := by decide +kernel
theorem dWd_isJacobi_123 : decode prog_12_method_14_code 123 = .ok (.ireturn, 1) := by decide +kernel
theorem t_Wd_isJacobi {d : Nat} {x0 x1 x2 x3 : Int} {σ : SG} {Q : Int → SG → Prop} (h : inI x1 → inI x2 → inI x3 → (L (d + 1) M_Wd_isJacobi 3 [vA x0, vI x1, vI x2, vI x3, vI 0, vU, vU] [] σ Q)) : Tri (d + 1) M_Wd_isJacobi [vA x0, vI x1, vI x2, vI x3] σ Q :=
  Tri_intro rfl (Nat.le_of_ble_eq_true rfl) (ls := [vA x0, vI x1, vI x2, vI x3, vU, vU, vU]) rfl (fun hok => L_iconst dWd_isJacobi_0 in_0 (L_istore dWd_isJacobi_1 (by decide) ((h (hok _ (List.mem_of_getElem? (i := 1) rfl)) (hok _ (List.mem_of_getElem? (i := 2) rfl)) (hok _ (List.mem_of_getElem? (i := 3) rfl))))))
theorem s_Wd_isJacobi_3 {d : Nat} {x0 x1 x2 x3 x4 : Int} {σ : SG} {Q : Int → SG → Prop} (h : obok 10 x0 ∧ (σ x0 2 ≤ x4 → Q 1 σ) ∧ (x4 < σ x0 2 → L (d + 1) M_Wd_isJacobi 18 [vA x0, vI x1, vI x2, vI x3, vI x4, vI 0, vI 0] [] σ Q)) : L (d + 1) M_Wd_isJacobi 3 [vA x0, vI x1, vI x2, vI x3, vI x4, vU, vU] [] σ Q :=
  L_iload dWd_isJacobi_3 rfl (L_aload_n dWd_isJacobi_5 rfl (L_getf fw_Wd_19 rfl dWd_isJacobi_6 ⟨h.1, L_icmp_ge dWd_isJacobi_9 (by decide) ⟨fun c1 => L_iconst dWd_isJacobi_122 in_1 (L_zreturn1 rfl dWd_isJacobi_123 (h.2.1 c1)), fun c1 => L_iconst dWd_isJacobi_12 in_0 (L_istore dWd_isJacobi_13 (by decide) (L_iconst dWd_isJacobi_15 in_0 (L_istore dWd_isJacobi_16 (by decide) (h.2.2 c1))))⟩⟩))
theorem s_Wd_isJacobi_18 {d : Nat} {x0 x1 x2 x3 x4 x5 x6 : Int} {σ : SG} {Q : Int → SG → Prop} (h : obok 10 x0 ∧ (σ x0 2 ≤ x6 → obok 10 x0 ∧ Tri d M_X_mod [vI x5, vI (σ x0 1)] σ (fun r2 σ2 => (r2 = 0 → L (d + 1) M_Wd_isJacobi 3 [vA x0, vI x1, vI x2, vI x3, vI (w32 (x4 + 1)), vU, vU] [] σ2 Q) ∧ (r2 ≠ 0 → Q 0 σ2))) ∧ (x6 < σ x0 2 → obok 10 x0 ∧ Tri d M_Wd_cell [vA x0, vI x2, vI x3, vI x6] σ (fun r4 σ4 => obok 10 x0 ∧ Tri d M_Wd_cell [vA x0, vI x1, vI x6, vI x4] σ4 (fun r5 σ5 => obok 10 x0 ∧ Tri d M_Wd_cell [vA x0, vI x3, vI x1, vI x6] σ5 (fun r6 σ6 => obok 10 x0 ∧ Tri d M_Wd_cell [vA x0, vI x2, vI x6, vI x4] σ6 (fun r7 σ7 => obok 10 x0 ∧ Tri d M_Wd_cell [vA x0, vI x1, vI x2, vI x6] σ7 (fun r8 σ8 => obok 10 x0 ∧ Tri d M_Wd_cell [vA x0, vI x3, vI x6, vI x4] σ8 (fun r9 σ9 => L (d + 1) M_Wd_isJacobi 18 [vA x0, vI x1, vI x2, vI x3, vI x4, vI (w32 ((w32 ((w32 (x5 + (w32 (r4 * r5)))) + (w32 (r6 * r7)))) + (w32 (r8 * r9)))), vI (w32 (x6 + 1))] [] σ9 Q)))))))) : L (d + 1) M_Wd_isJacobi 18 [vA x0, vI x1, vI x2, vI x3, vI x4, vI x5, vI x6] [] σ Q :=
  L_iload dWd_isJacobi_18 rfl (L_aload_n dWd_isJacobi_20 rfl (L_getf fw_Wd_19 rfl dWd_isJacobi_21 ⟨h.1, L_icmp_ge dWd_isJacobi_24 (by decide) ⟨fun c1 => L_iload dWd_isJacobi_102 rfl (L_aload_n dWd_isJacobi_104 rfl (L_getf fw_Wd_15 rfl dWd_isJacobi_105 ⟨(h.2.1 c1).1, L_callNI rfl cs_X_mod (As := [vI x5, vI (σ x0 1)]) rfl (by decide +kernel) rfl (Nat.le_of_ble_eq_true rfl) dWd_isJacobi_108 (Tri.mono ((h.2.1 c1).2) (fun r2 σ2 q2 => L_if_eq dWd_isJacobi_111 (by decide) ⟨fun c3 => L_iinc dWd_isJacobi_116 rfl (by decide) (L_goto dWd_isJacobi_119 (by decide) (L_weak [true, true, true, true, true, false, false] (q2.1 c3))), fun c3 => L_iconst dWd_isJacobi_114 in_0 (L_zreturn0 rfl dWd_isJacobi_115 (q2.2 c3))⟩))⟩)), fun c1 => L_iload dWd_isJacobi_27 rfl (L_aload_n dWd_isJacobi_29 rfl (L_iload_n dWd_isJacobi_30 rfl (L_iload_n dWd_isJacobi_31 rfl (L_iload dWd_isJacobi_32 rfl (L_callVI rfl cv_Wd_cell (As := [vI x2, vI x3, vI x6]) rfl (tk4 45 rfl rfl) rfl (Nat.le_of_ble_eq_true rfl) dWd_isJacobi_34 ⟨(h.2.2 c1).1, Tri.mono ((h.2.2 c1).2) (fun r4 σ4 q4 => L_aload_n dWd_isJacobi_37 rfl (L_iload_n dWd_isJacobi_38 rfl (L_iload dWd_isJacobi_39 rfl (L_iload dWd_isJacobi_41 rfl (L_callVI rfl cv_Wd_cell (As := [vI x1, vI x6, vI x4]) rfl (tk4 45 rfl rfl) rfl (Nat.le_of_ble_eq_true rfl) dWd_isJacobi_43 ⟨q4.1, Tri.mono q4.2 (fun r5 σ5 q5 => L_imul dWd_isJacobi_46 (L_iadd dWd_isJacobi_47 (L_istore dWd_isJacobi_48 (by decide) (L_iload dWd_isJacobi_50 rfl (L_aload_n dWd_isJacobi_52 rfl (L_iload_n dWd_isJacobi_53 rfl (L_iload_n dWd_isJacobi_54 rfl (L_iload dWd_isJacobi_55 rfl (L_callVI rfl cv_Wd_cell (As := [vI x3, vI x1, vI x6]) rfl (tk4 45 rfl rfl) rfl (Nat.le_of_ble_eq_true rfl) dWd_isJacobi_57 ⟨q5.1, Tri.mono q5.2 (fun r6 σ6 q6 => L_aload_n dWd_isJacobi_60 rfl (L_iload_n dWd_isJacobi_61 rfl (L_iload dWd_isJacobi_62 rfl (L_iload dWd_isJacobi_64 rfl (L_callVI rfl cv_Wd_cell (As := [vI x2, vI x6, vI x4]) rfl (tk4 45 rfl rfl) rfl (Nat.le_of_ble_eq_true rfl) dWd_isJacobi_66 ⟨q6.1, Tri.mono q6.2 (fun r7 σ7 q7 => L_imul dWd_isJacobi_69 (L_iadd dWd_isJacobi_70 (L_istore dWd_isJacobi_71 (by decide) (L_iload dWd_isJacobi_73 rfl (L_aload_n dWd_isJacobi_75 rfl (L_iload_n dWd_isJacobi_76 rfl (L_iload_n dWd_isJacobi_77 rfl (L_iload dWd_isJacobi_78 rfl (L_callVI rfl cv_Wd_cell (As := [vI x1, vI x2, vI x6]) rfl (tk4 45 rfl rfl) rfl (Nat.le_of_ble_eq_true rfl) dWd_isJacobi_80 ⟨q7.1, Tri.mono q7.2 (fun r8 σ8 q8 => L_aload_n dWd_isJacobi_83 rfl (L_iload_n dWd_isJacobi_84 rfl (L_iload dWd_isJacobi_85 rfl (L_iload dWd_isJacobi_87 rfl (L_callVI rfl cv_Wd_cell (As := [vI x3, vI x6, vI x4]) rfl (tk4 45 rfl rfl) rfl (Nat.le_of_ble_eq_true rfl) dWd_isJacobi_89 ⟨q8.1, Tri.mono q8.2 (fun r9 σ9 q9 => L_imul dWd_isJacobi_92 (L_iadd dWd_isJacobi_93 (L_istore dWd_isJacobi_94 (by decide) (L_iinc dWd_isJacobi_96 rfl (by decide) (L_goto dWd_isJacobi_99 (by decide) q9)))))⟩)))))⟩)))))))))⟩)))))⟩)))))))))⟩)))))⟩)))))⟩⟩))
theorem dWd_decode_0 : decode prog_12_method_15_code 0 = .ok (.aload_n 0, 1) := by decide +kernel
theorem dWd_decode_1 : decode prog_12_method_15_code 1 = .ok (.iload_n 1, 1) := by decide +kernel
theorem dWd_decode_2 : decode prog_12_method_15_code 2 = .ok (.iload_n 2, 1) := by decide +kernel
theorem dWd_decode_3 : decode prog_12_method_15_code 3 = .ok (.invokevirtual 68, 3) := by decide +kernel
theorem dWd_decode_6 : decode prog_12_method_15_code 6 = .ok (.iload_n 3, 1) := by decide +kernel
theorem dWd_decode_7 : decode prog_12_method_15_code 7 = .ok (.istore 4, 2) := by decide +kernel
theorem dWd_decode_9 : decode prog_12_method_15_code 9 = .ok (.iconst 0, 1) := by decide +kernel
theorem dWd_decode_10 : decode prog_12_method_15_code 10 = .ok (.istore 5, 2) := by decide +kernel
theorem dWd_decode_12 : decode prog_12_method_15_code 12 = .ok (.iload 5, 2) := by decide +kernel
theorem dWd_decode_14 : decode prog_12_method_15_code 14 = .ok (.aload_n 0, 1) := by decide +kernel
theorem dWd_decode_15 : decode prog_12_method_15_code 15 = .ok (.getfield 19, 3) := by decide +kernel
theorem dWd_decode_18 : decode prog_12_method_15_code 18 = .ok (.if_icmp .ge 95, 3) := by decide +kernel
theorem dWd_decode_21 : decode prog_12_method_15_code 21 = .ok (.iload 5, 2) := by decide +kernel
theorem dWd_decode_23 : decode prog_12_method_15_code 23 = .ok (.iconst 1, 1) := by decide +kernel
theorem dWd_decode_24 : decode prog_12_method_15_code 24 = .ok (.iadd, 1) := by decide +kernel
theorem dWd_decode_25 : decode prog_12_method_15_code 25 = .ok (.istore 6, 2) := by decide +kernel
theorem dWd_decode_27 : decode prog_12_method_15_code 27 = .ok (.iload 6, 2) := by decide +kernel
theorem dWd_decode_29 : decode prog_12_method_15_code 29 = .ok (.aload_n 0, 1) := by decide +kernel
theorem dWd_decode_30 : decode prog_12_method_15_code 30 = .ok (.getfield 19, 3) := by decide +kernel
theorem dWd_decode_33 : decode prog_12_method_15_code 33 = .ok (.if_icmp .ge 74, 3) := by decide +kernel
theorem dWd_decode_36 : decode prog_12_method_15_code 36 = .ok (.iconst 0, 1) := by decide +kernel
theorem dWd_decode_37 : decode prog_12_method_15_code 37 = .ok (.istore 7, 2) := by decide +kernel
theorem dWd_decode_39 : decode prog_12_method_15_code 39 = .ok (.iload 7, 2) := by decide +kernel
theorem dWd_decode_41 : decode prog_12_method_15_code 41 = .ok (.aload_n 0, 1) := by decide +kernel
theorem dWd_decode_42 : decode prog_12_method_15_code 42 = .ok (.getfield 19, 3) := by decide +kernel
theorem dWd_decode_45 : decode prog_12_method_15_code 45 = .ok (.if_icmp .ge 56, 3) := by decide +kernel
theorem dWd_decode_48 : decode prog_12_method_15_code 48 = .ok (.iload 4, 2) := by decide +kernel
theorem dWd_decode_50 : decode prog_12_method_15_code 50 = .ok (.aload_n 0, 1) := by decide +kernel
theorem dWd_decode_51 : decode prog_12_method_15_code 51 = .ok (.getfield 15, 3) := by decide +kernel
theorem dWd_decode_54 : decode prog_12_method_15_code 54 = .ok (.invokestatic 50, 3) := by decide +kernel
theorem dWd_decode_57 : decode prog_12_method_15_code 57 = .ok (.istore 8, 2) := by decide +kernel
theorem dWd_decode_59 : decode prog_12_method_15_code 59 = .ok (.aload_n 0, 1) := by decide +kernel
theorem dWd_decode_60 : decode prog_12_method_15_code 60 = .ok (.iload 5, 2) := by decide +kernel
theorem dWd_decode_62 : decode prog_12_method_15_code 62 = .ok (.iload 6, 2) := by decide +kernel
theorem dWd_decode_64 : decode prog_12_method_15_code 64 = .ok (.iload 7, 2) := by decide +kernel
theorem dWd_decode_66 : decode prog_12_method_15_code 66 = .ok (.iload 8, 2) := by decide +kernel
theorem dWd_decode_68 : decode prog_12_method_15_code 68 = .ok (.invokevirtual 72, 3) := by decide +kernel
theorem dWd_decode_71 : decode prog_12_method_15_code 71 = .ok (.aload_n 0, 1) := by decide +kernel
theorem dWd_decode_72 : decode prog_12_method_15_code 72 = .ok (.getfield 15, 3) := by decide +kernel
theorem dWd_decode_75 : decode prog_12_method_15_code 75 = .ok (.iconst 2, 1) := by decide +kernel
theorem dWd_decode_76 : decode prog_12_method_15_code 76 = .ok (.if_icmp .ge 7, 3) := by decide +kernel
theorem dWd_decode_79 : decode prog_12_method_15_code 79 = .ok (.iconst 0, 1) := by decide +kernel
theorem dWd_decode_80 : decode prog_12_method_15_code 80 = .ok (.goto 13, 3) := by decide +kernel
theorem dWd_decode_83 : decode prog_12_method_15_code 83 = .ok (.iload 4, 2) := by decide +kernel
theorem dWd_decode_85 : decode prog_12_method_15_code 85 = .ok (.iload 8, 2) := by decide +kernel
theorem dWd_decode_87 : decode prog_12_method_15_code 87 = .ok (.isub, 1) := by decide +kernel
theorem dWd_decode_88 : decode prog_12_method_15_code 88 = .ok (.aload_n 0, 1) := by decide +kernel
theorem dWd_decode_89 : decode prog_12_method_15_code 89 = .ok (.getfield 15, 3) := by decide +kernel
theorem dWd_decode_92 : decode prog_12_method_15_code 92 = .ok (.idiv, 1) := by decide +kernel
theorem dWd_decode_93 : decode prog_12_method_15_code 93 = .ok (.istore 4, 2) := by decide +kernel
theorem dWd_decode_95 : decode prog_12_method_15_code 95 = .ok (.iinc 7 1, 3) := by decide +kernel
theorem dWd_decode_98 : decode prog_12_method_15_code 98 = .ok (.goto (-59), 3) := by decide +kernel
theorem dWd_decode_101 : decode prog_12_method_15_code 101 = .ok (.iinc 6 1, 3) := by decide +kernel
theorem dWd_decode_104 : decode prog_12_method_15_code 104 = .ok (.goto (-77), 3) := by decide +kernel
theorem dWd_decode_107 : decode prog_12_method_15_code 107 = .ok (.iinc 5 1, 3) := by decide +kernel
theorem dWd_decode_110 : decode prog_12_method_15_code 110 = .ok (.goto (-98), 3) := by decide +kernel
theorem dWd_decode_113 : decode prog_12_method_15_code 113 = .ok (.return_, 1) := by decide +kernel
theorem t_Wd_decode {d : Nat} {x0 x1 x2 x3 : Int} {σ : SG} {Q : Int → SG → Prop} (h : inI x1 → inI x2 → inI x3 → (obok 10 x0 ∧ Tri d M_Wd_makeEmpty [vA x0, vI x1, vI x2] σ (fun r1 σ1 => L (d + 1) M_Wd_decode 12 [vA x0, vU, vU, vU, vI x3, vI 0, vU, vU, vU] [] σ1 Q))) : Tri (d + 1) M_Wd_decode [vA x0, vI x1, vI x2, vI x3] σ Q :=
  Tri_intro rfl (Nat.le_of_ble_eq_true rfl) (ls := [vA x0, vI x1, vI x2, vI x3, vU, vU, vU, vU, vU]) rfl (fun hok => L_aload_n dWd_decode_0 rfl (L_iload_n dWd_decode_1 rfl (L_iload_n dWd_decode_2 rfl (L_callVV rfl cv_Wd_makeEmpty (As := [vI x1, vI x2]) rfl (tk3 167 rfl rfl) rfl (Nat.le_of_ble_eq_true rfl) dWd_decode_3 ⟨(h (hok _ (List.mem_of_getElem? (i := 1) rfl)) (hok _ (List.mem_of_getElem? (i := 2) rfl)) (hok _ (List.mem_of_getElem? (i := 3) rfl))).1, Tri.mono ((h (hok _ (List.mem_of_getElem? (i := 1) rfl)) (hok _ (List.mem_of_getElem? (i := 2) rfl)) (hok _ (List.mem_of_getElem? (i := 3) rfl))).2) (fun r1 σ1 q1 => L_iload_n dWd_decode_6 rfl (L_istore dWd_decode_7 (by decide) (L_iconst dWd_decode_9 in_0 (L_istore dWd_decode_10 (by decide) (L_weak [true, false, false, false, true, true, true, true, true] q1)))))⟩))))
theorem s_Wd_decode_12 {d : Nat} {x0 x4 x5 : Int} {σ : SG} {Q : Int → SG → Prop} (h : obok 10 x0 ∧ (σ x0 2 ≤ x5 → Q 0 σ) ∧ (x5 < σ x0 2 → L (d + 1) M_Wd_decode 27 [vA x0, vU, vU, vU, vI x4, vI x5, vI (w32 (x5 + 1)), vU, vU] [] σ Q)) : L (d + 1) M_Wd_decode 12 [vA x0, vU, vU, vU, vI x4, vI x5, vU, vU, vU] [] σ Q :=
  L_iload dWd_decode_12 rfl (L_aload_n dWd_decode_14 rfl (L_getf fw_Wd_19 rfl dWd_decode_15 ⟨h.1, L_icmp_ge dWd_decode_18 (by decide) ⟨fun c1 => L_return rfl dWd_decode_113 (h.2.1 c1), fun c1 => L_iload dWd_decode_21 rfl (L_iconst dWd_decode_23 in_1 (L_iadd dWd_decode_24 (L_istore dWd_decode_25 (by decide) (h.2.2 c1))))⟩⟩))
theorem s_Wd_decode_27 {d : Nat} {x0 x4 x5 x6 : Int} {σ : SG} {Q : Int → SG → Prop} (h : obok 10 x0 ∧ (σ x0 2 ≤ x6 → L (d + 1) M_Wd_decode 12 [vA x0, vU, vU, vU, vI x4, vI (w32 (x5 + 1)), vU, vU, vU] [] σ Q) ∧ (x6 < σ x0 2 → L (d + 1) M_Wd_decode 39 [vA x0, vU, vU, vU, vI x4, vI x5, vI x6, vI 0, vU] [] σ Q)) : L (d + 1) M_Wd_decode 27 [vA x0, vU, vU, vU, vI x4, vI x5, vI x6, vU, vU] [] σ Q :=
  L_iload dWd_decode_27 rfl (L_aload_n dWd_decode_29 rfl (L_getf fw_Wd_19 rfl dWd_decode_30 ⟨h.1, L_icmp_ge dWd_decode_33 (by decide) ⟨fun c1 => L_iinc dWd_decode_107 rfl (by decide) (L_goto dWd_decode_110 (by decide) (L_weak [true, true, true, true, true, true, false, true, true] (h.2.1 c1))), fun c1 => L_iconst dWd_decode_36 in_0 (L_istore dWd_decode_37 (by decide) (h.2.2 c1))⟩⟩))
theorem s_Wd_decode_39 {d : Nat} {x0 x4 x5 x6 x7 : Int} {σ : SG} {Q : Int → SG → Prop} (h : obok 10 x0 ∧ (σ x0 2 ≤ x7 → L (d + 1) M_Wd_decode 27 [vA x0, vU, vU, vU, vI x4, vI x5, vI (w32 (x6 + 1)), vU, vU] [] σ Q) ∧ (x7 < σ x0 2 → obok 10 x0 ∧ Tri d M_X_mod [vI x4, vI (σ x0 1)] σ (fun r2 σ2 => obok 10 x0 ∧ Tri d M_Wd_setCell [vA x0, vI x5, vI x6, vI x7, vI r2] σ2 (fun r3 σ3 => obok 10 x0 ∧ (2 ≤ σ3 x0 1 → obok 10 x0 ∧ σ3 x0 1 ≠ 0 ∧ L (d + 1) M_Wd_decode 39 [vA x0, vU, vU, vU, vI (w32 ((w32 (x4 - r2)).tdiv (σ3 x0 1))), vI x5, vI x6, vI (w32 (x7 + 1)), vU] [] σ3 Q) ∧ (σ3 x0 1 < 2 → L (d + 1) M_Wd_decode 39 [vA x0, vU, vU, vU, vI 0, vI x5, vI x6, vI (w32 (x7 + 1)), vU] [] σ3 Q))))) : L (d + 1) M_Wd_decode 39 [vA x0, vU, vU, vU, vI x4, vI x5, vI x6, vI x7, vU] [] σ Q :=
  L_iload dWd_decode_39 rfl (L_aload_n dWd_decode_41 rfl (L_getf fw_Wd_19 rfl dWd_decode_42 ⟨h.1, L_icmp_ge dWd_decode_45 (by decide) ⟨fun c1 => L_iinc dWd_decode_101 rfl (by decide) (L_goto dWd_decode_104 (by decide) (L_weak [true, true, true, true, true, true, true, false, true] (h.2.1 c1))), fun c1 => L_iload dWd_decode_48 rfl (L_aload_n dWd_decode_50 rfl (L_getf fw_Wd_15 rfl dWd_decode_51 ⟨(h.2.2 c1).1, L_callNI rfl cs_X_mod (As := [vI x4, vI (σ x0 1)]) rfl (by decide +kernel) rfl (Nat.le_of_ble_eq_true rfl) dWd_decode_54 (Tri.mono ((h.2.2 c1).2) (fun r2 σ2 q2 => L_istore dWd_decode_57 (by decide) (L_aload_n dWd_decode_59 rfl (L_iload dWd_decode_60 rfl (L_iload dWd_decode_62 rfl (L_iload dWd_decode_64 rfl (L_iload dWd_decode_66 rfl (L_callVV rfl cv_Wd_setCell (As := [vI x5, vI x6, vI x7, vI r2]) rfl (tk3 192 rfl rfl) rfl (Nat.le_of_ble_eq_true rfl) dWd_decode_68 ⟨q2.1, Tri.mono q2.2 (fun r3 σ3 q3 => L_aload_n dWd_decode_71 rfl (L_getf fw_Wd_15 rfl dWd_decode_72 ⟨q3.1, L_iconst dWd_decode_75 in_2 (L_icmp_ge dWd_decode_76 (by decide) ⟨fun c4 => L_iload dWd_decode_83 rfl (L_iload dWd_decode_85 rfl (L_isub dWd_decode_87 (L_aload_n dWd_decode_88 rfl (L_getf fw_Wd_15 rfl dWd_decode_89 ⟨(q3.2.1 c4).1, L_idiv dWd_decode_92 ⟨(q3.2.1 c4).2.1, L_istore dWd_decode_93 (by decide) (L_iinc dWd_decode_95 rfl (by decide) (L_goto dWd_decode_98 (by decide) (L_weak [true, true, true, true, true, true, true, true, false] ((q3.2.1 c4).2.2))))⟩⟩)))), fun c4 => L_iconst dWd_decode_79 in_0 (L_goto dWd_decode_80 (by decide) (L_istore dWd_decode_93 (by decide) (L_iinc dWd_decode_95 rfl (by decide) (L_goto dWd_decode_98 (by decide) (L_weak [true, true, true, true, true, true, true, true, false] (q3.2.2 c4))))))⟩)⟩))⟩))))))))⟩))⟩⟩))
theorem dWd_readFrom_0 : decode prog_12_method_16_code 0 = .ok (.aload_n 1, 1) := by decide +kernel
theorem dWd_readFrom_1 : decode prog_12_method_16_code 1 = .ok (.ldc 76, 2) := by decide +kernel
theorem dWd_readFrom_3 : decode prog_12_method_16_code 3 = .ok (.invokevirtual 77, 3) := by decide +kernel
theorem dWd_readFrom_6 : decode prog_12_method_16_code 6 = .ok (.ifCond .eq 13, 3) := by decide +kernel
theorem dWd_readFrom_9 : decode prog_12_method_16_code 9 = .ok (.aload_n 1, 1) := by decide +kernel
theorem dWd_readFrom_10 : decode prog_12_method_16_code 10 = .ok (.iconst 2, 1) := by decide +kernel
theorem dWd_readFrom_11 : decode prog_12_method_16_code 11 = .ok (.bipush 7, 2) := by decide +kernel
theorem dWd_readFrom_13 : decode prog_12_method_16_code 13 = .ok (.invokevirtual 83, 3) := by decide +kernel
theorem dWd_readFrom_16 : decode prog_12_method_16_code 16 = .ok (.ifCond .ne 5, 3) := by decide +kernel
theorem dWd_readFrom_19 : decode prog_12_method_16_code 19 = .ok (.iconst 0, 1) := by decide +kernel
theorem dWd_readFrom_20 : decode prog_12_method_16_code 20 = .ok (.ireturn, 1) := by decide +kernel
theorem dWd_readFrom_21 : decode prog_12_method_16_code 21 = .ok (.aload_n 1, 1) := by decide +kernel
theorem dWd_readFrom_22 : decode prog_12_method_16_code 22 = .ok (.getfield 87, 3) := by decide +kernel
theorem dWd_readFrom_25 : decode prog_12_method_16_code 25 = .ok (.istore_n 2, 1) := by decide +kernel
theorem dWd_readFrom_26 : decode prog_12_method_16_code 26 = .ok (.iload_n 2, 1) := by decide +kernel
theorem dWd_readFrom_27 : decode prog_12_method_16_code 27 = .ok (.invokestatic 22, 3) := by decide +kernel
theorem dWd_readFrom_30 : decode prog_12_method_16_code 30 = .ok (.ifCond .ne 9, 3) := by decide +kernel
theorem dWd_readFrom_33 : decode prog_12_method_16_code 33 = .ok (.aload_n 1, 1) := by decide +kernel
theorem dWd_readFrom_34 : decode prog_12_method_16_code 34 = .ok (.iconst 4, 1) := by decide +kernel
theorem dWd_readFrom_35 : decode prog_12_method_16_code 35 = .ok (.invokevirtual 90, 3) := by decide +kernel
theorem dWd_readFrom_38 : decode prog_12_method_16_code 38 = .ok (.ireturn, 1) := by decide +kernel
theorem dWd_readFrom_39 : decode prog_12_method_16_code 39 = .ok (.aload_n 1, 1) := by decide +kernel
theorem dWd_readFrom_40 : decode prog_12_method_16_code 40 = .ok (.invokevirtual 94, 3) := by decide +kernel
theorem dWd_readFrom_43 : decode prog_12_method_16_code 43 = .ok (.aload_n 1, 1) := by decide +kernel
theorem dWd_readFrom_44 : decode prog_12_method_16_code 44 = .ok (.bipush 59, 2) := by decide +kernel
theorem dWd_readFrom_46 : decode prog_12_method_16_code 46 = .ok (.invokevirtual 97, 3) := by decide +kernel
theorem dWd_readFrom_49 : decode prog_12_method_16_code 49 = .ok (.ifCond .eq 24, 3) := by decide +kernel
theorem dWd_readFrom_52 : decode prog_12_method_16_code 52 = .ok (.aload_n 1, 1) := by decide +kernel
theorem dWd_readFrom_53 : decode prog_12_method_16_code 53 = .ok (.ldc 101, 2) := by decide +kernel
theorem dWd_readFrom_55 : decode prog_12_method_16_code 55 = .ok (.invokevirtual 77, 3) := by decide +kernel
theorem dWd_readFrom_58 : decode prog_12_method_16_code 58 = .ok (.ifCond .eq 15, 3) := by decide +kernel
theorem dWd_readFrom_61 : decode prog_12_method_16_code 61 = .ok (.aload_n 1, 1) := by decide +kernel
theorem dWd_readFrom_62 : decode prog_12_method_16_code 62 = .ok (.iconst 1, 1) := by decide +kernel
theorem dWd_readFrom_63 : decode prog_12_method_16_code 63 = .ok (.iload_n 2, 1) := by decide +kernel
theorem dWd_readFrom_64 : decode prog_12_method_16_code 64 = .ok (.invokestatic 22, 3) := by decide +kernel
theorem dWd_readFrom_67 : decode prog_12_method_16_code 67 = .ok (.invokevirtual 83, 3) := by decide +kernel
theorem dWd_readFrom_70 : decode prog_12_method_16_code 70 = .ok (.ifCond .ne 5, 3) := by decide +kernel
theorem dWd_readFrom_73 : decode prog_12_method_16_code 73 = .ok (.iconst 0, 1) := by decide +kernel
theorem dWd_readFrom_74 : decode prog_12_method_16_code 74 = .ok (.ireturn, 1) := by decide +kernel
theorem dWd_readFrom_75 : decode prog_12_method_16_code 75 = .ok (.aload_n 0, 1) := by decide +kernel
theorem dWd_readFrom_76 : decode prog_12_method_16_code 76 = .ok (.iload_n 2, 1) := by decide +kernel
theorem dWd_readFrom_77 : decode prog_12_method_16_code 77 = .ok (.aload_n 1, 1) := by decide +kernel
theorem dWd_readFrom_78 : decode prog_12_method_16_code 78 = .ok (.getfield 87, 3) := by decide +kernel
theorem dWd_readFrom_81 : decode prog_12_method_16_code 81 = .ok (.invokevirtual 68, 3) := by decide +kernel
theorem dWd_readFrom_84 : decode prog_12_method_16_code 84 = .ok (.aload_n 1, 1) := by decide +kernel
theorem dWd_readFrom_85 : decode prog_12_method_16_code 85 = .ok (.invokevirtual 94, 3) := by decide +kernel
theorem dWd_readFrom_88 : decode prog_12_method_16_code 88 = .ok (.aload_n 1, 1) := by decide +kernel
theorem dWd_readFrom_89 : decode prog_12_method_16_code 89 = .ok (.bipush 59, 2) := by decide +kernel
theorem dWd_readFrom_91 : decode prog_12_method_16_code 91 = .ok (.invokevirtual 97, 3) := by decide +kernel
theorem dWd_readFrom_94 : decode prog_12_method_16_code 94 = .ok (.ifCond .ne 5, 3) := by decide +kernel
theorem dWd_readFrom_97 : decode prog_12_method_16_code 97 = .ok (.iconst 0, 1) := by decide +kernel
theorem dWd_readFrom_98 : decode prog_12_method_16_code 98 = .ok (.ireturn, 1) := by decide +kernel
theorem dWd_readFrom_99 : decode prog_12_method_16_code 99 = .ok (.iconst 0, 1) := by decide +kernel
theorem dWd_readFrom_100 : decode prog_12_method_16_code 100 = .ok (.istore_n 3, 1) := by decide +kernel
theorem dWd_readFrom_101 : decode prog_12_method_16_code 101 = .ok (.iconst 0, 1) := by decide +kernel
theorem dWd_readFrom_102 : decode prog_12_method_16_code 102 = .ok (.istore 4, 2) := by decide +kernel
theorem dWd_readFrom_104 : decode prog_12_method_16_code 104 = .ok (.iload 4, 2) := by decide +kernel
theorem dWd_readFrom_106 : decode prog_12_method_16_code 106 = .ok (.sipush 600, 3) := by decide +kernel
theorem dWd_readFrom_109 : decode prog_12_method_16_code 109 = .ok (.if_icmp .ge 48, 3) := by decide +kernel
theorem dWd_readFrom_112 : decode prog_12_method_16_code 112 = .ok (.aload_n 1, 1) := by decide +kernel
theorem dWd_readFrom_113 : decode prog_12_method_16_code 113 = .ok (.invokevirtual 102, 3) := by decide +kernel
theorem dWd_readFrom_116 : decode prog_12_method_16_code 116 = .ok (.ifCond .ne 41, 3) := by decide +kernel
theorem dWd_readFrom_119 : decode prog_12_method_16_code 119 = .ok (.aload_n 0, 1) := by decide +kernel
theorem dWd_readFrom_120 : decode prog_12_method_16_code 120 = .ok (.aload_n 1, 1) := by decide +kernel
theorem dWd_readFrom_121 : decode prog_12_method_16_code 121 = .ok (.iload_n 3, 1) := by decide +kernel
theorem dWd_readFrom_122 : decode prog_12_method_16_code 122 = .ok (.invokevirtual 106, 3) := by decide +kernel
theorem dWd_readFrom_125 : decode prog_12_method_16_code 125 = .ok (.istore 5, 2) := by decide +kernel
theorem dWd_readFrom_127 : decode prog_12_method_16_code 127 = .ok (.iload 5, 2) := by decide +kernel
theorem dWd_readFrom_129 : decode prog_12_method_16_code 129 = .ok (.ifCond .lt 13, 3) := by decide +kernel
theorem dWd_readFrom_132 : decode prog_12_method_16_code 132 = .ok (.aload_n 0, 1) := by decide +kernel
theorem dWd_readFrom_133 : decode prog_12_method_16_code 133 = .ok (.aload_n 1, 1) := by decide +kernel
theorem dWd_readFrom_134 : decode prog_12_method_16_code 134 = .ok (.iload 5, 2) := by decide +kernel
theorem dWd_readFrom_136 : decode prog_12_method_16_code 136 = .ok (.invokevirtual 110, 3) := by decide +kernel
theorem dWd_readFrom_139 : decode prog_12_method_16_code 139 = .ok (.ifCond .ne 5, 3) := by decide +kernel
theorem dWd_readFrom_142 : decode prog_12_method_16_code 142 = .ok (.iconst 0, 1) := by decide +kernel
theorem dWd_readFrom_143 : decode prog_12_method_16_code 143 = .ok (.ireturn, 1) := by decide +kernel
theorem dWd_readFrom_144 : decode prog_12_method_16_code 144 = .ok (.iload_n 3, 1) := by decide +kernel
theorem dWd_readFrom_145 : decode prog_12_method_16_code 145 = .ok (.iconst 1, 1) := by decide +kernel
theorem dWd_readFrom_146 : decode prog_12_method_16_code 146 = .ok (.iload 5, 2) := by decide +kernel
theorem dWd_readFrom_148 : decode prog_12_method_16_code 148 = .ok (.ishl, 1) := by decide +kernel
theorem dWd_readFrom_149 : decode prog_12_method_16_code 149 = .ok (.ior, 1) := by decide +kernel
theorem dWd_readFrom_150 : decode prog_12_method_16_code 150 = .ok (.istore_n 3, 1) := by decide +kernel
theorem dWd_readFrom_151 : decode prog_12_method_16_code 151 = .ok (.iinc 4 1, 3) := by decide +kernel
theorem dWd_readFrom_154 : decode prog_12_method_16_code 154 = .ok (.goto (-50), 3) := by decide +kernel
theorem dWd_readFrom_157 : decode prog_12_method_16_code 157 = .ok (.aload_n 1, 1) := by decide +kernel
theorem dWd_readFrom_158 : decode prog_12_method_16_code 158 = .ok (.invokevirtual 114, 3) := by decide +kernel
theorem dWd_readFrom_161 : decode prog_12_method_16_code 161 = .ok (.ireturn, 1) := by decide +kernel
theorem t_Wd_readFrom {d : Nat} {x0 x1 : Int} {σ : SG} {Q : Int → SG → Prop} (h : obok 8 x1 ∧ Tri d M_To_takeWord [vA x1, vA (-10 - (0 : Int))] σ (fun r1 σ1 => (r1 = 0 → Q 0 σ1) ∧ (r1 ≠ 0 → obok 8 x1 ∧ Tri d M_To_seesNumber [vA x1, vI 2, vI 7] σ1 (fun r3 σ3 => (r3 ≠ 0 → obok 8 x1 ∧ Tri d M_X_sizeLimit [vI (σ3 x1 1)] σ3 (fun r5 σ5 => (r5 ≠ 0 → obok 8 x1 ∧ Tri d M_To_advance [vA x1] σ5 (fun r7 σ7 => obok 8 x1 ∧ Tri d M_To_takeSign [vA x1, vI 59] σ7 (fun r8 σ8 => (r8 = 0 → Q 0 σ8) ∧ (r8 ≠ 0 → obok 8 x1 ∧ Tri d M_To_takeWord [vA x1, vA (-10 - (1 : Int))] σ8 (fun r10 σ10 => (r10 = 0 → Q 0 σ10) ∧ (r10 ≠ 0 → Tri d M_X_sizeLimit [vI (σ3 x1 1)] σ10 (fun r12 σ12 => obok 8 x1 ∧ Tri d M_To_seesNumber [vA x1, vI 1, vI r12] σ12 (fun r13 σ13 => (r13 ≠ 0 → obok 8 x1 ∧ obok 10 x0 ∧ Tri d M_Wd_makeEmpty [vA x0, vI (σ3 x1 1), vI (σ13 x1 1)] σ13 (fun r15 σ15 => obok 8 x1 ∧ Tri d M_To_advance [vA x1] σ15 (fun r16 σ16 => obok 8 x1 ∧ Tri d M_To_takeSign [vA x1, vI 59] σ16 (fun r17 σ17 => (r17 ≠ 0 → L (d + 1) M_Wd_readFrom 104 [vA x0, vA x1, vU, vI 0, vI 0, vU] [] σ17 Q) ∧ (r17 = 0 → Q 0 σ17))))) ∧ (r13 = 0 → Q 0 σ13))))))))) ∧ (r5 = 0 → obok 8 x1 ∧ Tri d M_To_blame [vA x1, vI 4] σ5 (fun r19 σ19 => (r19 = 0 ∨ r19 = 1) ∧ Q r19 σ19)))) ∧ (r3 = 0 → Q 0 σ3))))) : Tri (d + 1) M_Wd_readFrom [vA x0, vA x1] σ Q :=
  Tri_intro rfl (Nat.le_of_ble_eq_true rfl) (ls := [vA x0, vA x1, vU, vU, vU, vU]) rfl (fun hok => L_aload_n dWd_readFrom_0 rfl (L_ldcS (k := 0) (tx := "prime") (by decide +kernel) dWd_readFrom_1 (L_callVI rfl cv_To_takeWord (As := [vA (-10 - (0 : Int))]) rfl (tk3 89 rfl rfl) rfl (Nat.le_of_ble_eq_true rfl) dWd_readFrom_3 ⟨h.1, Tri.mono (h.2) (fun r1 σ1 q1 => L_if_eq dWd_readFrom_6 (by decide) ⟨fun c2 => L_iconst dWd_readFrom_19 in_0 (L_zreturn0 rfl dWd_readFrom_20 (q1.1 c2)), fun c2 => L_aload_n dWd_readFrom_9 rfl (L_iconst dWd_readFrom_10 in_2 (L_bipush dWd_readFrom_11 bp_7 in_7 (L_callVI rfl cv_To_seesNumber (As := [vI 2, vI 7]) rfl (tk3 149 rfl rfl) rfl (Nat.le_of_ble_eq_true rfl) dWd_readFrom_13 ⟨(q1.2 c2).1, Tri.mono ((q1.2 c2).2) (fun r3 σ3 q3 => L_if_ne dWd_readFrom_16 (by decide) ⟨fun c4 => L_aload_n dWd_readFrom_21 rfl (L_getf fw_Wd_87 rfl dWd_readFrom_22 ⟨(q3.1 c4).1, L_istore_n dWd_readFrom_25 (by decide) (L_iload_n dWd_readFrom_26 rfl (L_callNI rfl cs_X_sizeLimit (As := [vI (σ3 x1 1)]) rfl (by decide +kernel) rfl (Nat.le_of_ble_eq_true rfl) dWd_readFrom_27 (Tri.mono ((q3.1 c4).2) (fun r5 σ5 q5 => L_if_ne dWd_readFrom_30 (by decide) ⟨fun c6 => L_aload_n dWd_readFrom_39 rfl (L_callVV rfl cv_To_advance (As := []) rfl (tk3 157 rfl rfl) rfl (Nat.le_of_ble_eq_true rfl) dWd_readFrom_40 ⟨(q5.1 c6).1, Tri.mono ((q5.1 c6).2) (fun r7 σ7 q7 => L_aload_n dWd_readFrom_43 rfl (L_bipush dWd_readFrom_44 bp_59 in_59 (L_callVI rfl cv_To_takeSign (As := [vI 59]) rfl (tk3 158 rfl rfl) rfl (Nat.le_of_ble_eq_true rfl) dWd_readFrom_46 ⟨q7.1, Tri.mono q7.2 (fun r8 σ8 q8 => L_if_eq dWd_readFrom_49 (by decide) ⟨fun c9 => L_iconst dWd_readFrom_73 in_0 (L_zreturn0 rfl dWd_readFrom_74 (q8.1 c9)), fun c9 => L_aload_n dWd_readFrom_52 rfl (L_ldcS (k := 1) (tx := "size") (by decide +kernel) dWd_readFrom_53 (L_callVI rfl cv_To_takeWord (As := [vA (-10 - (1 : Int))]) rfl (tk3 89 rfl rfl) rfl (Nat.le_of_ble_eq_true rfl) dWd_readFrom_55 ⟨(q8.2 c9).1, Tri.mono ((q8.2 c9).2) (fun r10 σ10 q10 => L_if_eq dWd_readFrom_58 (by decide) ⟨fun c11 => L_iconst dWd_readFrom_73 in_0 (L_zreturn0 rfl dWd_readFrom_74 (q10.1 c11)), fun c11 => L_aload_n dWd_readFrom_61 rfl (L_iconst dWd_readFrom_62 in_1 (L_iload_n dWd_readFrom_63 rfl (L_callNI rfl cs_X_sizeLimit (As := [vI (σ3 x1 1)]) rfl (by decide +kernel) rfl (Nat.le_of_ble_eq_true rfl) dWd_readFrom_64 (Tri.mono (q10.2 c11) (fun r12 σ12 q12 => L_callVI rfl cv_To_seesNumber (As := [vI 1, vI r12]) rfl (tk3 149 rfl rfl) rfl (Nat.le_of_ble_eq_true rfl) dWd_readFrom_67 ⟨q12.1, Tri.mono q12.2 (fun r13 σ13 q13 => L_if_ne dWd_readFrom_70 (by decide) ⟨fun c14 => L_aload_n dWd_readFrom_75 rfl (L_iload_n dWd_readFrom_76 rfl (L_aload_n dWd_readFrom_77 rfl (L_getf fw_Wd_87 rfl dWd_readFrom_78 ⟨(q13.1 c14).1, L_callVV rfl cv_Wd_makeEmpty (As := [vI (σ3 x1 1), vI (σ13 x1 1)]) rfl (tk3 167 rfl rfl) rfl (Nat.le_of_ble_eq_true rfl) dWd_readFrom_81 ⟨(q13.1 c14).2.1, Tri.mono ((q13.1 c14).2.2) (fun r15 σ15 q15 => L_aload_n dWd_readFrom_84 rfl (L_callVV rfl cv_To_advance (As := []) rfl (tk3 157 rfl rfl) rfl (Nat.le_of_ble_eq_true rfl) dWd_readFrom_85 ⟨q15.1, Tri.mono q15.2 (fun r16 σ16 q16 => L_aload_n dWd_readFrom_88 rfl (L_bipush dWd_readFrom_89 bp_59 in_59 (L_callVI rfl cv_To_takeSign (As := [vI 59]) rfl (tk3 158 rfl rfl) rfl (Nat.le_of_ble_eq_true rfl) dWd_readFrom_91 ⟨q16.1, Tri.mono q16.2 (fun r17 σ17 q17 => L_if_ne dWd_readFrom_94 (by decide) ⟨fun c18 => L_iconst dWd_readFrom_99 in_0 (L_istore_n dWd_readFrom_100 (by decide) (L_iconst dWd_readFrom_101 in_0 (L_istore dWd_readFrom_102 (by decide) (L_weak [true, true, false, true, true, true] (q17.1 c18))))), fun c18 => L_iconst dWd_readFrom_97 in_0 (L_zreturn0 rfl dWd_readFrom_98 (q17.2 c18))⟩)⟩)))⟩))⟩⟩))), fun c14 => L_iconst dWd_readFrom_73 in_0 (L_zreturn0 rfl dWd_readFrom_74 (q13.2 c14))⟩)⟩)))))⟩)⟩))⟩)⟩)))⟩), fun c6 => L_aload_n dWd_readFrom_33 rfl (L_iconst dWd_readFrom_34 in_4 (L_callVI rfl cv_To_blame (As := [vI 4]) rfl (tk3 156 rfl rfl) rfl (Nat.le_of_ble_eq_true rfl) dWd_readFrom_35 ⟨(q5.2 c6).1, Tri.mono ((q5.2 c6).2) (fun r19 σ19 q19 => L_zreturn rfl dWd_readFrom_38 q19)⟩))⟩))))⟩), fun c4 => L_iconst dWd_readFrom_19 in_0 (L_zreturn0 rfl dWd_readFrom_20 (q3.2 c4))⟩)⟩)))⟩)⟩)))
theorem s_Wd_readFrom_104 {d : Nat} {x0 x1 x3 x4 : Int} {σ : SG} {Q : Int → SG → Prop} (h : (600 ≤ x4 → obok 8 x1 ∧ Tri d M_To_praise [vA x1] σ (fun r2 σ2 => (r2 = 0 ∨ r2 = 1) ∧ Q r2 σ2)) ∧ (x4 < 600 → obok 8 x1 ∧ Tri d M_To_atEnd [vA x1] σ (fun r3 σ3 => (r3 ≠ 0 → obok 8 x1 ∧ Tri d M_To_praise [vA x1] σ3 (fun r5 σ5 => (r5 = 0 ∨ r5 = 1) ∧ Q r5 σ5)) ∧ (r3 = 0 → obok 10 x0 ∧ Tri d M_Wd_readCouple [vA x0, vA x1, vI x3] σ3 (fun r6 σ6 => (r6 < 0 → Q 0 σ6) ∧ (0 ≤ r6 → obok 10 x0 ∧ Tri d M_Wd_readTerms [vA x0, vA x1, vI r6] σ6 (fun r8 σ8 => (r8 ≠ 0 → L (d + 1) M_Wd_readFrom 104 [vA x0, vA x1, vU, vI (or32 x3 (shl32 1 r6)), vI (w32 (x4 + 1)), vU] [] σ8 Q) ∧ (r8 = 0 → Q 0 σ8)))))))) : L (d + 1) M_Wd_readFrom 104 [vA x0, vA x1, vU, vI x3, vI x4, vU] [] σ Q :=
  L_iload dWd_readFrom_104 rfl (L_sipush dWd_readFrom_106 sp_600 in_600 (L_icmp_ge dWd_readFrom_109 (by decide) ⟨fun c1 => L_aload_n dWd_readFrom_157 rfl (L_callVI rfl cv_To_praise (As := []) rfl (tk3 199 rfl rfl) rfl (Nat.le_of_ble_eq_true rfl) dWd_readFrom_158 ⟨(h.1 c1).1, Tri.mono ((h.1 c1).2) (fun r2 σ2 q2 => L_zreturn rfl dWd_readFrom_161 q2)⟩), fun c1 => L_aload_n dWd_readFrom_112 rfl (L_callVI rfl cv_To_atEnd (As := []) rfl (tk3 174 rfl rfl) rfl (Nat.le_of_ble_eq_true rfl) dWd_readFrom_113 ⟨(h.2 c1).1, Tri.mono ((h.2 c1).2) (fun r3 σ3 q3 => L_if_ne dWd_readFrom_116 (by decide) ⟨fun c4 => L_aload_n dWd_readFrom_157 rfl (L_callVI rfl cv_To_praise (As := []) rfl (tk3 199 rfl rfl) rfl (Nat.le_of_ble_eq_true rfl) dWd_readFrom_158 ⟨(q3.1 c4).1, Tri.mono ((q3.1 c4).2) (fun r5 σ5 q5 => L_zreturn rfl dWd_readFrom_161 q5)⟩), fun c4 => L_aload_n dWd_readFrom_119 rfl (L_aload_n dWd_readFrom_120 rfl (L_iload_n dWd_readFrom_121 rfl (L_callVI rfl cv_Wd_readCouple (As := [vA x1, vI x3]) rfl (tk3 178 rfl rfl) rfl (Nat.le_of_ble_eq_true rfl) dWd_readFrom_122 ⟨(q3.2 c4).1, Tri.mono ((q3.2 c4).2) (fun r6 σ6 q6 => L_istore dWd_readFrom_125 (by decide) (L_iload dWd_readFrom_127 rfl (L_if_lt dWd_readFrom_129 (by decide) ⟨fun c7 => L_iconst dWd_readFrom_142 in_0 (L_zreturn0 rfl dWd_readFrom_143 (q6.1 c7)), fun c7 => L_aload_n dWd_readFrom_132 rfl (L_aload_n dWd_readFrom_133 rfl (L_iload dWd_readFrom_134 rfl (L_callVI rfl cv_Wd_readTerms (As := [vA x1, vI r6]) rfl (tk3 184 rfl rfl) rfl (Nat.le_of_ble_eq_true rfl) dWd_readFrom_136 ⟨(q6.2 c7).1, Tri.mono ((q6.2 c7).2) (fun r8 σ8 q8 => L_if_ne dWd_readFrom_139 (by decide) ⟨fun c9 => L_iload_n dWd_readFrom_144 rfl (L_iconst dWd_readFrom_145 in_1 (L_iload dWd_readFrom_146 rfl (L_ishl dWd_readFrom_148 (L_ior dWd_readFrom_149 (L_istore_n dWd_readFrom_150 (by decide) (L_iinc dWd_readFrom_151 rfl (by decide) (L_goto dWd_readFrom_154 (by decide) (L_weak [true, true, true, true, true, false] (q8.1 c9))))))))), fun c9 => L_iconst dWd_readFrom_142 in_0 (L_zreturn0 rfl dWd_readFrom_143 (q8.2 c9))⟩)⟩)))⟩)))⟩)))⟩)⟩)⟩))
theorem dWd_readCouple_0 : decode prog_12_method_17_code 0 = .ok (.aload_n 1, 1) := by decide +kernel
theorem dWd_readCouple_1 : decode prog_12_method_17_code 1 = .ok (.ldc 117, 2) := by decide +kernel
theorem dWd_readCouple_3 : decode prog_12_method_17_code 3 = .ok (.invokevirtual 77, 3) := by decide +kernel
theorem dWd_readCouple_6 : decode prog_12_method_17_code 6 = .ok (.ifCond .eq 17, 3) := by decide +kernel
theorem dWd_readCouple_9 : decode prog_12_method_17_code 9 = .ok (.aload_n 1, 1) := by decide +kernel
theorem dWd_readCouple_10 : decode prog_12_method_17_code 10 = .ok (.iconst 0, 1) := by decide +kernel
theorem dWd_readCouple_11 : decode prog_12_method_17_code 11 = .ok (.aload_n 0, 1) := by decide +kernel
theorem dWd_readCouple_12 : decode prog_12_method_17_code 12 = .ok (.getfield 19, 3) := by decide +kernel
theorem dWd_readCouple_15 : decode prog_12_method_17_code 15 = .ok (.iconst 1, 1) := by decide +kernel
theorem dWd_readCouple_16 : decode prog_12_method_17_code 16 = .ok (.isub, 1) := by decide +kernel
theorem dWd_readCouple_17 : decode prog_12_method_17_code 17 = .ok (.invokevirtual 83, 3) := by decide +kernel
theorem dWd_readCouple_20 : decode prog_12_method_17_code 20 = .ok (.ifCond .ne 5, 3) := by decide +kernel
theorem dWd_readCouple_23 : decode prog_12_method_17_code 23 = .ok (.iconst (-1), 1) := by decide +kernel
theorem dWd_readCouple_24 : decode prog_12_method_17_code 24 = .ok (.ireturn, 1) := by decide +kernel
theorem dWd_readCouple_25 : decode prog_12_method_17_code 25 = .ok (.aload_n 1, 1) := by decide +kernel
theorem dWd_readCouple_26 : decode prog_12_method_17_code 26 = .ok (.getfield 87, 3) := by decide +kernel
theorem dWd_readCouple_29 : decode prog_12_method_17_code 29 = .ok (.istore_n 3, 1) := by decide +kernel
theorem dWd_readCouple_30 : decode prog_12_method_17_code 30 = .ok (.aload_n 1, 1) := by decide +kernel
theorem dWd_readCouple_31 : decode prog_12_method_17_code 31 = .ok (.invokevirtual 94, 3) := by decide +kernel
theorem dWd_readCouple_34 : decode prog_12_method_17_code 34 = .ok (.aload_n 1, 1) := by decide +kernel
theorem dWd_readCouple_35 : decode prog_12_method_17_code 35 = .ok (.iload_n 3, 1) := by decide +kernel
theorem dWd_readCouple_36 : decode prog_12_method_17_code 36 = .ok (.iconst 1, 1) := by decide +kernel
theorem dWd_readCouple_37 : decode prog_12_method_17_code 37 = .ok (.iadd, 1) := by decide +kernel
theorem dWd_readCouple_38 : decode prog_12_method_17_code 38 = .ok (.aload_n 0, 1) := by decide +kernel
theorem dWd_readCouple_39 : decode prog_12_method_17_code 39 = .ok (.getfield 19, 3) := by decide +kernel
theorem dWd_readCouple_42 : decode prog_12_method_17_code 42 = .ok (.iconst 1, 1) := by decide +kernel
theorem dWd_readCouple_43 : decode prog_12_method_17_code 43 = .ok (.isub, 1) := by decide +kernel
theorem dWd_readCouple_44 : decode prog_12_method_17_code 44 = .ok (.invokevirtual 83, 3) := by decide +kernel
theorem dWd_readCouple_47 : decode prog_12_method_17_code 47 = .ok (.ifCond .ne 5, 3) := by decide +kernel
theorem dWd_readCouple_50 : decode prog_12_method_17_code 50 = .ok (.iconst (-1), 1) := by decide +kernel
theorem dWd_readCouple_51 : decode prog_12_method_17_code 51 = .ok (.ireturn, 1) := by decide +kernel
theorem dWd_readCouple_52 : decode prog_12_method_17_code 52 = .ok (.iload_n 3, 1) := by decide +kernel
theorem dWd_readCouple_53 : decode prog_12_method_17_code 53 = .ok (.iconst 5, 1) := by decide +kernel
theorem dWd_readCouple_54 : decode prog_12_method_17_code 54 = .ok (.imul, 1) := by decide +kernel
theorem dWd_readCouple_55 : decode prog_12_method_17_code 55 = .ok (.aload_n 1, 1) := by decide +kernel
theorem dWd_readCouple_56 : decode prog_12_method_17_code 56 = .ok (.getfield 87, 3) := by decide +kernel
theorem dWd_readCouple_59 : decode prog_12_method_17_code 59 = .ok (.iadd, 1) := by decide +kernel
theorem dWd_readCouple_60 : decode prog_12_method_17_code 60 = .ok (.istore 4, 2) := by decide +kernel
theorem dWd_readCouple_62 : decode prog_12_method_17_code 62 = .ok (.iload_n 2, 1) := by decide +kernel
theorem dWd_readCouple_63 : decode prog_12_method_17_code 63 = .ok (.iload 4, 2) := by decide +kernel
theorem dWd_readCouple_65 : decode prog_12_method_17_code 65 = .ok (.ishr, 1) := by decide +kernel
theorem dWd_readCouple_66 : decode prog_12_method_17_code 66 = .ok (.iconst 1, 1) := by decide +kernel
theorem dWd_readCouple_67 : decode prog_12_method_17_code 67 = .ok (.iand, 1) := by decide +kernel
theorem dWd_readCouple_68 : decode prog_12_method_17_code 68 = .ok (.ifCond .eq 11, 3) := by decide +kernel
theorem dWd_readCouple_71 : decode prog_12_method_17_code 71 = .ok (.aload_n 1, 1) := by decide +kernel
theorem dWd_readCouple_72 : decode prog_12_method_17_code 72 = .ok (.iconst 5, 1) := by decide +kernel
theorem dWd_readCouple_73 : decode prog_12_method_17_code 73 = .ok (.invokevirtual 90, 3) := by decide +kernel
theorem dWd_readCouple_76 : decode prog_12_method_17_code 76 = .ok (.pop, 1) := by decide +kernel
theorem dWd_readCouple_77 : decode prog_12_method_17_code 77 = .ok (.iconst (-1), 1) := by decide +kernel
theorem dWd_readCouple_78 : decode prog_12_method_17_code 78 = .ok (.ireturn, 1) := by decide +kernel
theorem dWd_readCouple_79 : decode prog_12_method_17_code 79 = .ok (.aload_n 1, 1) := by decide +kernel
theorem dWd_readCouple_80 : decode prog_12_method_17_code 80 = .ok (.invokevirtual 94, 3) := by decide +kernel
theorem dWd_readCouple_83 : decode prog_12_method_17_code 83 = .ok (.aload_n 1, 1) := by decide +kernel
theorem dWd_readCouple_84 : decode prog_12_method_17_code 84 = .ok (.ldc 119, 2) := by decide +kernel
theorem dWd_readCouple_86 : decode prog_12_method_17_code 86 = .ok (.invokevirtual 77, 3) := by decide +kernel
theorem dWd_readCouple_89 : decode prog_12_method_17_code 89 = .ok (.ifCond .eq 8, 3) := by decide +kernel
theorem dWd_readCouple_92 : decode prog_12_method_17_code 92 = .ok (.iload 4, 2) := by decide +kernel
theorem dWd_readCouple_94 : decode prog_12_method_17_code 94 = .ok (.goto 4, 3) := by decide +kernel
theorem dWd_readCouple_97 : decode prog_12_method_17_code 97 = .ok (.iconst (-1), 1) := by decide +kernel
theorem dWd_readCouple_98 : decode prog_12_method_17_code 98 = .ok (.ireturn, 1) := by decide +kernel
theorem t_Wd_readCouple {d : Nat} {x0 x1 x2 : Int} {σ : SG} {Q : Int → SG → Prop} (h : inI x2 → (obok 8 x1 ∧ Tri d M_To_takeWord [vA x1, vA (-10 - (2 : Int))] σ (fun r1 σ1 => (r1 = 0 → Q (-1) σ1) ∧ (r1 ≠ 0 → obok 10 x0 ∧ obok 8 x1 ∧ Tri d M_To_seesNumber [vA x1, vI 0, vI (w32 ((σ1 x0 2) - 1))] σ1 (fun r3 σ3 => (r3 ≠ 0 → obok 8 x1 ∧ obok 8 x1 ∧ Tri d M_To_advance [vA x1] σ3 (fun r5 σ5 => obok 10 x0 ∧ obok 8 x1 ∧ Tri d M_To_seesNumber [vA x1, vI (w32 ((σ3 x1 1) + 1)), vI (w32 ((σ5 x0 2) - 1))] σ5 (fun r6 σ6 => (r6 ≠ 0 → obok 8 x1 ∧ (and32 (shr32 x2 (w32 ((w32 ((σ3 x1 1) * 5)) + (σ6 x1 1)))) 1 = 0 → obok 8 x1 ∧ Tri d M_To_advance [vA x1] σ6 (fun r9 σ9 => obok 8 x1 ∧ Tri d M_To_takeWord [vA x1, vA (-10 - (3 : Int))] σ9 (fun r10 σ10 => (r10 = 0 → Q (-1) σ10) ∧ (r10 ≠ 0 → Q (w32 ((w32 ((σ3 x1 1) * 5)) + (σ6 x1 1))) σ10)))) ∧ (and32 (shr32 x2 (w32 ((w32 ((σ3 x1 1) * 5)) + (σ6 x1 1)))) 1 ≠ 0 → obok 8 x1 ∧ Tri d M_To_blame [vA x1, vI 5] σ6 (fun r12 σ12 => Q (-1) σ12))) ∧ (r6 = 0 → Q (-1) σ6)))) ∧ (r3 = 0 → Q (-1) σ3)))))) : Tri (d + 1) M_Wd_readCouple [vA x0, vA x1, vI x2] σ Q :=
  Tri_intro rfl (Nat.le_of_ble_eq_true rfl) (ls := [vA x0, vA x1, vI x2, vU, vU]) rfl (fun hok => L_aload_n dWd_readCouple_0 rfl (L_ldcS (k := 2) (tx := "bracket") (by decide +kernel) dWd_readCouple_1 (L_callVI rfl cv_To_takeWord (As := [vA (-10 - (2 : Int))]) rfl (tk3 89 rfl rfl) rfl (Nat.le_of_ble_eq_true rfl) dWd_readCouple_3 ⟨(h (hok _ (List.mem_of_getElem? (i := 2) rfl))).1, Tri.mono ((h (hok _ (List.mem_of_getElem? (i := 2) rfl))).2) (fun r1 σ1 q1 => L_if_eq dWd_readCouple_6 (by decide) ⟨fun c2 => L_iconst dWd_readCouple_23 in_m1 (L_ireturn rfl dWd_readCouple_24 (q1.1 c2)), fun c2 => L_aload_n dWd_readCouple_9 rfl (L_iconst dWd_readCouple_10 in_0 (L_aload_n dWd_readCouple_11 rfl (L_getf fw_Wd_19 rfl dWd_readCouple_12 ⟨(q1.2 c2).1, L_iconst dWd_readCouple_15 in_1 (L_isub dWd_readCouple_16 (L_callVI rfl cv_To_seesNumber (As := [vI 0, vI (w32 ((σ1 x0 2) - 1))]) rfl (tk3 149 rfl rfl) rfl (Nat.le_of_ble_eq_true rfl) dWd_readCouple_17 ⟨(q1.2 c2).2.1, Tri.mono ((q1.2 c2).2.2) (fun r3 σ3 q3 => L_if_ne dWd_readCouple_20 (by decide) ⟨fun c4 => L_aload_n dWd_readCouple_25 rfl (L_getf fw_Wd_87 rfl dWd_readCouple_26 ⟨(q3.1 c4).1, L_istore_n dWd_readCouple_29 (by decide) (L_aload_n dWd_readCouple_30 rfl (L_callVV rfl cv_To_advance (As := []) rfl (tk3 157 rfl rfl) rfl (Nat.le_of_ble_eq_true rfl) dWd_readCouple_31 ⟨(q3.1 c4).2.1, Tri.mono ((q3.1 c4).2.2) (fun r5 σ5 q5 => L_aload_n dWd_readCouple_34 rfl (L_iload_n dWd_readCouple_35 rfl (L_iconst dWd_readCouple_36 in_1 (L_iadd dWd_readCouple_37 (L_aload_n dWd_readCouple_38 rfl (L_getf fw_Wd_19 rfl dWd_readCouple_39 ⟨q5.1, L_iconst dWd_readCouple_42 in_1 (L_isub dWd_readCouple_43 (L_callVI rfl cv_To_seesNumber (As := [vI (w32 ((σ3 x1 1) + 1)), vI (w32 ((σ5 x0 2) - 1))]) rfl (tk3 149 rfl rfl) rfl (Nat.le_of_ble_eq_true rfl) dWd_readCouple_44 ⟨q5.2.1, Tri.mono q5.2.2 (fun r6 σ6 q6 => L_if_ne dWd_readCouple_47 (by decide) ⟨fun c7 => L_iload_n dWd_readCouple_52 rfl (L_iconst dWd_readCouple_53 in_5 (L_imul dWd_readCouple_54 (L_aload_n dWd_readCouple_55 rfl (L_getf fw_Wd_87 rfl dWd_readCouple_56 ⟨(q6.1 c7).1, L_iadd dWd_readCouple_59 (L_istore dWd_readCouple_60 (by decide) (L_iload_n dWd_readCouple_62 rfl (L_iload dWd_readCouple_63 rfl (L_ishr dWd_readCouple_65 (L_iconst dWd_readCouple_66 in_1 (L_iand dWd_readCouple_67 (L_if_eq dWd_readCouple_68 (by decide) ⟨fun c8 => L_aload_n dWd_readCouple_79 rfl (L_callVV rfl cv_To_advance (As := []) rfl (tk3 157 rfl rfl) rfl (Nat.le_of_ble_eq_true rfl) dWd_readCouple_80 ⟨((q6.1 c7).2.1 c8).1, Tri.mono (((q6.1 c7).2.1 c8).2) (fun r9 σ9 q9 => L_aload_n dWd_readCouple_83 rfl (L_ldcS (k := 3) (tx := "gives") (by decide +kernel) dWd_readCouple_84 (L_callVI rfl cv_To_takeWord (As := [vA (-10 - (3 : Int))]) rfl (tk3 89 rfl rfl) rfl (Nat.le_of_ble_eq_true rfl) dWd_readCouple_86 ⟨q9.1, Tri.mono q9.2 (fun r10 σ10 q10 => L_if_eq dWd_readCouple_89 (by decide) ⟨fun c11 => L_iconst dWd_readCouple_97 in_m1 (L_ireturn rfl dWd_readCouple_98 (q10.1 c11)), fun c11 => L_iload dWd_readCouple_92 rfl (L_goto dWd_readCouple_94 (by decide) (L_ireturn rfl dWd_readCouple_98 (q10.2 c11)))⟩)⟩)))⟩), fun c8 => L_aload_n dWd_readCouple_71 rfl (L_iconst dWd_readCouple_72 in_5 (L_callVI rfl cv_To_blame (As := [vI 5]) rfl (tk3 156 rfl rfl) rfl (Nat.le_of_ble_eq_true rfl) dWd_readCouple_73 ⟨((q6.1 c7).2.2 c8).1, Tri.mono (((q6.1 c7).2.2 c8).2) (fun r12 σ12 q12 => L_pop dWd_readCouple_76 n01 (L_iconst dWd_readCouple_77 in_m1 (L_ireturn rfl dWd_readCouple_78 q12)))⟩))⟩)))))))⟩)))), fun c7 => L_iconst dWd_readCouple_50 in_m1 (L_ireturn rfl dWd_readCouple_51 (q6.2 c7))⟩)⟩))⟩))))))⟩))⟩), fun c4 => L_iconst dWd_readCouple_23 in_m1 (L_ireturn rfl dWd_readCouple_24 (q3.2 c4))⟩)⟩))⟩)))⟩)⟩)))
theorem dWd_readTerms_0 : decode prog_12_method_18_code 0 = .ok (.iconst 0, 1) := by decide +kernel
theorem dWd_readTerms_1 : decode prog_12_method_18_code 1 = .ok (.istore_n 3, 1) := by decide +kernel
theorem dWd_readTerms_2 : decode prog_12_method_18_code 2 = .ok (.iconst 0, 1) := by decide +kernel
theorem dWd_readTerms_3 : decode prog_12_method_18_code 3 = .ok (.istore 4, 2) := by decide +kernel
theorem dWd_readTerms_5 : decode prog_12_method_18_code 5 = .ok (.iload 4, 2) := by decide +kernel
theorem dWd_readTerms_7 : decode prog_12_method_18_code 7 = .ok (.sipush 600, 3) := by decide +kernel
theorem dWd_readTerms_10 : decode prog_12_method_18_code 10 = .ok (.if_icmp .ge 154, 3) := by decide +kernel
theorem dWd_readTerms_13 : decode prog_12_method_18_code 13 = .ok (.iload 4, 2) := by decide +kernel
theorem dWd_readTerms_15 : decode prog_12_method_18_code 15 = .ok (.ifCond .le 18, 3) := by decide +kernel
theorem dWd_readTerms_18 : decode prog_12_method_18_code 18 = .ok (.aload_n 1, 1) := by decide +kernel
theorem dWd_readTerms_19 : decode prog_12_method_18_code 19 = .ok (.bipush 59, 2) := by decide +kernel
theorem dWd_readTerms_21 : decode prog_12_method_18_code 21 = .ok (.invokevirtual 121, 3) := by decide +kernel
theorem dWd_readTerms_24 : decode prog_12_method_18_code 24 = .ok (.ifCond .eq 9, 3) := by decide +kernel
theorem dWd_readTerms_27 : decode prog_12_method_18_code 27 = .ok (.aload_n 1, 1) := by decide +kernel
theorem dWd_readTerms_28 : decode prog_12_method_18_code 28 = .ok (.invokevirtual 94, 3) := by decide +kernel
theorem dWd_readTerms_31 : decode prog_12_method_18_code 31 = .ok (.iconst 1, 1) := by decide +kernel
theorem dWd_readTerms_32 : decode prog_12_method_18_code 32 = .ok (.ireturn, 1) := by decide +kernel
theorem dWd_readTerms_33 : decode prog_12_method_18_code 33 = .ok (.aload_n 1, 1) := by decide +kernel
theorem dWd_readTerms_34 : decode prog_12_method_18_code 34 = .ok (.ldc 124, 2) := by decide +kernel
theorem dWd_readTerms_36 : decode prog_12_method_18_code 36 = .ok (.invokevirtual 126, 3) := by decide +kernel
theorem dWd_readTerms_39 : decode prog_12_method_18_code 39 = .ok (.istore 5, 2) := by decide +kernel
theorem dWd_readTerms_41 : decode prog_12_method_18_code 41 = .ok (.iload 5, 2) := by decide +kernel
theorem dWd_readTerms_43 : decode prog_12_method_18_code 43 = .ok (.ifCond .eq 7, 3) := by decide +kernel
theorem dWd_readTerms_46 : decode prog_12_method_18_code 46 = .ok (.aload_n 1, 1) := by decide +kernel
theorem dWd_readTerms_47 : decode prog_12_method_18_code 47 = .ok (.invokevirtual 94, 3) := by decide +kernel
theorem dWd_readTerms_50 : decode prog_12_method_18_code 50 = .ok (.aload_n 1, 1) := by decide +kernel
theorem dWd_readTerms_51 : decode prog_12_method_18_code 51 = .ok (.iconst 1, 1) := by decide +kernel
theorem dWd_readTerms_52 : decode prog_12_method_18_code 52 = .ok (.aload_n 0, 1) := by decide +kernel
theorem dWd_readTerms_53 : decode prog_12_method_18_code 53 = .ok (.getfield 15, 3) := by decide +kernel
theorem dWd_readTerms_56 : decode prog_12_method_18_code 56 = .ok (.iconst 1, 1) := by decide +kernel
theorem dWd_readTerms_57 : decode prog_12_method_18_code 57 = .ok (.isub, 1) := by decide +kernel
theorem dWd_readTerms_58 : decode prog_12_method_18_code 58 = .ok (.invokevirtual 83, 3) := by decide +kernel
theorem dWd_readTerms_61 : decode prog_12_method_18_code 61 = .ok (.ifCond .ne 5, 3) := by decide +kernel
theorem dWd_readTerms_64 : decode prog_12_method_18_code 64 = .ok (.iconst 0, 1) := by decide +kernel
theorem dWd_readTerms_65 : decode prog_12_method_18_code 65 = .ok (.ireturn, 1) := by decide +kernel
theorem dWd_readTerms_66 : decode prog_12_method_18_code 66 = .ok (.aload_n 1, 1) := by decide +kernel
theorem dWd_readTerms_67 : decode prog_12_method_18_code 67 = .ok (.getfield 87, 3) := by decide +kernel
theorem dWd_readTerms_70 : decode prog_12_method_18_code 70 = .ok (.istore 6, 2) := by decide +kernel
theorem dWd_readTerms_72 : decode prog_12_method_18_code 72 = .ok (.aload_n 1, 1) := by decide +kernel
theorem dWd_readTerms_73 : decode prog_12_method_18_code 73 = .ok (.invokevirtual 94, 3) := by decide +kernel
theorem dWd_readTerms_76 : decode prog_12_method_18_code 76 = .ok (.aload_n 1, 1) := by decide +kernel
theorem dWd_readTerms_77 : decode prog_12_method_18_code 77 = .ok (.ldc 129, 2) := by decide +kernel
theorem dWd_readTerms_79 : decode prog_12_method_18_code 79 = .ok (.invokevirtual 77, 3) := by decide +kernel
theorem dWd_readTerms_82 : decode prog_12_method_18_code 82 = .ok (.ifCond .eq 17, 3) := by decide +kernel
theorem dWd_readTerms_85 : decode prog_12_method_18_code 85 = .ok (.aload_n 1, 1) := by decide +kernel
theorem dWd_readTerms_86 : decode prog_12_method_18_code 86 = .ok (.iconst 0, 1) := by decide +kernel
theorem dWd_readTerms_87 : decode prog_12_method_18_code 87 = .ok (.aload_n 0, 1) := by decide +kernel
theorem dWd_readTerms_88 : decode prog_12_method_18_code 88 = .ok (.getfield 19, 3) := by decide +kernel
theorem dWd_readTerms_91 : decode prog_12_method_18_code 91 = .ok (.iconst 1, 1) := by decide +kernel
theorem dWd_readTerms_92 : decode prog_12_method_18_code 92 = .ok (.isub, 1) := by decide +kernel
theorem dWd_readTerms_93 : decode prog_12_method_18_code 93 = .ok (.invokevirtual 83, 3) := by decide +kernel
theorem dWd_readTerms_96 : decode prog_12_method_18_code 96 = .ok (.ifCond .ne 5, 3) := by decide +kernel
theorem dWd_readTerms_99 : decode prog_12_method_18_code 99 = .ok (.iconst 0, 1) := by decide +kernel
theorem dWd_readTerms_100 : decode prog_12_method_18_code 100 = .ok (.ireturn, 1) := by decide +kernel
theorem dWd_readTerms_101 : decode prog_12_method_18_code 101 = .ok (.aload_n 1, 1) := by decide +kernel
theorem dWd_readTerms_102 : decode prog_12_method_18_code 102 = .ok (.getfield 87, 3) := by decide +kernel
theorem dWd_readTerms_105 : decode prog_12_method_18_code 105 = .ok (.istore 7, 2) := by decide +kernel
theorem dWd_readTerms_107 : decode prog_12_method_18_code 107 = .ok (.iload_n 3, 1) := by decide +kernel
theorem dWd_readTerms_108 : decode prog_12_method_18_code 108 = .ok (.iload 7, 2) := by decide +kernel
theorem dWd_readTerms_110 : decode prog_12_method_18_code 110 = .ok (.ishr, 1) := by decide +kernel
theorem dWd_readTerms_111 : decode prog_12_method_18_code 111 = .ok (.iconst 1, 1) := by decide +kernel
theorem dWd_readTerms_112 : decode prog_12_method_18_code 112 = .ok (.iand, 1) := by decide +kernel
theorem dWd_readTerms_113 : decode prog_12_method_18_code 113 = .ok (.ifCond .eq 9, 3) := by decide +kernel
theorem dWd_readTerms_116 : decode prog_12_method_18_code 116 = .ok (.aload_n 1, 1) := by decide +kernel
theorem dWd_readTerms_117 : decode prog_12_method_18_code 117 = .ok (.iconst 5, 1) := by decide +kernel
theorem dWd_readTerms_118 : decode prog_12_method_18_code 118 = .ok (.invokevirtual 90, 3) := by decide +kernel
theorem dWd_readTerms_121 : decode prog_12_method_18_code 121 = .ok (.ireturn, 1) := by decide +kernel
theorem dWd_readTerms_122 : decode prog_12_method_18_code 122 = .ok (.iload_n 3, 1) := by decide +kernel
theorem dWd_readTerms_123 : decode prog_12_method_18_code 123 = .ok (.iconst 1, 1) := by decide +kernel
theorem dWd_readTerms_124 : decode prog_12_method_18_code 124 = .ok (.iload 7, 2) := by decide +kernel
theorem dWd_readTerms_126 : decode prog_12_method_18_code 126 = .ok (.ishl, 1) := by decide +kernel
theorem dWd_readTerms_127 : decode prog_12_method_18_code 127 = .ok (.ior, 1) := by decide +kernel
theorem dWd_readTerms_128 : decode prog_12_method_18_code 128 = .ok (.istore_n 3, 1) := by decide +kernel
theorem dWd_readTerms_129 : decode prog_12_method_18_code 129 = .ok (.aload_n 0, 1) := by decide +kernel
theorem dWd_readTerms_130 : decode prog_12_method_18_code 130 = .ok (.iload_n 2, 1) := by decide +kernel
theorem dWd_readTerms_131 : decode prog_12_method_18_code 131 = .ok (.iconst 5, 1) := by decide +kernel
theorem dWd_readTerms_132 : decode prog_12_method_18_code 132 = .ok (.idiv, 1) := by decide +kernel
theorem dWd_readTerms_133 : decode prog_12_method_18_code 133 = .ok (.iload_n 2, 1) := by decide +kernel
theorem dWd_readTerms_134 : decode prog_12_method_18_code 134 = .ok (.iconst 5, 1) := by decide +kernel
theorem dWd_readTerms_135 : decode prog_12_method_18_code 135 = .ok (.irem, 1) := by decide +kernel
theorem dWd_readTerms_136 : decode prog_12_method_18_code 136 = .ok (.iload 7, 2) := by decide +kernel
theorem dWd_readTerms_138 : decode prog_12_method_18_code 138 = .ok (.iload 5, 2) := by decide +kernel
theorem dWd_readTerms_140 : decode prog_12_method_18_code 140 = .ok (.ifCond .eq 9, 3) := by decide +kernel
theorem dWd_readTerms_143 : decode prog_12_method_18_code 143 = .ok (.iload 6, 2) := by decide +kernel
theorem dWd_readTerms_145 : decode prog_12_method_18_code 145 = .ok (.ineg, 1) := by decide +kernel
theorem dWd_readTerms_146 : decode prog_12_method_18_code 146 = .ok (.goto 5, 3) := by decide +kernel
theorem dWd_readTerms_149 : decode prog_12_method_18_code 149 = .ok (.iload 6, 2) := by decide +kernel
theorem dWd_readTerms_151 : decode prog_12_method_18_code 151 = .ok (.invokevirtual 72, 3) := by decide +kernel
theorem dWd_readTerms_154 : decode prog_12_method_18_code 154 = .ok (.aload_n 1, 1) := by decide +kernel
theorem dWd_readTerms_155 : decode prog_12_method_18_code 155 = .ok (.invokevirtual 94, 3) := by decide +kernel
theorem dWd_readTerms_158 : decode prog_12_method_18_code 158 = .ok (.iinc 4 1, 3) := by decide +kernel
theorem dWd_readTerms_161 : decode prog_12_method_18_code 161 = .ok (.goto (-156), 3) := by decide +kernel
theorem dWd_readTerms_164 : decode prog_12_method_18_code 164 = .ok (.aload_n 1, 1) := by decide +kernel
theorem dWd_readTerms_165 : decode prog_12_method_18_code 165 = .ok (.iconst 2, 1) := by decide +kernel
theorem dWd_readTerms_166 : decode prog_12_method_18_code 166 = .ok (.invokevirtual 90, 3) := by decide +kernel
theorem dWd_readTerms_169 : decode prog_12_method_18_code 169 = .ok (.ireturn, 1) := by decide +kernel
theorem t_Wd_readTerms {d : Nat} {x0 x1 x2 : Int} {σ : SG} {Q : Int → SG → Prop} (h : inI x2 → (L (d + 1) M_Wd_readTerms 5 [vA x0, vA x1, vI x2, vI 0, vI 0, vU, vU, vU] [] σ Q)) : Tri (d + 1) M_Wd_readTerms [vA x0, vA x1, vI x2] σ Q :=
  Tri_intro rfl (Nat.le_of_ble_eq_true rfl) (ls := [vA x0, vA x1, vI x2, vU, vU, vU, vU, vU]) rfl (fun hok => L_iconst dWd_readTerms_0 in_0 (L_istore_n dWd_readTerms_1 (by decide) (L_iconst dWd_readTerms_2 in_0 (L_istore dWd_readTerms_3 (by decide) ((h (hok _ (List.mem_of_getElem? (i := 2) rfl))))))))
theorem s_Wd_readTerms_5 {d : Nat} {x0 x1 x2 x3 x4 : Int} {σ : SG} {Q : Int → SG → Prop} (h : (600 ≤ x4 → obok 8 x1 ∧ Tri d M_To_blame [vA x1, vI 2] σ (fun r2 σ2 => (r2 = 0 ∨ r2 = 1) ∧ Q r2 σ2)) ∧ (x4 < 600 → (x4 ≤ 0 → obok 8 x1 ∧ Tri d M_To_isWord [vA x1, vA (-10 - (4 : Int))] σ (fun r4 σ4 => (r4 = 0 → L (d + 1) M_Wd_readTerms 50 [vA x0, vA x1, vI x2, vI x3, vI x4, vI r4, vU, vU] [] σ4 Q) ∧ (r4 ≠ 0 → obok 8 x1 ∧ Tri d M_To_advance [vA x1] σ4 (fun r6 σ6 => L (d + 1) M_Wd_readTerms 50 [vA x0, vA x1, vI x2, vI x3, vI x4, vI r4, vU, vU] [] σ6 Q)))) ∧ (0 < x4 → obok 8 x1 ∧ Tri d M_To_isSign [vA x1, vI 59] σ (fun r7 σ7 => (r7 = 0 → obok 8 x1 ∧ Tri d M_To_isWord [vA x1, vA (-10 - (4 : Int))] σ7 (fun r9 σ9 => (r9 = 0 → L (d + 1) M_Wd_readTerms 50 [vA x0, vA x1, vI x2, vI x3, vI x4, vI r9, vU, vU] [] σ9 Q) ∧ (r9 ≠ 0 → obok 8 x1 ∧ Tri d M_To_advance [vA x1] σ9 (fun r11 σ11 => L (d + 1) M_Wd_readTerms 50 [vA x0, vA x1, vI x2, vI x3, vI x4, vI r9, vU, vU] [] σ11 Q)))) ∧ (r7 ≠ 0 → obok 8 x1 ∧ Tri d M_To_advance [vA x1] σ7 (fun r12 σ12 => Q 1 σ12)))))) : L (d + 1) M_Wd_readTerms 5 [vA x0, vA x1, vI x2, vI x3, vI x4, vU, vU, vU] [] σ Q :=
  L_iload dWd_readTerms_5 rfl (L_sipush dWd_readTerms_7 sp_600 in_600 (L_icmp_ge dWd_readTerms_10 (by decide) ⟨fun c1 => L_aload_n dWd_readTerms_164 rfl (L_iconst dWd_readTerms_165 in_2 (L_callVI rfl cv_To_blame (As := [vI 2]) rfl (tk3 156 rfl rfl) rfl (Nat.le_of_ble_eq_true rfl) dWd_readTerms_166 ⟨(h.1 c1).1, Tri.mono ((h.1 c1).2) (fun r2 σ2 q2 => L_zreturn rfl dWd_readTerms_169 q2)⟩)), fun c1 => L_iload dWd_readTerms_13 rfl (L_if_le dWd_readTerms_15 (by decide) ⟨fun c3 => L_aload_n dWd_readTerms_33 rfl (L_ldcS (k := 4) (tx := "less") (by decide +kernel) dWd_readTerms_34 (L_callVI rfl cv_To_isWord (As := [vA (-10 - (4 : Int))]) rfl (tk3 190 rfl rfl) rfl (Nat.le_of_ble_eq_true rfl) dWd_readTerms_36 ⟨((h.2 c1).1 c3).1, Tri.mono (((h.2 c1).1 c3).2) (fun r4 σ4 q4 => L_istore dWd_readTerms_39 (by decide) (L_iload dWd_readTerms_41 rfl (L_if_eq dWd_readTerms_43 (by decide) ⟨fun c5 => (q4.1 c5), fun c5 => L_aload_n dWd_readTerms_46 rfl (L_callVV rfl cv_To_advance (As := []) rfl (tk3 157 rfl rfl) rfl (Nat.le_of_ble_eq_true rfl) dWd_readTerms_47 ⟨(q4.2 c5).1, Tri.mono ((q4.2 c5).2) (fun r6 σ6 q6 => q6)⟩)⟩)))⟩)), fun c3 => L_aload_n dWd_readTerms_18 rfl (L_bipush dWd_readTerms_19 bp_59 in_59 (L_callVI rfl cv_To_isSign (As := [vI 59]) rfl (tk3 188 rfl rfl) rfl (Nat.le_of_ble_eq_true rfl) dWd_readTerms_21 ⟨((h.2 c1).2 c3).1, Tri.mono (((h.2 c1).2 c3).2) (fun r7 σ7 q7 => L_if_eq dWd_readTerms_24 (by decide) ⟨fun c8 => L_aload_n dWd_readTerms_33 rfl (L_ldcS (k := 4) (tx := "less") (by decide +kernel) dWd_readTerms_34 (L_callVI rfl cv_To_isWord (As := [vA (-10 - (4 : Int))]) rfl (tk3 190 rfl rfl) rfl (Nat.le_of_ble_eq_true rfl) dWd_readTerms_36 ⟨(q7.1 c8).1, Tri.mono ((q7.1 c8).2) (fun r9 σ9 q9 => L_istore dWd_readTerms_39 (by decide) (L_iload dWd_readTerms_41 rfl (L_if_eq dWd_readTerms_43 (by decide) ⟨fun c10 => (q9.1 c10), fun c10 => L_aload_n dWd_readTerms_46 rfl (L_callVV rfl cv_To_advance (As := []) rfl (tk3 157 rfl rfl) rfl (Nat.le_of_ble_eq_true rfl) dWd_readTerms_47 ⟨(q9.2 c10).1, Tri.mono ((q9.2 c10).2) (fun r11 σ11 q11 => q11)⟩)⟩)))⟩)), fun c8 => L_aload_n dWd_readTerms_27 rfl (L_callVV rfl cv_To_advance (As := []) rfl (tk3 157 rfl rfl) rfl (Nat.le_of_ble_eq_true rfl) dWd_readTerms_28 ⟨(q7.2 c8).1, Tri.mono ((q7.2 c8).2) (fun r12 σ12 q12 => L_iconst dWd_readTerms_31 in_1 (L_zreturn1 rfl dWd_readTerms_32 q12))⟩)⟩)⟩))⟩)⟩))
theorem s_Wd_readTerms_50 {d : Nat} {x0 x1 x2 x3 x4 x5 : Int} {σ : SG} {Q : Int → SG → Prop} (h : obok 10 x0 ∧ obok 8 x1 ∧ Tri d M_To_seesNumber [vA x1, vI 1, vI (w32 ((σ x0 1) - 1))] σ (fun r1 σ1 => (r1 ≠ 0 → obok 8 x1 ∧ obok 8 x1 ∧ Tri d M_To_advance [vA x1] σ1 (fun r3 σ3 => obok 8 x1 ∧ Tri d M_To_takeWord [vA x1, vA (-10 - (5 : Int))] σ3 (fun r4 σ4 => (r4 = 0 → Q 0 σ4) ∧ (r4 ≠ 0 → obok 10 x0 ∧ obok 8 x1 ∧ Tri d M_To_seesNumber [vA x1, vI 0, vI (w32 ((σ4 x0 2) - 1))] σ4 (fun r6 σ6 => (r6 ≠ 0 → obok 8 x1 ∧ (and32 (shr32 x3 (σ6 x1 1)) 1 = 0 → (x5 = 0 → obok 10 x0 ∧ Tri d M_Wd_setCell [vA x0, vI (w32 (x2.tdiv 5)), vI (x2.tmod 5), vI (σ6 x1 1), vI (σ1 x1 1)] σ6 (fun r10 σ10 => obok 8 x1 ∧ Tri d M_To_advance [vA x1] σ10 (fun r11 σ11 => L (d + 1) M_Wd_readTerms 5 [vA x0, vA x1, vI x2, vI (or32 x3 (shl32 1 (σ6 x1 1))), vI (w32 (x4 + 1)), vU, vU, vU] [] σ11 Q))) ∧ (x5 ≠ 0 → obok 10 x0 ∧ Tri d M_Wd_setCell [vA x0, vI (w32 (x2.tdiv 5)), vI (x2.tmod 5), vI (σ6 x1 1), vI (w32 (-(σ1 x1 1)))] σ6 (fun r12 σ12 => obok 8 x1 ∧ Tri d M_To_advance [vA x1] σ12 (fun r13 σ13 => L (d + 1) M_Wd_readTerms 5 [vA x0, vA x1, vI x2, vI (or32 x3 (shl32 1 (σ6 x1 1))), vI (w32 (x4 + 1)), vU, vU, vU] [] σ13 Q)))) ∧ (and32 (shr32 x3 (σ6 x1 1)) 1 ≠ 0 → obok 8 x1 ∧ Tri d M_To_blame [vA x1, vI 5] σ6 (fun r14 σ14 => (r14 = 0 ∨ r14 = 1) ∧ Q r14 σ14))) ∧ (r6 = 0 → Q 0 σ6)))))) ∧ (r1 = 0 → Q 0 σ1))) : L (d + 1) M_Wd_readTerms 50 [vA x0, vA x1, vI x2, vI x3, vI x4, vI x5, vU, vU] [] σ Q :=
  L_aload_n dWd_readTerms_50 rfl (L_iconst dWd_readTerms_51 in_1 (L_aload_n dWd_readTerms_52 rfl (L_getf fw_Wd_15 rfl dWd_readTerms_53 ⟨h.1, L_iconst dWd_readTerms_56 in_1 (L_isub dWd_readTerms_57 (L_callVI rfl cv_To_seesNumber (As := [vI 1, vI (w32 ((σ x0 1) - 1))]) rfl (tk3 149 rfl rfl) rfl (Nat.le_of_ble_eq_true rfl) dWd_readTerms_58 ⟨h.2.1, Tri.mono h.2.2 (fun r1 σ1 q1 => L_if_ne dWd_readTerms_61 (by decide) ⟨fun c2 => L_aload_n dWd_readTerms_66 rfl (L_getf fw_Wd_87 rfl dWd_readTerms_67 ⟨(q1.1 c2).1, L_istore dWd_readTerms_70 (by decide) (L_aload_n dWd_readTerms_72 rfl (L_callVV rfl cv_To_advance (As := []) rfl (tk3 157 rfl rfl) rfl (Nat.le_of_ble_eq_true rfl) dWd_readTerms_73 ⟨(q1.1 c2).2.1, Tri.mono ((q1.1 c2).2.2) (fun r3 σ3 q3 => L_aload_n dWd_readTerms_76 rfl (L_ldcS (k := 5) (tx := "of") (by decide +kernel) dWd_readTerms_77 (L_callVI rfl cv_To_takeWord (As := [vA (-10 - (5 : Int))]) rfl (tk3 89 rfl rfl) rfl (Nat.le_of_ble_eq_true rfl) dWd_readTerms_79 ⟨q3.1, Tri.mono q3.2 (fun r4 σ4 q4 => L_if_eq dWd_readTerms_82 (by decide) ⟨fun c5 => L_iconst dWd_readTerms_99 in_0 (L_zreturn0 rfl dWd_readTerms_100 (q4.1 c5)), fun c5 => L_aload_n dWd_readTerms_85 rfl (L_iconst dWd_readTerms_86 in_0 (L_aload_n dWd_readTerms_87 rfl (L_getf fw_Wd_19 rfl dWd_readTerms_88 ⟨(q4.2 c5).1, L_iconst dWd_readTerms_91 in_1 (L_isub dWd_readTerms_92 (L_callVI rfl cv_To_seesNumber (As := [vI 0, vI (w32 ((σ4 x0 2) - 1))]) rfl (tk3 149 rfl rfl) rfl (Nat.le_of_ble_eq_true rfl) dWd_readTerms_93 ⟨(q4.2 c5).2.1, Tri.mono ((q4.2 c5).2.2) (fun r6 σ6 q6 => L_if_ne dWd_readTerms_96 (by decide) ⟨fun c7 => L_aload_n dWd_readTerms_101 rfl (L_getf fw_Wd_87 rfl dWd_readTerms_102 ⟨(q6.1 c7).1, L_istore dWd_readTerms_105 (by decide) (L_iload_n dWd_readTerms_107 rfl (L_iload dWd_readTerms_108 rfl (L_ishr dWd_readTerms_110 (L_iconst dWd_readTerms_111 in_1 (L_iand dWd_readTerms_112 (L_if_eq dWd_readTerms_113 (by decide) ⟨fun c8 => L_iload_n dWd_readTerms_122 rfl (L_iconst dWd_readTerms_123 in_1 (L_iload dWd_readTerms_124 rfl (L_ishl dWd_readTerms_126 (L_ior dWd_readTerms_127 (L_istore_n dWd_readTerms_128 (by decide) (L_aload_n dWd_readTerms_129 rfl (L_iload_n dWd_readTerms_130 rfl (L_iconst dWd_readTerms_131 in_5 (L_idiv dWd_readTerms_132 ⟨by decide, L_iload_n dWd_readTerms_133 rfl (L_iconst dWd_readTerms_134 in_5 (L_irem dWd_readTerms_135 ⟨by decide, L_iload dWd_readTerms_136 rfl (L_iload dWd_readTerms_138 rfl (L_if_eq dWd_readTerms_140 (by decide) ⟨fun c9 => L_iload dWd_readTerms_149 rfl (L_callVV rfl cv_Wd_setCell (As := [vI (w32 (x2.tdiv 5)), vI (x2.tmod 5), vI (σ6 x1 1), vI (σ1 x1 1)]) rfl (tk3 192 rfl rfl) rfl (Nat.le_of_ble_eq_true rfl) dWd_readTerms_151 ⟨(((q6.1 c7).2.1 c8).1 c9).1, Tri.mono ((((q6.1 c7).2.1 c8).1 c9).2) (fun r10 σ10 q10 => L_aload_n dWd_readTerms_154 rfl (L_callVV rfl cv_To_advance (As := []) rfl (tk3 157 rfl rfl) rfl (Nat.le_of_ble_eq_true rfl) dWd_readTerms_155 ⟨q10.1, Tri.mono q10.2 (fun r11 σ11 q11 => L_iinc dWd_readTerms_158 rfl (by decide) (L_goto dWd_readTerms_161 (by decide) (L_weak [true, true, true, true, true, false, false, false] q11)))⟩))⟩), fun c9 => L_iload dWd_readTerms_143 rfl (L_ineg dWd_readTerms_145 (L_goto dWd_readTerms_146 (by decide) (L_callVV rfl cv_Wd_setCell (As := [vI (w32 (x2.tdiv 5)), vI (x2.tmod 5), vI (σ6 x1 1), vI (w32 (-(σ1 x1 1)))]) rfl (tk3 192 rfl rfl) rfl (Nat.le_of_ble_eq_true rfl) dWd_readTerms_151 ⟨(((q6.1 c7).2.1 c8).2 c9).1, Tri.mono ((((q6.1 c7).2.1 c8).2 c9).2) (fun r12 σ12 q12 => L_aload_n dWd_readTerms_154 rfl (L_callVV rfl cv_To_advance (As := []) rfl (tk3 157 rfl rfl) rfl (Nat.le_of_ble_eq_true rfl) dWd_readTerms_155 ⟨q12.1, Tri.mono q12.2 (fun r13 σ13 q13 => L_iinc dWd_readTerms_158 rfl (by decide) (L_goto dWd_readTerms_161 (by decide) (L_weak [true, true, true, true, true, false, false, false] q13)))⟩))⟩)))⟩))⟩))⟩))))))))), fun c8 => L_aload_n dWd_readTerms_116 rfl (L_iconst dWd_readTerms_117 in_5 (L_callVI rfl cv_To_blame (As := [vI 5]) rfl (tk3 156 rfl rfl) rfl (Nat.le_of_ble_eq_true rfl) dWd_readTerms_118 ⟨((q6.1 c7).2.2 c8).1, Tri.mono (((q6.1 c7).2.2 c8).2) (fun r14 σ14 q14 => L_zreturn rfl dWd_readTerms_121 q14)⟩))⟩))))))⟩), fun c7 => L_iconst dWd_readTerms_99 in_0 (L_zreturn0 rfl dWd_readTerms_100 (q6.2 c7))⟩)⟩))⟩)))⟩)⟩)))⟩))⟩), fun c2 => L_iconst dWd_readTerms_64 in_0 (L_zreturn0 rfl dWd_readTerms_65 (q1.2 c2))⟩)⟩))⟩)))
theorem dEc_begin_0 : decode prog_4_method_2_code 0 = .ok (.aload_n 0, 1) := by decide +kernel
theorem dEc_begin_1 : decode prog_4_method_2_code 1 = .ok (.iconst 2, 1) := by decide +kernel
theorem dEc_begin_2 : decode prog_4_method_2_code 2 = .ok (.iload_n 1, 1) := by decide +kernel
theorem dEc_begin_3 : decode prog_4_method_2_code 3 = .ok (.invokestatic 21, 3) := by decide +kernel
theorem dEc_begin_6 : decode prog_4_method_2_code 6 = .ok (.putfield 9, 3) := by decide +kernel
theorem dEc_begin_9 : decode prog_4_method_2_code 9 = .ok (.aload_n 0, 1) := by decide +kernel
theorem dEc_begin_10 : decode prog_4_method_2_code 10 = .ok (.iconst 0, 1) := by decide +kernel
theorem dEc_begin_11 : decode prog_4_method_2_code 11 = .ok (.iload_n 2, 1) := by decide +kernel
theorem dEc_begin_12 : decode prog_4_method_2_code 12 = .ok (.aload_n 0, 1) := by decide +kernel
theorem dEc_begin_13 : decode prog_4_method_2_code 13 = .ok (.getfield 24, 3) := by decide +kernel
theorem dEc_begin_16 : decode prog_4_method_2_code 16 = .ok (.invokestatic 15, 3) := by decide +kernel
theorem dEc_begin_19 : decode prog_4_method_2_code 19 = .ok (.invokestatic 21, 3) := by decide +kernel
theorem dEc_begin_22 : decode prog_4_method_2_code 22 = .ok (.putfield 34, 3) := by decide +kernel
theorem dEc_begin_25 : decode prog_4_method_2_code 25 = .ok (.aload_n 0, 1) := by decide +kernel
theorem dEc_begin_26 : decode prog_4_method_2_code 26 = .ok (.iconst 0, 1) := by decide +kernel
theorem dEc_begin_27 : decode prog_4_method_2_code 27 = .ok (.putfield 37, 3) := by decide +kernel
theorem dEc_begin_30 : decode prog_4_method_2_code 30 = .ok (.aload_n 0, 1) := by decide +kernel
theorem dEc_begin_31 : decode prog_4_method_2_code 31 = .ok (.iconst 0, 1) := by decide +kernel
theorem dEc_begin_32 : decode prog_4_method_2_code 32 = .ok (.putfield 40, 3) := by decide +kernel
theorem dEc_begin_35 : decode prog_4_method_2_code 35 = .ok (.return_, 1) := by decide +kernel
theorem t_Ec_begin {d : Nat} {x0 x1 x2 : Int} {σ : SG} {Q : Int → SG → Prop} (h : inI x1 → inI x2 → ((obok 2 x0 ∧ ∀ σ1, σ1 = up σ x0 3 (max 2 x1) → obok 2 x0 ∧ (obok 2 x0 ∧ ∀ σ2, σ2 = up σ1 x0 4 (max 0 (min x2 (σ1 x0 0))) → (obok 2 x0 ∧ ∀ σ3, σ3 = up σ2 x0 5 0 → (obok 2 x0 ∧ ∀ σ4, σ4 = up σ3 x0 6 0 → Q 0 σ4)))))) : Tri (d + 1) M_Ec_begin [vA x0, vI x1, vI x2] σ Q :=
  Tri_intro rfl (Nat.le_of_ble_eq_true rfl) (ls := [vA x0, vI x1, vI x2]) rfl (fun hok => L_aload_n dEc_begin_0 rfl (L_iconst dEc_begin_1 in_2 (L_iload_n dEc_begin_2 rfl (L_max (tk1 167 rfl rfl) (Nat.le_of_ble_eq_true rfl) dEc_begin_3 (L_putfN fp_Ec_9 rfl rfl (fun _ => ⟨rfl, rfl⟩) dEc_begin_6 ⟨(h (hok _ (List.mem_of_getElem? (i := 1) rfl)) (hok _ (List.mem_of_getElem? (i := 2) rfl))).1, fun σ1 e1 => L_aload_n dEc_begin_9 rfl (L_iconst dEc_begin_10 in_0 (L_iload_n dEc_begin_11 rfl (L_aload_n dEc_begin_12 rfl (L_getf fw_Ec_24 rfl dEc_begin_13 ⟨((h (hok _ (List.mem_of_getElem? (i := 1) rfl)) (hok _ (List.mem_of_getElem? (i := 2) rfl))).2 σ1 e1).1, L_min (tk1 164 rfl rfl) (Nat.le_of_ble_eq_true rfl) dEc_begin_16 (L_max (tk1 167 rfl rfl) (Nat.le_of_ble_eq_true rfl) dEc_begin_19 (L_putfN fp_Ec_34 rfl rfl (fun _ => ⟨rfl, rfl⟩) dEc_begin_22 ⟨((h (hok _ (List.mem_of_getElem? (i := 1) rfl)) (hok _ (List.mem_of_getElem? (i := 2) rfl))).2 σ1 e1).2.1, fun σ2 e2 => L_aload_n dEc_begin_25 rfl (L_iconst dEc_begin_26 in_0 (L_putfN fp_Ec_37 rfl rfl (fun _ => ⟨rfl, rfl⟩) dEc_begin_27 ⟨(((h (hok _ (List.mem_of_getElem? (i := 1) rfl)) (hok _ (List.mem_of_getElem? (i := 2) rfl))).2 σ1 e1).2.2 σ2 e2).1, fun σ3 e3 => L_aload_n dEc_begin_30 rfl (L_iconst dEc_begin_31 in_0 (L_putfN fp_Ec_40 rfl rfl (fun _ => ⟨rfl, rfl⟩) dEc_begin_32 ⟨((((h (hok _ (List.mem_of_getElem? (i := 1) rfl)) (hok _ (List.mem_of_getElem? (i := 2) rfl))).2 σ1 e1).2.2 σ2 e2).2 σ3 e3).1, fun σ4 e4 => L_return rfl dEc_begin_35 (((((h (hok _ (List.mem_of_getElem? (i := 1) rfl)) (hok _ (List.mem_of_getElem? (i := 2) rfl))).2 σ1 e1).2.2 σ2 e2).2 σ3 e3).2 σ4 e4)⟩))⟩))⟩))⟩))))⟩)))))
theorem dEc_beginWhole_0 : decode prog_4_method_3_code 0 = .ok (.aload_n 0, 1) := by decide +kernel
theorem dEc_beginWhole_1 : decode prog_4_method_3_code 1 = .ok (.iload_n 1, 1) := by decide +kernel
theorem dEc_beginWhole_2 : decode prog_4_method_3_code 2 = .ok (.iload_n 2, 1) := by decide +kernel
theorem dEc_beginWhole_3 : decode prog_4_method_3_code 3 = .ok (.iconst 5, 1) := by decide +kernel
theorem dEc_beginWhole_4 : decode prog_4_method_3_code 4 = .ok (.invokestatic 15, 3) := by decide +kernel
theorem dEc_beginWhole_7 : decode prog_4_method_3_code 7 = .ok (.invokevirtual 43, 3) := by decide +kernel
theorem dEc_beginWhole_10 : decode prog_4_method_3_code 10 = .ok (.iconst 0, 1) := by decide +kernel
theorem dEc_beginWhole_11 : decode prog_4_method_3_code 11 = .ok (.istore_n 3, 1) := by decide +kernel
theorem dEc_beginWhole_12 : decode prog_4_method_3_code 12 = .ok (.iload_n 3, 1) := by decide +kernel
theorem dEc_beginWhole_13 : decode prog_4_method_3_code 13 = .ok (.aload_n 0, 1) := by decide +kernel
theorem dEc_beginWhole_14 : decode prog_4_method_3_code 14 = .ok (.getfield 34, 3) := by decide +kernel
theorem dEc_beginWhole_17 : decode prog_4_method_3_code 17 = .ok (.if_icmp .ge 32, 3) := by decide +kernel
theorem dEc_beginWhole_20 : decode prog_4_method_3_code 20 = .ok (.getstatic 47, 3) := by decide +kernel
theorem dEc_beginWhole_23 : decode prog_4_method_3_code 23 = .ok (.iload_n 3, 1) := by decide +kernel
theorem dEc_beginWhole_24 : decode prog_4_method_3_code 24 = .ok (.iconst 5, 1) := by decide +kernel
theorem dEc_beginWhole_25 : decode prog_4_method_3_code 25 = .ok (.imul, 1) := by decide +kernel
theorem dEc_beginWhole_26 : decode prog_4_method_3_code 26 = .ok (.aload_n 0, 1) := by decide +kernel
theorem dEc_beginWhole_27 : decode prog_4_method_3_code 27 = .ok (.getfield 27, 3) := by decide +kernel
theorem dEc_beginWhole_30 : decode prog_4_method_3_code 30 = .ok (.iload_n 3, 1) := by decide +kernel
theorem dEc_beginWhole_31 : decode prog_4_method_3_code 31 = .ok (.aload_n 0, 1) := by decide +kernel
theorem dEc_beginWhole_32 : decode prog_4_method_3_code 32 = .ok (.getfield 24, 3) := by decide +kernel
theorem dEc_beginWhole_35 : decode prog_4_method_3_code 35 = .ok (.imul, 1) := by decide +kernel
theorem dEc_beginWhole_36 : decode prog_4_method_3_code 36 = .ok (.aload_n 0, 1) := by decide +kernel
theorem dEc_beginWhole_37 : decode prog_4_method_3_code 37 = .ok (.getfield 34, 3) := by decide +kernel
theorem dEc_beginWhole_40 : decode prog_4_method_3_code 40 = .ok (.invokestatic 50, 3) := by decide +kernel
theorem dEc_beginWhole_43 : decode prog_4_method_3_code 43 = .ok (.iinc 3 1, 3) := by decide +kernel
theorem dEc_beginWhole_46 : decode prog_4_method_3_code 46 = .ok (.goto (-34), 3) := by decide +kernel
theorem dEc_beginWhole_49 : decode prog_4_method_3_code 49 = .ok (.aload_n 0, 1) := by decide +kernel
theorem dEc_beginWhole_50 : decode prog_4_method_3_code 50 = .ok (.aload_n 0, 1) := by decide +kernel
theorem dEc_beginWhole_51 : decode prog_4_method_3_code 51 = .ok (.getfield 34, 3) := by decide +kernel
theorem dEc_beginWhole_54 : decode prog_4_method_3_code 54 = .ok (.putfield 37, 3) := by decide +kernel
theorem dEc_beginWhole_57 : decode prog_4_method_3_code 57 = .ok (.aload_n 0, 1) := by decide +kernel
theorem dEc_beginWhole_58 : decode prog_4_method_3_code 58 = .ok (.iconst 1, 1) := by decide +kernel
theorem dEc_beginWhole_59 : decode prog_4_method_3_code 59 = .ok (.aload_n 0, 1) := by decide +kernel
theorem dEc_beginWhole_60 : decode prog_4_method_3_code 60 = .ok (.getfield 34, 3) := by decide +kernel
theorem dEc_beginWhole_63 : decode prog_4_method_3_code 63 = .ok (.ishl, 1) := by decide +kernel
theorem dEc_beginWhole_64 : decode prog_4_method_3_code 64 = .ok (.iconst 1, 1) := by decide +kernel
theorem dEc_beginWhole_65 : decode prog_4_method_3_code 65 = .ok (.isub, 1) := by decide +kernel
theorem dEc_beginWhole_66 : decode prog_4_method_3_code 66 = .ok (.putfield 40, 3) := by decide +kernel
theorem dEc_beginWhole_69 : decode prog_4_method_3_code 69 = .ok (.return_, 1) := by decide +kernel
theorem t_Ec_beginWhole {d : Nat} {x0 x1 x2 : Int} {σ : SG} {Q : Int → SG → Prop} (h : inI x1 → inI x2 → (obok 2 x0 ∧ Tri d M_Ec_begin [vA x0, vI x1, vI (min x2 5)] σ (fun r1 σ1 => L (d + 1) M_Ec_beginWhole 12 [vA x0, vU, vU, vI 0] [] σ1 Q))) : Tri (d + 1) M_Ec_beginWhole [vA x0, vI x1, vI x2] σ Q :=
  Tri_intro rfl (Nat.le_of_ble_eq_true rfl) (ls := [vA x0, vI x1, vI x2, vU]) rfl (fun hok => L_aload_n dEc_beginWhole_0 rfl (L_iload_n dEc_beginWhole_1 rfl (L_iload_n dEc_beginWhole_2 rfl (L_iconst dEc_beginWhole_3 in_5 (L_min (tk1 164 rfl rfl) (Nat.le_of_ble_eq_true rfl) dEc_beginWhole_4 (L_callVV rfl cv_Ec_begin (As := [vI x1, vI (min x2 5)]) rfl (tk4 200 rfl rfl) rfl (Nat.le_of_ble_eq_true rfl) dEc_beginWhole_7 ⟨(h (hok _ (List.mem_of_getElem? (i := 1) rfl)) (hok _ (List.mem_of_getElem? (i := 2) rfl))).1, Tri.mono ((h (hok _ (List.mem_of_getElem? (i := 1) rfl)) (hok _ (List.mem_of_getElem? (i := 2) rfl))).2) (fun r1 σ1 q1 => L_iconst dEc_beginWhole_10 in_0 (L_istore_n dEc_beginWhole_11 (by decide) (L_weak [true, false, false, true] q1)))⟩))))))
theorem s_Ec_beginWhole_12 {d : Nat} {x0 x3 : Int} {σ : SG} {Q : Int → SG → Prop} (h : obok 2 x0 ∧ (σ x0 4 ≤ x3 → obok 2 x0 ∧ (obok 2 x0 ∧ ∀ σ2, σ2 = up σ x0 5 (σ x0 4) → obok 2 x0 ∧ (obok 2 x0 ∧ ∀ σ3, σ3 = up σ2 x0 6 (w32 ((shl32 1 (σ2 x0 4)) - 1)) → Q 0 σ3))) ∧ (x3 < σ x0 4 → obok 2 x0 ∧ obok 2 x0 ∧ obok 2 x0 ∧ ((0 : Int) ≤ x0 + 1 ∧ (kd (x0 + 1)).1 = 100 ∧ (kd (-2)).1 = 100 ∧ (0 : Int) ≤ w32 (x3 * 5) ∧ (0 : Int) ≤ w32 (x3 * (σ x0 0)) ∧ (0 : Int) ≤ σ x0 4 ∧ (w32 (x3 * 5)) + (σ x0 4) ≤ ((kd (-2)).2 : Int) ∧ (w32 (x3 * (σ x0 0))) + (σ x0 4) ≤ ((kd (x0 + 1)).2 : Int)) ∧ (∀ σ4, σ4 = cpy σ (-2) (w32 (x3 * 5)) (x0 + 1) (w32 (x3 * (σ x0 0))) (σ x0 4) → L (d + 1) M_Ec_beginWhole 12 [vA x0, vU, vU, vI (w32 (x3 + 1))] [] σ4 Q))) : L (d + 1) M_Ec_beginWhole 12 [vA x0, vU, vU, vI x3] [] σ Q :=
  L_iload_n dEc_beginWhole_12 rfl (L_aload_n dEc_beginWhole_13 rfl (L_getf fw_Ec_34 rfl dEc_beginWhole_14 ⟨h.1, L_icmp_ge dEc_beginWhole_17 (by decide) ⟨fun c1 => L_aload_n dEc_beginWhole_49 rfl (L_aload_n dEc_beginWhole_50 rfl (L_getf fw_Ec_34 rfl dEc_beginWhole_51 ⟨(h.2.1 c1).1, L_putfN fp_Ec_37 rfl rfl (fun _ => ⟨rfl, rfl⟩) dEc_beginWhole_54 ⟨(h.2.1 c1).2.1, fun σ2 e2 => L_aload_n dEc_beginWhole_57 rfl (L_iconst dEc_beginWhole_58 in_1 (L_aload_n dEc_beginWhole_59 rfl (L_getf fw_Ec_34 rfl dEc_beginWhole_60 ⟨((h.2.1 c1).2.2 σ2 e2).1, L_ishl dEc_beginWhole_63 (L_iconst dEc_beginWhole_64 in_1 (L_isub dEc_beginWhole_65 (L_putfN fp_Ec_40 rfl rfl (fun _ => ⟨rfl, rfl⟩) dEc_beginWhole_66 ⟨((h.2.1 c1).2.2 σ2 e2).2.1, fun σ3 e3 => L_return rfl dEc_beginWhole_69 (((h.2.1 c1).2.2 σ2 e2).2.2 σ3 e3)⟩)))⟩)))⟩⟩)), fun c1 => L_units (by decide +kernel) dEc_beginWhole_20 (L_iload_n dEc_beginWhole_23 rfl (L_iconst dEc_beginWhole_24 in_5 (L_imul dEc_beginWhole_25 (L_aload_n dEc_beginWhole_26 rfl (L_getF (b := x0 + 1) fw_Ec_27 rfl rfl (by omega) dEc_beginWhole_27 ⟨(h.2.2 c1).1, L_iload_n dEc_beginWhole_30 rfl (L_aload_n dEc_beginWhole_31 rfl (L_getf fw_Ec_24 rfl dEc_beginWhole_32 ⟨(h.2.2 c1).2.1, L_imul dEc_beginWhole_35 (L_aload_n dEc_beginWhole_36 rfl (L_getf fw_Ec_34 rfl dEc_beginWhole_37 ⟨(h.2.2 c1).2.2.1, L_copyIN (tk4 150 rfl rfl) (Nat.le_of_ble_eq_true rfl) dEc_beginWhole_40 ⟨(h.2.2 c1).2.2.2.1, fun σ4 e4 => L_iinc dEc_beginWhole_43 rfl (by decide) (L_goto dEc_beginWhole_46 (by decide) ((h.2.2 c1).2.2.2.2 σ4 e4))⟩⟩))⟩))⟩)))))⟩⟩))
theorem dEc_copyFrom_0 : decode prog_4_method_4_code 0 = .ok (.aload_n 0, 1) := by decide +kernel
theorem dEc_copyFrom_1 : decode prog_4_method_4_code 1 = .ok (.aload_n 1, 1) := by decide +kernel
theorem dEc_copyFrom_2 : decode prog_4_method_4_code 2 = .ok (.getfield 9, 3) := by decide +kernel
theorem dEc_copyFrom_5 : decode prog_4_method_4_code 5 = .ok (.aload_n 1, 1) := by decide +kernel
theorem dEc_copyFrom_6 : decode prog_4_method_4_code 6 = .ok (.getfield 34, 3) := by decide +kernel
theorem dEc_copyFrom_9 : decode prog_4_method_4_code 9 = .ok (.invokevirtual 43, 3) := by decide +kernel
theorem dEc_copyFrom_12 : decode prog_4_method_4_code 12 = .ok (.iconst 0, 1) := by decide +kernel
theorem dEc_copyFrom_13 : decode prog_4_method_4_code 13 = .ok (.istore_n 2, 1) := by decide +kernel
theorem dEc_copyFrom_14 : decode prog_4_method_4_code 14 = .ok (.iload_n 2, 1) := by decide +kernel
theorem dEc_copyFrom_15 : decode prog_4_method_4_code 15 = .ok (.aload_n 0, 1) := by decide +kernel
theorem dEc_copyFrom_16 : decode prog_4_method_4_code 16 = .ok (.getfield 34, 3) := by decide +kernel
theorem dEc_copyFrom_19 : decode prog_4_method_4_code 19 = .ok (.if_icmp .ge 44, 3) := by decide +kernel
theorem dEc_copyFrom_22 : decode prog_4_method_4_code 22 = .ok (.aload_n 1, 1) := by decide +kernel
theorem dEc_copyFrom_23 : decode prog_4_method_4_code 23 = .ok (.iload_n 2, 1) := by decide +kernel
theorem dEc_copyFrom_24 : decode prog_4_method_4_code 24 = .ok (.invokevirtual 56, 3) := by decide +kernel
theorem dEc_copyFrom_27 : decode prog_4_method_4_code 27 = .ok (.ifCond .eq 30, 3) := by decide +kernel
theorem dEc_copyFrom_30 : decode prog_4_method_4_code 30 = .ok (.aload_n 1, 1) := by decide +kernel
theorem dEc_copyFrom_31 : decode prog_4_method_4_code 31 = .ok (.getfield 27, 3) := by decide +kernel
theorem dEc_copyFrom_34 : decode prog_4_method_4_code 34 = .ok (.iload_n 2, 1) := by decide +kernel
theorem dEc_copyFrom_35 : decode prog_4_method_4_code 35 = .ok (.aload_n 1, 1) := by decide +kernel
theorem dEc_copyFrom_36 : decode prog_4_method_4_code 36 = .ok (.getfield 24, 3) := by decide +kernel
theorem dEc_copyFrom_39 : decode prog_4_method_4_code 39 = .ok (.imul, 1) := by decide +kernel
theorem dEc_copyFrom_40 : decode prog_4_method_4_code 40 = .ok (.aload_n 0, 1) := by decide +kernel
theorem dEc_copyFrom_41 : decode prog_4_method_4_code 41 = .ok (.getfield 27, 3) := by decide +kernel
theorem dEc_copyFrom_44 : decode prog_4_method_4_code 44 = .ok (.iload_n 2, 1) := by decide +kernel
theorem dEc_copyFrom_45 : decode prog_4_method_4_code 45 = .ok (.aload_n 0, 1) := by decide +kernel
theorem dEc_copyFrom_46 : decode prog_4_method_4_code 46 = .ok (.getfield 24, 3) := by decide +kernel
theorem dEc_copyFrom_49 : decode prog_4_method_4_code 49 = .ok (.imul, 1) := by decide +kernel
theorem dEc_copyFrom_50 : decode prog_4_method_4_code 50 = .ok (.aload_n 0, 1) := by decide +kernel
theorem dEc_copyFrom_51 : decode prog_4_method_4_code 51 = .ok (.getfield 34, 3) := by decide +kernel
theorem dEc_copyFrom_54 : decode prog_4_method_4_code 54 = .ok (.invokestatic 50, 3) := by decide +kernel
theorem dEc_copyFrom_57 : decode prog_4_method_4_code 57 = .ok (.iinc 2 1, 3) := by decide +kernel
theorem dEc_copyFrom_60 : decode prog_4_method_4_code 60 = .ok (.goto (-46), 3) := by decide +kernel
theorem dEc_copyFrom_63 : decode prog_4_method_4_code 63 = .ok (.aload_n 0, 1) := by decide +kernel
theorem dEc_copyFrom_64 : decode prog_4_method_4_code 64 = .ok (.aload_n 1, 1) := by decide +kernel
theorem dEc_copyFrom_65 : decode prog_4_method_4_code 65 = .ok (.getfield 37, 3) := by decide +kernel
theorem dEc_copyFrom_68 : decode prog_4_method_4_code 68 = .ok (.putfield 37, 3) := by decide +kernel
theorem dEc_copyFrom_71 : decode prog_4_method_4_code 71 = .ok (.aload_n 0, 1) := by decide +kernel
theorem dEc_copyFrom_72 : decode prog_4_method_4_code 72 = .ok (.aload_n 1, 1) := by decide +kernel
theorem dEc_copyFrom_73 : decode prog_4_method_4_code 73 = .ok (.getfield 40, 3) := by decide +kernel
theorem dEc_copyFrom_76 : decode prog_4_method_4_code 76 = .ok (.putfield 40, 3) := by decide +kernel
theorem dEc_copyFrom_79 : decode prog_4_method_4_code 79 = .ok (.return_, 1) := by decide +kernel
theorem t_Ec_copyFrom {d : Nat} {x0 x1 : Int} {σ : SG} {Q : Int → SG → Prop} (h : obok 2 x1 ∧ obok 2 x1 ∧ obok 2 x0 ∧ Tri d M_Ec_begin [vA x0, vI (σ x1 3), vI (σ x1 4)] σ (fun r1 σ1 => L (d + 1) M_Ec_copyFrom 14 [vA x0, vA x1, vI 0] [] σ1 Q)) : Tri (d + 1) M_Ec_copyFrom [vA x0, vA x1] σ Q :=
  Tri_intro rfl (Nat.le_of_ble_eq_true rfl) (ls := [vA x0, vA x1, vU]) rfl (fun hok => L_aload_n dEc_copyFrom_0 rfl (L_aload_n dEc_copyFrom_1 rfl (L_getf fw_Ec_9 rfl dEc_copyFrom_2 ⟨h.1, L_aload_n dEc_copyFrom_5 rfl (L_getf fw_Ec_34 rfl dEc_copyFrom_6 ⟨h.2.1, L_callVV rfl cv_Ec_begin (As := [vI (σ x1 3), vI (σ x1 4)]) rfl (tk4 200 rfl rfl) rfl (Nat.le_of_ble_eq_true rfl) dEc_copyFrom_9 ⟨h.2.2.1, Tri.mono (h.2.2.2) (fun r1 σ1 q1 => L_iconst dEc_copyFrom_12 in_0 (L_istore_n dEc_copyFrom_13 (by decide) q1))⟩⟩)⟩)))
theorem s_Ec_copyFrom_14 {d : Nat} {x0 x1 x2 : Int} {σ : SG} {Q : Int → SG → Prop} (h : obok 2 x0 ∧ (σ x0 4 ≤ x2 → obok 2 x1 ∧ (obok 2 x0 ∧ ∀ σ2, σ2 = up σ x0 5 (σ x1 5) → obok 2 x1 ∧ (obok 2 x0 ∧ ∀ σ3, σ3 = up σ2 x0 6 (σ2 x1 6) → Q 0 σ3))) ∧ (x2 < σ x0 4 → obok 2 x1 ∧ Tri d M_Ec_leadsAt [vA x1, vI x2] σ (fun r4 σ4 => (r4 = 0 → L (d + 1) M_Ec_copyFrom 14 [vA x0, vA x1, vI (w32 (x2 + 1))] [] σ4 Q) ∧ (r4 ≠ 0 → obok 2 x1 ∧ obok 2 x1 ∧ obok 2 x0 ∧ obok 2 x0 ∧ obok 2 x0 ∧ ((0 : Int) ≤ x0 + 1 ∧ (kd (x0 + 1)).1 = 100 ∧ (kd (x1 + 1)).1 = 100 ∧ (0 : Int) ≤ w32 (x2 * (σ4 x1 0)) ∧ (0 : Int) ≤ w32 (x2 * (σ4 x0 0)) ∧ (0 : Int) ≤ σ4 x0 4 ∧ (w32 (x2 * (σ4 x1 0))) + (σ4 x0 4) ≤ ((kd (x1 + 1)).2 : Int) ∧ (w32 (x2 * (σ4 x0 0))) + (σ4 x0 4) ≤ ((kd (x0 + 1)).2 : Int)) ∧ (∀ σ6, σ6 = cpy σ4 (x1 + 1) (w32 (x2 * (σ4 x1 0))) (x0 + 1) (w32 (x2 * (σ4 x0 0))) (σ4 x0 4) → L (d + 1) M_Ec_copyFrom 14 [vA x0, vA x1, vI (w32 (x2 + 1))] [] σ6 Q))))) : L (d + 1) M_Ec_copyFrom 14 [vA x0, vA x1, vI x2] [] σ Q :=
  L_iload_n dEc_copyFrom_14 rfl (L_aload_n dEc_copyFrom_15 rfl (L_getf fw_Ec_34 rfl dEc_copyFrom_16 ⟨h.1, L_icmp_ge dEc_copyFrom_19 (by decide) ⟨fun c1 => L_aload_n dEc_copyFrom_63 rfl (L_aload_n dEc_copyFrom_64 rfl (L_getf fw_Ec_37 rfl dEc_copyFrom_65 ⟨(h.2.1 c1).1, L_putfN fp_Ec_37 rfl rfl (fun _ => ⟨rfl, rfl⟩) dEc_copyFrom_68 ⟨(h.2.1 c1).2.1, fun σ2 e2 => L_aload_n dEc_copyFrom_71 rfl (L_aload_n dEc_copyFrom_72 rfl (L_getf fw_Ec_40 rfl dEc_copyFrom_73 ⟨((h.2.1 c1).2.2 σ2 e2).1, L_putfN fp_Ec_40 rfl rfl (fun _ => ⟨rfl, rfl⟩) dEc_copyFrom_76 ⟨((h.2.1 c1).2.2 σ2 e2).2.1, fun σ3 e3 => L_return rfl dEc_copyFrom_79 (((h.2.1 c1).2.2 σ2 e2).2.2 σ3 e3)⟩⟩))⟩⟩)), fun c1 => L_aload_n dEc_copyFrom_22 rfl (L_iload_n dEc_copyFrom_23 rfl (L_callVI rfl cv_Ec_leadsAt (As := [vI x2]) rfl (tk4 163 rfl rfl) rfl (Nat.le_of_ble_eq_true rfl) dEc_copyFrom_24 ⟨(h.2.2 c1).1, Tri.mono ((h.2.2 c1).2) (fun r4 σ4 q4 => L_if_eq dEc_copyFrom_27 (by decide) ⟨fun c5 => L_iinc dEc_copyFrom_57 rfl (by decide) (L_goto dEc_copyFrom_60 (by decide) (q4.1 c5)), fun c5 => L_aload_n dEc_copyFrom_30 rfl (L_getF (b := x1 + 1) fw_Ec_27 rfl rfl (by omega) dEc_copyFrom_31 ⟨(q4.2 c5).1, L_iload_n dEc_copyFrom_34 rfl (L_aload_n dEc_copyFrom_35 rfl (L_getf fw_Ec_24 rfl dEc_copyFrom_36 ⟨(q4.2 c5).2.1, L_imul dEc_copyFrom_39 (L_aload_n dEc_copyFrom_40 rfl (L_getF (b := x0 + 1) fw_Ec_27 rfl rfl (by omega) dEc_copyFrom_41 ⟨(q4.2 c5).2.2.1, L_iload_n dEc_copyFrom_44 rfl (L_aload_n dEc_copyFrom_45 rfl (L_getf fw_Ec_24 rfl dEc_copyFrom_46 ⟨(q4.2 c5).2.2.2.1, L_imul dEc_copyFrom_49 (L_aload_n dEc_copyFrom_50 rfl (L_getf fw_Ec_34 rfl dEc_copyFrom_51 ⟨(q4.2 c5).2.2.2.2.1, L_copyIN (tk4 150 rfl rfl) (Nat.le_of_ble_eq_true rfl) dEc_copyFrom_54 ⟨(q4.2 c5).2.2.2.2.2.1, fun σ6 e6 => L_iinc dEc_copyFrom_57 rfl (by decide) (L_goto dEc_copyFrom_60 (by decide) ((q4.2 c5).2.2.2.2.2.2 σ6 e6))⟩⟩))⟩))⟩))⟩))⟩)⟩)⟩))⟩⟩))
theorem dEc_leadsAt_0 : decode prog_4_method_5_code 0 = .ok (.aload_n 0, 1) := by decide +kernel
theorem dEc_leadsAt_1 : decode prog_4_method_5_code 1 = .ok (.getfield 40, 3) := by decide +kernel
theorem dEc_leadsAt_4 : decode prog_4_method_5_code 4 = .ok (.iload_n 1, 1) := by decide +kernel
theorem dEc_leadsAt_5 : decode prog_4_method_5_code 5 = .ok (.ishr, 1) := by decide +kernel
theorem dEc_leadsAt_6 : decode prog_4_method_5_code 6 = .ok (.iconst 1, 1) := by decide +kernel
theorem dEc_leadsAt_7 : decode prog_4_method_5_code 7 = .ok (.iand, 1) := by decide +kernel
theorem dEc_leadsAt_8 : decode prog_4_method_5_code 8 = .ok (.ifCond .eq 7, 3) := by decide +kernel
theorem dEc_leadsAt_11 : decode prog_4_method_5_code 11 = .ok (.iconst 1, 1) := by decide +kernel
theorem dEc_leadsAt_12 : decode prog_4_method_5_code 12 = .ok (.goto 4, 3) := by decide +kernel
theorem dEc_leadsAt_15 : decode prog_4_method_5_code 15 = .ok (.iconst 0, 1) := by decide +kernel
theorem dEc_leadsAt_16 : decode prog_4_method_5_code 16 = .ok (.ireturn, 1) := by decide +kernel
theorem t_Ec_leadsAt {d : Nat} {x0 x1 : Int} {σ : SG} {Q : Int → SG → Prop} (h : inI x1 → (obok 2 x0 ∧ (and32 (shr32 (σ x0 6) x1) 1 = 0 → Q 0 σ) ∧ (and32 (shr32 (σ x0 6) x1) 1 ≠ 0 → Q 1 σ))) : Tri (d + 1) M_Ec_leadsAt [vA x0, vI x1] σ Q :=
  Tri_intro rfl (Nat.le_of_ble_eq_true rfl) (ls := [vA x0, vI x1]) rfl (fun hok => L_aload_n dEc_leadsAt_0 rfl (L_getf fw_Ec_40 rfl dEc_leadsAt_1 ⟨(h (hok _ (List.mem_of_getElem? (i := 1) rfl))).1, L_iload_n dEc_leadsAt_4 rfl (L_ishr dEc_leadsAt_5 (L_iconst dEc_leadsAt_6 in_1 (L_iand dEc_leadsAt_7 (L_if_eq dEc_leadsAt_8 (by decide) ⟨fun c1 => L_iconst dEc_leadsAt_15 in_0 (L_zreturn0 rfl dEc_leadsAt_16 ((h (hok _ (List.mem_of_getElem? (i := 1) rfl))).2.1 c1)), fun c1 => L_iconst dEc_leadsAt_11 in_1 (L_goto dEc_leadsAt_12 (by decide) (L_zreturn1 rfl dEc_leadsAt_16 ((h (hok _ (List.mem_of_getElem? (i := 1) rfl))).2.2 c1)))⟩))))⟩))
theorem dEc_add_0 : decode prog_4_method_6_code 0 = .ok (.iload_n 2, 1) := by decide +kernel
theorem dEc_add_1 : decode prog_4_method_6_code 1 = .ok (.ifCond .lt 14, 3) := by decide +kernel
theorem dEc_add_4 : decode prog_4_method_6_code 4 = .ok (.iload_n 2, 1) := by decide +kernel
theorem dEc_add_5 : decode prog_4_method_6_code 5 = .ok (.aload_n 0, 1) := by decide +kernel
theorem dEc_add_6 : decode prog_4_method_6_code 6 = .ok (.getfield 34, 3) := by decide +kernel
theorem dEc_add_9 : decode prog_4_method_6_code 9 = .ok (.iadd, 1) := by decide +kernel
theorem dEc_add_10 : decode prog_4_method_6_code 10 = .ok (.aload_n 1, 1) := by decide +kernel
theorem dEc_add_11 : decode prog_4_method_6_code 11 = .ok (.arraylength, 1) := by decide +kernel
theorem dEc_add_12 : decode prog_4_method_6_code 12 = .ok (.if_icmp .le 5, 3) := by decide +kernel
theorem dEc_add_15 : decode prog_4_method_6_code 15 = .ok (.iconst 0, 1) := by decide +kernel
theorem dEc_add_16 : decode prog_4_method_6_code 16 = .ok (.ireturn, 1) := by decide +kernel
theorem dEc_add_17 : decode prog_4_method_6_code 17 = .ok (.aload_n 1, 1) := by decide +kernel
theorem dEc_add_18 : decode prog_4_method_6_code 18 = .ok (.iload_n 2, 1) := by decide +kernel
theorem dEc_add_19 : decode prog_4_method_6_code 19 = .ok (.aload_n 0, 1) := by decide +kernel
theorem dEc_add_20 : decode prog_4_method_6_code 20 = .ok (.getfield 31, 3) := by decide +kernel
theorem dEc_add_23 : decode prog_4_method_6_code 23 = .ok (.iconst 0, 1) := by decide +kernel
theorem dEc_add_24 : decode prog_4_method_6_code 24 = .ok (.aload_n 0, 1) := by decide +kernel
theorem dEc_add_25 : decode prog_4_method_6_code 25 = .ok (.getfield 34, 3) := by decide +kernel
theorem dEc_add_28 : decode prog_4_method_6_code 28 = .ok (.invokestatic 50, 3) := by decide +kernel
theorem dEc_add_31 : decode prog_4_method_6_code 31 = .ok (.aload_n 0, 1) := by decide +kernel
theorem dEc_add_32 : decode prog_4_method_6_code 32 = .ok (.aload_n 0, 1) := by decide +kernel
theorem dEc_add_33 : decode prog_4_method_6_code 33 = .ok (.getfield 31, 3) := by decide +kernel
theorem dEc_add_36 : decode prog_4_method_6_code 36 = .ok (.invokevirtual 60, 3) := by decide +kernel
theorem dEc_add_39 : decode prog_4_method_6_code 39 = .ok (.aload_n 0, 1) := by decide +kernel
theorem dEc_add_40 : decode prog_4_method_6_code 40 = .ok (.aload_n 0, 1) := by decide +kernel
theorem dEc_add_41 : decode prog_4_method_6_code 41 = .ok (.getfield 31, 3) := by decide +kernel
theorem dEc_add_44 : decode prog_4_method_6_code 44 = .ok (.invokevirtual 64, 3) := by decide +kernel
theorem dEc_add_47 : decode prog_4_method_6_code 47 = .ok (.istore_n 3, 1) := by decide +kernel
theorem dEc_add_48 : decode prog_4_method_6_code 48 = .ok (.iload_n 3, 1) := by decide +kernel
theorem dEc_add_49 : decode prog_4_method_6_code 49 = .ok (.aload_n 0, 1) := by decide +kernel
theorem dEc_add_50 : decode prog_4_method_6_code 50 = .ok (.getfield 34, 3) := by decide +kernel
theorem dEc_add_53 : decode prog_4_method_6_code 53 = .ok (.if_icmp .lt 5, 3) := by decide +kernel
theorem dEc_add_56 : decode prog_4_method_6_code 56 = .ok (.iconst 0, 1) := by decide +kernel
theorem dEc_add_57 : decode prog_4_method_6_code 57 = .ok (.ireturn, 1) := by decide +kernel
theorem dEc_add_58 : decode prog_4_method_6_code 58 = .ok (.aload_n 0, 1) := by decide +kernel
theorem dEc_add_59 : decode prog_4_method_6_code 59 = .ok (.getfield 31, 3) := by decide +kernel
theorem dEc_add_62 : decode prog_4_method_6_code 62 = .ok (.iload_n 3, 1) := by decide +kernel
theorem dEc_add_63 : decode prog_4_method_6_code 63 = .ok (.iaload, 1) := by decide +kernel
theorem dEc_add_64 : decode prog_4_method_6_code 64 = .ok (.aload_n 0, 1) := by decide +kernel
theorem dEc_add_65 : decode prog_4_method_6_code 65 = .ok (.getfield 9, 3) := by decide +kernel
theorem dEc_add_68 : decode prog_4_method_6_code 68 = .ok (.invokestatic 68, 3) := by decide +kernel
theorem dEc_add_71 : decode prog_4_method_6_code 71 = .ok (.istore 4, 2) := by decide +kernel
theorem dEc_add_73 : decode prog_4_method_6_code 73 = .ok (.iload_n 3, 1) := by decide +kernel
theorem dEc_add_74 : decode prog_4_method_6_code 74 = .ok (.istore 5, 2) := by decide +kernel
theorem dEc_add_76 : decode prog_4_method_6_code 76 = .ok (.iload 5, 2) := by decide +kernel
theorem dEc_add_78 : decode prog_4_method_6_code 78 = .ok (.aload_n 0, 1) := by decide +kernel
theorem dEc_add_79 : decode prog_4_method_6_code 79 = .ok (.getfield 34, 3) := by decide +kernel
theorem dEc_add_82 : decode prog_4_method_6_code 82 = .ok (.if_icmp .ge 33, 3) := by decide +kernel
theorem dEc_add_85 : decode prog_4_method_6_code 85 = .ok (.aload_n 0, 1) := by decide +kernel
theorem dEc_add_86 : decode prog_4_method_6_code 86 = .ok (.getfield 31, 3) := by decide +kernel
theorem dEc_add_89 : decode prog_4_method_6_code 89 = .ok (.iload 5, 2) := by decide +kernel
theorem dEc_add_91 : decode prog_4_method_6_code 91 = .ok (.aload_n 0, 1) := by decide +kernel
theorem dEc_add_92 : decode prog_4_method_6_code 92 = .ok (.getfield 31, 3) := by decide +kernel
theorem dEc_add_95 : decode prog_4_method_6_code 95 = .ok (.iload 5, 2) := by decide +kernel
theorem dEc_add_97 : decode prog_4_method_6_code 97 = .ok (.iaload, 1) := by decide +kernel
theorem dEc_add_98 : decode prog_4_method_6_code 98 = .ok (.iload 4, 2) := by decide +kernel
theorem dEc_add_100 : decode prog_4_method_6_code 100 = .ok (.imul, 1) := by decide +kernel
theorem dEc_add_101 : decode prog_4_method_6_code 101 = .ok (.aload_n 0, 1) := by decide +kernel
theorem dEc_add_102 : decode prog_4_method_6_code 102 = .ok (.getfield 9, 3) := by decide +kernel
theorem dEc_add_105 : decode prog_4_method_6_code 105 = .ok (.invokestatic 71, 3) := by decide +kernel
theorem dEc_add_108 : decode prog_4_method_6_code 108 = .ok (.iastore, 1) := by decide +kernel
theorem dEc_add_109 : decode prog_4_method_6_code 109 = .ok (.iinc 5 1, 3) := by decide +kernel
theorem dEc_add_112 : decode prog_4_method_6_code 112 = .ok (.goto (-36), 3) := by decide +kernel
theorem dEc_add_115 : decode prog_4_method_6_code 115 = .ok (.iconst 0, 1) := by decide +kernel
theorem dEc_add_116 : decode prog_4_method_6_code 116 = .ok (.istore 5, 2) := by decide +kernel
theorem dEc_add_118 : decode prog_4_method_6_code 118 = .ok (.iload 5, 2) := by decide +kernel
theorem dEc_add_120 : decode prog_4_method_6_code 120 = .ok (.iload_n 3, 1) := by decide +kernel
theorem dEc_add_121 : decode prog_4_method_6_code 121 = .ok (.if_icmp .ge 105, 3) := by decide +kernel
theorem dEc_add_124 : decode prog_4_method_6_code 124 = .ok (.aload_n 0, 1) := by decide +kernel
theorem dEc_add_125 : decode prog_4_method_6_code 125 = .ok (.getfield 27, 3) := by decide +kernel
theorem dEc_add_128 : decode prog_4_method_6_code 128 = .ok (.iload 5, 2) := by decide +kernel
theorem dEc_add_130 : decode prog_4_method_6_code 130 = .ok (.aload_n 0, 1) := by decide +kernel
theorem dEc_add_131 : decode prog_4_method_6_code 131 = .ok (.getfield 24, 3) := by decide +kernel
theorem dEc_add_134 : decode prog_4_method_6_code 134 = .ok (.imul, 1) := by decide +kernel
theorem dEc_add_135 : decode prog_4_method_6_code 135 = .ok (.iload_n 3, 1) := by decide +kernel
theorem dEc_add_136 : decode prog_4_method_6_code 136 = .ok (.iadd, 1) := by decide +kernel
theorem dEc_add_137 : decode prog_4_method_6_code 137 = .ok (.iaload, 1) := by decide +kernel
theorem dEc_add_138 : decode prog_4_method_6_code 138 = .ok (.istore 6, 2) := by decide +kernel
theorem dEc_add_140 : decode prog_4_method_6_code 140 = .ok (.aload_n 0, 1) := by decide +kernel
theorem dEc_add_141 : decode prog_4_method_6_code 141 = .ok (.iload 5, 2) := by decide +kernel
theorem dEc_add_143 : decode prog_4_method_6_code 143 = .ok (.invokevirtual 56, 3) := by decide +kernel
theorem dEc_add_146 : decode prog_4_method_6_code 146 = .ok (.ifCond .eq 74, 3) := by decide +kernel
theorem dEc_add_149 : decode prog_4_method_6_code 149 = .ok (.iload 6, 2) := by decide +kernel
theorem dEc_add_151 : decode prog_4_method_6_code 151 = .ok (.ifCond .eq 69, 3) := by decide +kernel
theorem dEc_add_154 : decode prog_4_method_6_code 154 = .ok (.iload_n 3, 1) := by decide +kernel
theorem dEc_add_155 : decode prog_4_method_6_code 155 = .ok (.istore 7, 2) := by decide +kernel
theorem dEc_add_157 : decode prog_4_method_6_code 157 = .ok (.iload 7, 2) := by decide +kernel
theorem dEc_add_159 : decode prog_4_method_6_code 159 = .ok (.aload_n 0, 1) := by decide +kernel
theorem dEc_add_160 : decode prog_4_method_6_code 160 = .ok (.getfield 34, 3) := by decide +kernel
theorem dEc_add_163 : decode prog_4_method_6_code 163 = .ok (.if_icmp .ge 57, 3) := by decide +kernel
theorem dEc_add_166 : decode prog_4_method_6_code 166 = .ok (.aload_n 0, 1) := by decide +kernel
theorem dEc_add_167 : decode prog_4_method_6_code 167 = .ok (.getfield 27, 3) := by decide +kernel
theorem dEc_add_170 : decode prog_4_method_6_code 170 = .ok (.iload 5, 2) := by decide +kernel
theorem dEc_add_172 : decode prog_4_method_6_code 172 = .ok (.aload_n 0, 1) := by decide +kernel
theorem dEc_add_173 : decode prog_4_method_6_code 173 = .ok (.getfield 24, 3) := by decide +kernel
theorem dEc_add_176 : decode prog_4_method_6_code 176 = .ok (.imul, 1) := by decide +kernel
theorem dEc_add_177 : decode prog_4_method_6_code 177 = .ok (.iload 7, 2) := by decide +kernel
theorem dEc_add_179 : decode prog_4_method_6_code 179 = .ok (.iadd, 1) := by decide +kernel
theorem dEc_add_180 : decode prog_4_method_6_code 180 = .ok (.aload_n 0, 1) := by decide +kernel
theorem dEc_add_181 : decode prog_4_method_6_code 181 = .ok (.getfield 27, 3) := by decide +kernel
theorem dEc_add_184 : decode prog_4_method_6_code 184 = .ok (.iload 5, 2) := by decide +kernel
theorem dEc_add_186 : decode prog_4_method_6_code 186 = .ok (.aload_n 0, 1) := by decide +kernel
theorem dEc_add_187 : decode prog_4_method_6_code 187 = .ok (.getfield 24, 3) := by decide +kernel
theorem dEc_add_190 : decode prog_4_method_6_code 190 = .ok (.imul, 1) := by decide +kernel
theorem dEc_add_191 : decode prog_4_method_6_code 191 = .ok (.iload 7, 2) := by decide +kernel
theorem dEc_add_193 : decode prog_4_method_6_code 193 = .ok (.iadd, 1) := by decide +kernel
theorem dEc_add_194 : decode prog_4_method_6_code 194 = .ok (.iaload, 1) := by decide +kernel
theorem dEc_add_195 : decode prog_4_method_6_code 195 = .ok (.iload 6, 2) := by decide +kernel
theorem dEc_add_197 : decode prog_4_method_6_code 197 = .ok (.aload_n 0, 1) := by decide +kernel
theorem dEc_add_198 : decode prog_4_method_6_code 198 = .ok (.getfield 31, 3) := by decide +kernel
theorem dEc_add_201 : decode prog_4_method_6_code 201 = .ok (.iload 7, 2) := by decide +kernel
theorem dEc_add_203 : decode prog_4_method_6_code 203 = .ok (.iaload, 1) := by decide +kernel
theorem dEc_add_204 : decode prog_4_method_6_code 204 = .ok (.imul, 1) := by decide +kernel
theorem dEc_add_205 : decode prog_4_method_6_code 205 = .ok (.isub, 1) := by decide +kernel
theorem dEc_add_206 : decode prog_4_method_6_code 206 = .ok (.aload_n 0, 1) := by decide +kernel
theorem dEc_add_207 : decode prog_4_method_6_code 207 = .ok (.getfield 9, 3) := by decide +kernel
theorem dEc_add_210 : decode prog_4_method_6_code 210 = .ok (.invokestatic 71, 3) := by decide +kernel
theorem dEc_add_213 : decode prog_4_method_6_code 213 = .ok (.iastore, 1) := by decide +kernel
theorem dEc_add_214 : decode prog_4_method_6_code 214 = .ok (.iinc 7 1, 3) := by decide +kernel
theorem dEc_add_217 : decode prog_4_method_6_code 217 = .ok (.goto (-60), 3) := by decide +kernel
theorem dEc_add_220 : decode prog_4_method_6_code 220 = .ok (.iinc 5 1, 3) := by decide +kernel
theorem dEc_add_223 : decode prog_4_method_6_code 223 = .ok (.goto (-105), 3) := by decide +kernel
theorem dEc_add_226 : decode prog_4_method_6_code 226 = .ok (.aload_n 0, 1) := by decide +kernel
theorem dEc_add_227 : decode prog_4_method_6_code 227 = .ok (.getfield 31, 3) := by decide +kernel
theorem dEc_add_230 : decode prog_4_method_6_code 230 = .ok (.iconst 0, 1) := by decide +kernel
theorem dEc_add_231 : decode prog_4_method_6_code 231 = .ok (.aload_n 0, 1) := by decide +kernel
theorem dEc_add_232 : decode prog_4_method_6_code 232 = .ok (.getfield 27, 3) := by decide +kernel
theorem dEc_add_235 : decode prog_4_method_6_code 235 = .ok (.iload_n 3, 1) := by decide +kernel
theorem dEc_add_236 : decode prog_4_method_6_code 236 = .ok (.aload_n 0, 1) := by decide +kernel
theorem dEc_add_237 : decode prog_4_method_6_code 237 = .ok (.getfield 24, 3) := by decide +kernel
theorem dEc_add_240 : decode prog_4_method_6_code 240 = .ok (.imul, 1) := by decide +kernel
theorem dEc_add_241 : decode prog_4_method_6_code 241 = .ok (.aload_n 0, 1) := by decide +kernel
theorem dEc_add_242 : decode prog_4_method_6_code 242 = .ok (.getfield 34, 3) := by decide +kernel
theorem dEc_add_245 : decode prog_4_method_6_code 245 = .ok (.invokestatic 50, 3) := by decide +kernel
theorem dEc_add_248 : decode prog_4_method_6_code 248 = .ok (.aload_n 0, 1) := by decide +kernel
theorem dEc_add_249 : decode prog_4_method_6_code 249 = .ok (.dup, 1) := by decide +kernel
theorem dEc_add_250 : decode prog_4_method_6_code 250 = .ok (.getfield 40, 3) := by decide +kernel
theorem dEc_add_253 : decode prog_4_method_6_code 253 = .ok (.iconst 1, 1) := by decide +kernel
theorem dEc_add_254 : decode prog_4_method_6_code 254 = .ok (.iload_n 3, 1) := by decide +kernel
theorem dEc_add_255 : decode prog_4_method_6_code 255 = .ok (.ishl, 1) := by decide +kernel
theorem dEc_add_256 : decode prog_4_method_6_code 256 = .ok (.ior, 1) := by decide +kernel
theorem dEc_add_257 : decode prog_4_method_6_code 257 = .ok (.putfield 40, 3) := by decide +kernel
theorem dEc_add_260 : decode prog_4_method_6_code 260 = .ok (.aload_n 0, 1) := by decide +kernel
theorem dEc_add_261 : decode prog_4_method_6_code 261 = .ok (.dup, 1) := by decide +kernel
theorem dEc_add_262 : decode prog_4_method_6_code 262 = .ok (.getfield 37, 3) := by decide +kernel
theorem dEc_add_265 : decode prog_4_method_6_code 265 = .ok (.iconst 1, 1) := by decide +kernel
theorem dEc_add_266 : decode prog_4_method_6_code 266 = .ok (.iadd, 1) := by decide +kernel
theorem dEc_add_267 : decode prog_4_method_6_code 267 = .ok (.putfield 37, 3) := by decide +kernel
theorem dEc_add_270 : decode prog_4_method_6_code 270 = .ok (.iconst 1, 1) := by decide +kernel
theorem dEc_add_271 : decode prog_4_method_6_code 271 = .ok (.ireturn, 1) := by decide +kernel
theorem t_Ec_add {d : Nat} {x0 x1 x2 : Int} {σ : SG} {Q : Int → SG → Prop} (h : inI x2 → ((x2 < 0 → Q 0 σ) ∧ (0 ≤ x2 → obok 2 x0 ∧ (kd x1).1 = 100 ∧ (w32 (x2 + (σ x0 4)) ≤ ((kd x1).2 : Int) → obok 2 x0 ∧ obok 2 x0 ∧ ((0 : Int) ≤ x0 + 2 ∧ (kd (x0 + 2)).1 = 100 ∧ (kd x1).1 = 100 ∧ (0 : Int) ≤ x2 ∧ (0 : Int) ≤ 0 ∧ (0 : Int) ≤ σ x0 4 ∧ x2 + (σ x0 4) ≤ ((kd x1).2 : Int) ∧ 0 + (σ x0 4) ≤ ((kd (x0 + 2)).2 : Int)) ∧ (∀ σ3, σ3 = cpy σ x1 x2 (x0 + 2) 0 (σ x0 4) → obok 2 x0 ∧ obok 2 x0 ∧ Tri d M_Ec_reduce [vA x0, vA (x0 + 2)] σ3 (fun r4 σ4 => obok 2 x0 ∧ obok 2 x0 ∧ Tri d M_Ec_firstOf [vA x0, vA (x0 + 2)] σ4 (fun r5 σ5 => obok 2 x0 ∧ (r5 < σ5 x0 4 → obok 2 x0 ∧ rdok 100 (x0 + 2) r5 ∧ obok 2 x0 ∧ Tri d M_X_inverse [vI (σ5 (x0 + 2) r5), vI (σ5 x0 3)] σ5 (fun r7 σ7 => L (d + 1) M_Ec_add 76 [vA x0, vU, vU, vI r5, vI r7, vI r5, vU, vU] [] σ7 Q)) ∧ (σ5 x0 4 ≤ r5 → Q 0 σ5))))) ∧ (((kd x1).2 : Int) < w32 (x2 + (σ x0 4)) → Q 0 σ)))) : Tri (d + 1) M_Ec_add [vA x0, vA x1, vI x2] σ Q :=
  Tri_intro rfl (Nat.le_of_ble_eq_true rfl) (ls := [vA x0, vA x1, vI x2, vU, vU, vU, vU, vU]) rfl (fun hok => L_iload_n dEc_add_0 rfl (L_if_lt dEc_add_1 (by decide) ⟨fun c1 => L_iconst dEc_add_15 in_0 (L_zreturn0 rfl dEc_add_16 ((h (hok _ (List.mem_of_getElem? (i := 2) rfl))).1 c1)), fun c1 => L_iload_n dEc_add_4 rfl (L_aload_n dEc_add_5 rfl (L_getf fw_Ec_34 rfl dEc_add_6 ⟨((h (hok _ (List.mem_of_getElem? (i := 2) rfl))).2 c1).1, L_iadd dEc_add_9 (L_aload_n dEc_add_10 rfl (L_alenU dEc_add_11 ⟨((h (hok _ (List.mem_of_getElem? (i := 2) rfl))).2 c1).2.1, L_icmp_le dEc_add_12 (by decide) ⟨fun c2 => L_aload_n dEc_add_17 rfl (L_iload_n dEc_add_18 rfl (L_aload_n dEc_add_19 rfl (L_getF (b := x0 + 2) fw_Ec_31 rfl rfl (by omega) dEc_add_20 ⟨(((h (hok _ (List.mem_of_getElem? (i := 2) rfl))).2 c1).2.2.1 c2).1, L_iconst dEc_add_23 in_0 (L_aload_n dEc_add_24 rfl (L_getf fw_Ec_34 rfl dEc_add_25 ⟨(((h (hok _ (List.mem_of_getElem? (i := 2) rfl))).2 c1).2.2.1 c2).2.1, L_copyIN (tk4 150 rfl rfl) (Nat.le_of_ble_eq_true rfl) dEc_add_28 ⟨(((h (hok _ (List.mem_of_getElem? (i := 2) rfl))).2 c1).2.2.1 c2).2.2.1, fun σ3 e3 => L_aload_n dEc_add_31 rfl (L_aload_n dEc_add_32 rfl (L_getF (b := x0 + 2) fw_Ec_31 rfl rfl (by omega) dEc_add_33 ⟨((((h (hok _ (List.mem_of_getElem? (i := 2) rfl))).2 c1).2.2.1 c2).2.2.2 σ3 e3).1, L_callVV rfl cv_Ec_reduce (As := [vA (x0 + 2)]) rfl (tk4 151 rfl rfl) rfl (Nat.le_of_ble_eq_true rfl) dEc_add_36 ⟨((((h (hok _ (List.mem_of_getElem? (i := 2) rfl))).2 c1).2.2.1 c2).2.2.2 σ3 e3).2.1, Tri.mono (((((h (hok _ (List.mem_of_getElem? (i := 2) rfl))).2 c1).2.2.1 c2).2.2.2 σ3 e3).2.2) (fun r4 σ4 q4 => L_aload_n dEc_add_39 rfl (L_aload_n dEc_add_40 rfl (L_getF (b := x0 + 2) fw_Ec_31 rfl rfl (by omega) dEc_add_41 ⟨q4.1, L_callVI rfl cv_Ec_firstOf (As := [vA (x0 + 2)]) rfl (tk4 155 rfl rfl) rfl (Nat.le_of_ble_eq_true rfl) dEc_add_44 ⟨q4.2.1, Tri.mono q4.2.2 (fun r5 σ5 q5 => L_istore_n dEc_add_47 (by decide) (L_iload_n dEc_add_48 rfl (L_aload_n dEc_add_49 rfl (L_getf fw_Ec_34 rfl dEc_add_50 ⟨q5.1, L_icmp_lt dEc_add_53 (by decide) ⟨fun c6 => L_aload_n dEc_add_58 rfl (L_getF (b := x0 + 2) fw_Ec_31 rfl rfl (by omega) dEc_add_59 ⟨(q5.2.1 c6).1, L_iload_n dEc_add_62 rfl (L_iaload dEc_add_63 ⟨(q5.2.1 c6).2.1, L_aload_n dEc_add_64 rfl (L_getf fw_Ec_9 rfl dEc_add_65 ⟨(q5.2.1 c6).2.2.1, L_callNI rfl cs_X_inverse (As := [vI (σ5 (x0 + 2) r5), vI (σ5 x0 3)]) rfl (by decide +kernel) rfl (Nat.le_of_ble_eq_true rfl) dEc_add_68 (Tri.mono ((q5.2.1 c6).2.2.2) (fun r7 σ7 q7 => L_istore dEc_add_71 (by decide) (L_iload_n dEc_add_73 rfl (L_istore dEc_add_74 (by decide) (L_weak [true, false, false, true, true, true, true, true] q7)))))⟩)⟩)⟩), fun c6 => L_iconst dEc_add_56 in_0 (L_zreturn0 rfl dEc_add_57 (q5.2.2 c6))⟩⟩))))⟩⟩)))⟩⟩))⟩⟩))⟩))), fun c2 => L_iconst dEc_add_15 in_0 (L_zreturn0 rfl dEc_add_16 (((h (hok _ (List.mem_of_getElem? (i := 2) rfl))).2 c1).2.2.2 c2))⟩⟩))⟩))⟩))
theorem s_Ec_add_76 {d : Nat} {x0 x3 x4 x5 : Int} {σ : SG} {Q : Int → SG → Prop} (h : obok 2 x0 ∧ (σ x0 4 ≤ x5 → L (d + 1) M_Ec_add 118 [vA x0, vU, vU, vI x3, vU, vI 0, vU, vU] [] σ Q) ∧ (x5 < σ x0 4 → obok 2 x0 ∧ obok 2 x0 ∧ rdok 100 (x0 + 2) x5 ∧ obok 2 x0 ∧ Tri d M_X_mod [vI (w32 ((σ (x0 + 2) x5) * x4)), vI (σ x0 3)] σ (fun r2 σ2 => wrok 100 (x0 + 2) x5 ∧ (∀ σ3, σ3 = up σ2 (x0 + 2) x5 r2 → L (d + 1) M_Ec_add 76 [vA x0, vU, vU, vI x3, vI x4, vI (w32 (x5 + 1)), vU, vU] [] σ3 Q)))) : L (d + 1) M_Ec_add 76 [vA x0, vU, vU, vI x3, vI x4, vI x5, vU, vU] [] σ Q :=
  L_iload dEc_add_76 rfl (L_aload_n dEc_add_78 rfl (L_getf fw_Ec_34 rfl dEc_add_79 ⟨h.1, L_icmp_ge dEc_add_82 (by decide) ⟨fun c1 => L_iconst dEc_add_115 in_0 (L_istore dEc_add_116 (by decide) (L_weak [true, true, true, true, false, true, true, true] (h.2.1 c1))), fun c1 => L_aload_n dEc_add_85 rfl (L_getF (b := x0 + 2) fw_Ec_31 rfl rfl (by omega) dEc_add_86 ⟨(h.2.2 c1).1, L_iload dEc_add_89 rfl (L_aload_n dEc_add_91 rfl (L_getF (b := x0 + 2) fw_Ec_31 rfl rfl (by omega) dEc_add_92 ⟨(h.2.2 c1).2.1, L_iload dEc_add_95 rfl (L_iaload dEc_add_97 ⟨(h.2.2 c1).2.2.1, L_iload dEc_add_98 rfl (L_imul dEc_add_100 (L_aload_n dEc_add_101 rfl (L_getf fw_Ec_9 rfl dEc_add_102 ⟨(h.2.2 c1).2.2.2.1, L_callNI rfl cs_X_mod (As := [vI (w32 ((σ (x0 + 2) x5) * x4)), vI (σ x0 3)]) rfl (by decide +kernel) rfl (Nat.le_of_ble_eq_true rfl) dEc_add_105 (Tri.mono ((h.2.2 c1).2.2.2.2) (fun r2 σ2 q2 => L_iastoreN dEc_add_108 ⟨q2.1, fun σ3 e3 => L_iinc dEc_add_109 rfl (by decide) (L_goto dEc_add_112 (by decide) (q2.2 σ3 e3))⟩))⟩)))⟩)⟩))⟩)⟩⟩))
theorem s_Ec_add_118 {d : Nat} {x0 x3 x5 : Int} {σ : SG} {Q : Int → SG → Prop} (h : (x3 ≤ x5 → obok 2 x0 ∧ obok 2 x0 ∧ obok 2 x0 ∧ obok 2 x0 ∧ ((0 : Int) ≤ x0 + 1 ∧ (kd (x0 + 1)).1 = 100 ∧ (kd (x0 + 2)).1 = 100 ∧ (0 : Int) ≤ 0 ∧ (0 : Int) ≤ w32 (x3 * (σ x0 0)) ∧ (0 : Int) ≤ σ x0 4 ∧ 0 + (σ x0 4) ≤ ((kd (x0 + 2)).2 : Int) ∧ (w32 (x3 * (σ x0 0))) + (σ x0 4) ≤ ((kd (x0 + 1)).2 : Int)) ∧ (∀ σ2, σ2 = cpy σ (x0 + 2) 0 (x0 + 1) (w32 (x3 * (σ x0 0))) (σ x0 4) → obok 2 x0 ∧ (obok 2 x0 ∧ ∀ σ3, σ3 = up σ2 x0 6 (or32 (σ2 x0 6) (shl32 1 x3)) → obok 2 x0 ∧ (obok 2 x0 ∧ ∀ σ4, σ4 = up σ3 x0 5 (w32 ((σ3 x0 5) + 1)) → Q 1 σ4)))) ∧ (x5 < x3 → obok 2 x0 ∧ obok 2 x0 ∧ rdok 100 (x0 + 1) (w32 ((w32 (x5 * (σ x0 0))) + x3)) ∧ obok 2 x0 ∧ Tri d M_Ec_leadsAt [vA x0, vI x5] σ (fun r5 σ5 => (r5 = 0 → L (d + 1) M_Ec_add 118 [vA x0, vU, vU, vI x3, vU, vI (w32 (x5 + 1)), vU, vU] [] σ5 Q) ∧ (r5 ≠ 0 → (σ (x0 + 1) (w32 ((w32 (x5 * (σ x0 0))) + x3)) = 0 → L (d + 1) M_Ec_add 118 [vA x0, vU, vU, vI x3, vU, vI (w32 (x5 + 1)), vU, vU] [] σ5 Q) ∧ (σ (x0 + 1) (w32 ((w32 (x5 * (σ x0 0))) + x3)) ≠ 0 → L (d + 1) M_Ec_add 157 [vA x0, vU, vU, vI x3, vU, vI x5, vI (σ (x0 + 1) (w32 ((w32 (x5 * (σ x0 0))) + x3))), vI x3] [] σ5 Q))))) : L (d + 1) M_Ec_add 118 [vA x0, vU, vU, vI x3, vU, vI x5, vU, vU] [] σ Q :=
  L_iload dEc_add_118 rfl (L_iload_n dEc_add_120 rfl (L_icmp_ge dEc_add_121 (by decide) ⟨fun c1 => L_aload_n dEc_add_226 rfl (L_getF (b := x0 + 2) fw_Ec_31 rfl rfl (by omega) dEc_add_227 ⟨(h.1 c1).1, L_iconst dEc_add_230 in_0 (L_aload_n dEc_add_231 rfl (L_getF (b := x0 + 1) fw_Ec_27 rfl rfl (by omega) dEc_add_232 ⟨(h.1 c1).2.1, L_iload_n dEc_add_235 rfl (L_aload_n dEc_add_236 rfl (L_getf fw_Ec_24 rfl dEc_add_237 ⟨(h.1 c1).2.2.1, L_imul dEc_add_240 (L_aload_n dEc_add_241 rfl (L_getf fw_Ec_34 rfl dEc_add_242 ⟨(h.1 c1).2.2.2.1, L_copyIN (tk4 150 rfl rfl) (Nat.le_of_ble_eq_true rfl) dEc_add_245 ⟨(h.1 c1).2.2.2.2.1, fun σ2 e2 => L_aload_n dEc_add_248 rfl (L_dup dEc_add_249 n21 (L_getf fw_Ec_40 rfl dEc_add_250 ⟨((h.1 c1).2.2.2.2.2 σ2 e2).1, L_iconst dEc_add_253 in_1 (L_iload_n dEc_add_254 rfl (L_ishl dEc_add_255 (L_ior dEc_add_256 (L_putfN fp_Ec_40 rfl rfl (fun _ => ⟨rfl, rfl⟩) dEc_add_257 ⟨((h.1 c1).2.2.2.2.2 σ2 e2).2.1, fun σ3 e3 => L_aload_n dEc_add_260 rfl (L_dup dEc_add_261 n21 (L_getf fw_Ec_37 rfl dEc_add_262 ⟨(((h.1 c1).2.2.2.2.2 σ2 e2).2.2 σ3 e3).1, L_iconst dEc_add_265 in_1 (L_iadd dEc_add_266 (L_putfN fp_Ec_37 rfl rfl (fun _ => ⟨rfl, rfl⟩) dEc_add_267 ⟨(((h.1 c1).2.2.2.2.2 σ2 e2).2.2 σ3 e3).2.1, fun σ4 e4 => L_iconst dEc_add_270 in_1 (L_zreturn1 rfl dEc_add_271 ((((h.1 c1).2.2.2.2.2 σ2 e2).2.2 σ3 e3).2.2 σ4 e4))⟩))⟩))⟩))))⟩))⟩⟩))⟩))⟩))⟩), fun c1 => L_aload_n dEc_add_124 rfl (L_getF (b := x0 + 1) fw_Ec_27 rfl rfl (by omega) dEc_add_125 ⟨(h.2 c1).1, L_iload dEc_add_128 rfl (L_aload_n dEc_add_130 rfl (L_getf fw_Ec_24 rfl dEc_add_131 ⟨(h.2 c1).2.1, L_imul dEc_add_134 (L_iload_n dEc_add_135 rfl (L_iadd dEc_add_136 (L_iaload dEc_add_137 ⟨(h.2 c1).2.2.1, L_istore dEc_add_138 (by decide) (L_aload_n dEc_add_140 rfl (L_iload dEc_add_141 rfl (L_callVI rfl cv_Ec_leadsAt (As := [vI x5]) rfl (tk4 163 rfl rfl) rfl (Nat.le_of_ble_eq_true rfl) dEc_add_143 ⟨(h.2 c1).2.2.2.1, Tri.mono ((h.2 c1).2.2.2.2) (fun r5 σ5 q5 => L_if_eq dEc_add_146 (by decide) ⟨fun c6 => L_iinc dEc_add_220 rfl (by decide) (L_goto dEc_add_223 (by decide) (L_weak [true, true, true, true, true, true, false, true] (q5.1 c6))), fun c6 => L_iload dEc_add_149 rfl (L_if_eq dEc_add_151 (by decide) ⟨fun c7 => L_iinc dEc_add_220 rfl (by decide) (L_goto dEc_add_223 (by decide) (L_weak [true, true, true, true, true, true, false, true] ((q5.2 c6).1 c7))), fun c7 => L_iload_n dEc_add_154 rfl (L_istore dEc_add_155 (by decide) ((q5.2 c6).2 c7))⟩)⟩)⟩)))⟩)))⟩))⟩)⟩))
theorem s_Ec_add_157 {d : Nat} {x0 x3 x5 x6 x7 : Int} {σ : SG} {Q : Int → SG → Prop} (h : obok 2 x0 ∧ (σ x0 4 ≤ x7 → L (d + 1) M_Ec_add 118 [vA x0, vU, vU, vI x3, vU, vI (w32 (x5 + 1)), vU, vU] [] σ Q) ∧ (x7 < σ x0 4 → obok 2 x0 ∧ obok 2 x0 ∧ obok 2 x0 ∧ obok 2 x0 ∧ rdok 100 (x0 + 1) (w32 ((w32 (x5 * (σ x0 0))) + x7)) ∧ obok 2 x0 ∧ rdok 100 (x0 + 2) x7 ∧ obok 2 x0 ∧ Tri d M_X_mod [vI (w32 ((σ (x0 + 1) (w32 ((w32 (x5 * (σ x0 0))) + x7))) - (w32 (x6 * (σ (x0 + 2) x7))))), vI (σ x0 3)] σ (fun r2 σ2 => wrok 100 (x0 + 1) (w32 ((w32 (x5 * (σ x0 0))) + x7)) ∧ (∀ σ3, σ3 = up σ2 (x0 + 1) (w32 ((w32 (x5 * (σ x0 0))) + x7)) r2 → L (d + 1) M_Ec_add 157 [vA x0, vU, vU, vI x3, vU, vI x5, vI x6, vI (w32 (x7 + 1))] [] σ3 Q)))) : L (d + 1) M_Ec_add 157 [vA x0, vU, vU, vI x3, vU, vI x5, vI x6, vI x7] [] σ Q :=
  L_iload dEc_add_157 rfl (L_aload_n dEc_add_159 rfl (L_getf fw_Ec_34 rfl dEc_add_160 ⟨h.1, L_icmp_ge dEc_add_163 (by decide) ⟨fun c1 => L_iinc dEc_add_220 rfl (by decide) (L_goto dEc_add_223 (by decide) (L_weak [true, true, true, true, true, true, false, false] (h.2.1 c1))), fun c1 => L_aload_n dEc_add_166 rfl (L_getF (b := x0 + 1) fw_Ec_27 rfl rfl (by omega) dEc_add_167 ⟨(h.2.2 c1).1, L_iload dEc_add_170 rfl (L_aload_n dEc_add_172 rfl (L_getf fw_Ec_24 rfl dEc_add_173 ⟨(h.2.2 c1).2.1, L_imul dEc_add_176 (L_iload dEc_add_177 rfl (L_iadd dEc_add_179 (L_aload_n dEc_add_180 rfl (L_getF (b := x0 + 1) fw_Ec_27 rfl rfl (by omega) dEc_add_181 ⟨(h.2.2 c1).2.2.1, L_iload dEc_add_184 rfl (L_aload_n dEc_add_186 rfl (L_getf fw_Ec_24 rfl dEc_add_187 ⟨(h.2.2 c1).2.2.2.1, L_imul dEc_add_190 (L_iload dEc_add_191 rfl (L_iadd dEc_add_193 (L_iaload dEc_add_194 ⟨(h.2.2 c1).2.2.2.2.1, L_iload dEc_add_195 rfl (L_aload_n dEc_add_197 rfl (L_getF (b := x0 + 2) fw_Ec_31 rfl rfl (by omega) dEc_add_198 ⟨(h.2.2 c1).2.2.2.2.2.1, L_iload dEc_add_201 rfl (L_iaload dEc_add_203 ⟨(h.2.2 c1).2.2.2.2.2.2.1, L_imul dEc_add_204 (L_isub dEc_add_205 (L_aload_n dEc_add_206 rfl (L_getf fw_Ec_9 rfl dEc_add_207 ⟨(h.2.2 c1).2.2.2.2.2.2.2.1, L_callNI rfl cs_X_mod (As := [vI (w32 ((σ (x0 + 1) (w32 ((w32 (x5 * (σ x0 0))) + x7))) - (w32 (x6 * (σ (x0 + 2) x7))))), vI (σ x0 3)]) rfl (by decide +kernel) rfl (Nat.le_of_ble_eq_true rfl) dEc_add_210 (Tri.mono ((h.2.2 c1).2.2.2.2.2.2.2.2) (fun r2 σ2 q2 => L_iastoreN dEc_add_213 ⟨q2.1, fun σ3 e3 => L_iinc dEc_add_214 rfl (by decide) (L_goto dEc_add_217 (by decide) (q2.2 σ3 e3))⟩))⟩)))⟩)⟩))⟩)))⟩))⟩))))⟩))⟩)⟩⟩))
theorem dEc_holds_0 : decode prog_4_method_7_code 0 = .ok (.iload_n 2, 1) := by decide +kernel
theorem dEc_holds_1 : decode prog_4_method_7_code 1 = .ok (.ifCond .lt 14, 3) := by decide +kernel
theorem dEc_holds_4 : decode prog_4_method_7_code 4 = .ok (.iload_n 2, 1) := by decide +kernel
theorem dEc_holds_5 : decode prog_4_method_7_code 5 = .ok (.aload_n 0, 1) := by decide +kernel
theorem dEc_holds_6 : decode prog_4_method_7_code 6 = .ok (.getfield 34, 3) := by decide +kernel
theorem dEc_holds_9 : decode prog_4_method_7_code 9 = .ok (.iadd, 1) := by decide +kernel
theorem dEc_holds_10 : decode prog_4_method_7_code 10 = .ok (.aload_n 1, 1) := by decide +kernel
theorem dEc_holds_11 : decode prog_4_method_7_code 11 = .ok (.arraylength, 1) := by decide +kernel
theorem dEc_holds_12 : decode prog_4_method_7_code 12 = .ok (.if_icmp .le 5, 3) := by decide +kernel
theorem dEc_holds_15 : decode prog_4_method_7_code 15 = .ok (.iconst 0, 1) := by decide +kernel
theorem dEc_holds_16 : decode prog_4_method_7_code 16 = .ok (.ireturn, 1) := by decide +kernel
theorem dEc_holds_17 : decode prog_4_method_7_code 17 = .ok (.aload_n 1, 1) := by decide +kernel
theorem dEc_holds_18 : decode prog_4_method_7_code 18 = .ok (.iload_n 2, 1) := by decide +kernel
theorem dEc_holds_19 : decode prog_4_method_7_code 19 = .ok (.aload_n 0, 1) := by decide +kernel
theorem dEc_holds_20 : decode prog_4_method_7_code 20 = .ok (.getfield 31, 3) := by decide +kernel
theorem dEc_holds_23 : decode prog_4_method_7_code 23 = .ok (.iconst 0, 1) := by decide +kernel
theorem dEc_holds_24 : decode prog_4_method_7_code 24 = .ok (.aload_n 0, 1) := by decide +kernel
theorem dEc_holds_25 : decode prog_4_method_7_code 25 = .ok (.getfield 34, 3) := by decide +kernel
theorem dEc_holds_28 : decode prog_4_method_7_code 28 = .ok (.invokestatic 50, 3) := by decide +kernel
theorem dEc_holds_31 : decode prog_4_method_7_code 31 = .ok (.aload_n 0, 1) := by decide +kernel
theorem dEc_holds_32 : decode prog_4_method_7_code 32 = .ok (.aload_n 0, 1) := by decide +kernel
theorem dEc_holds_33 : decode prog_4_method_7_code 33 = .ok (.getfield 31, 3) := by decide +kernel
theorem dEc_holds_36 : decode prog_4_method_7_code 36 = .ok (.invokevirtual 60, 3) := by decide +kernel
theorem dEc_holds_39 : decode prog_4_method_7_code 39 = .ok (.aload_n 0, 1) := by decide +kernel
theorem dEc_holds_40 : decode prog_4_method_7_code 40 = .ok (.aload_n 0, 1) := by decide +kernel
theorem dEc_holds_41 : decode prog_4_method_7_code 41 = .ok (.getfield 31, 3) := by decide +kernel
theorem dEc_holds_44 : decode prog_4_method_7_code 44 = .ok (.invokevirtual 64, 3) := by decide +kernel
theorem dEc_holds_47 : decode prog_4_method_7_code 47 = .ok (.aload_n 0, 1) := by decide +kernel
theorem dEc_holds_48 : decode prog_4_method_7_code 48 = .ok (.getfield 34, 3) := by decide +kernel
theorem dEc_holds_51 : decode prog_4_method_7_code 51 = .ok (.if_icmp .lt 7, 3) := by decide +kernel
theorem dEc_holds_54 : decode prog_4_method_7_code 54 = .ok (.iconst 1, 1) := by decide +kernel
theorem dEc_holds_55 : decode prog_4_method_7_code 55 = .ok (.goto 4, 3) := by decide +kernel
theorem dEc_holds_58 : decode prog_4_method_7_code 58 = .ok (.iconst 0, 1) := by decide +kernel
theorem dEc_holds_59 : decode prog_4_method_7_code 59 = .ok (.ireturn, 1) := by decide +kernel
theorem t_Ec_holds {d : Nat} {x0 x1 x2 : Int} {σ : SG} {Q : Int → SG → Prop} (h : inI x2 → ((x2 < 0 → Q 0 σ) ∧ (0 ≤ x2 → obok 2 x0 ∧ (kd x1).1 = 100 ∧ (w32 (x2 + (σ x0 4)) ≤ ((kd x1).2 : Int) → obok 2 x0 ∧ obok 2 x0 ∧ ((0 : Int) ≤ x0 + 2 ∧ (kd (x0 + 2)).1 = 100 ∧ (kd x1).1 = 100 ∧ (0 : Int) ≤ x2 ∧ (0 : Int) ≤ 0 ∧ (0 : Int) ≤ σ x0 4 ∧ x2 + (σ x0 4) ≤ ((kd x1).2 : Int) ∧ 0 + (σ x0 4) ≤ ((kd (x0 + 2)).2 : Int)) ∧ (∀ σ3, σ3 = cpy σ x1 x2 (x0 + 2) 0 (σ x0 4) → obok 2 x0 ∧ obok 2 x0 ∧ Tri d M_Ec_reduce [vA x0, vA (x0 + 2)] σ3 (fun r4 σ4 => obok 2 x0 ∧ obok 2 x0 ∧ Tri d M_Ec_firstOf [vA x0, vA (x0 + 2)] σ4 (fun r5 σ5 => obok 2 x0 ∧ (r5 < σ5 x0 4 → Q 0 σ5) ∧ (σ5 x0 4 ≤ r5 → Q 1 σ5))))) ∧ (((kd x1).2 : Int) < w32 (x2 + (σ x0 4)) → Q 0 σ)))) : Tri (d + 1) M_Ec_holds [vA x0, vA x1, vI x2] σ Q :=
  Tri_intro rfl (Nat.le_of_ble_eq_true rfl) (ls := [vA x0, vA x1, vI x2]) rfl (fun hok => L_iload_n dEc_holds_0 rfl (L_if_lt dEc_holds_1 (by decide) ⟨fun c1 => L_iconst dEc_holds_15 in_0 (L_zreturn0 rfl dEc_holds_16 ((h (hok _ (List.mem_of_getElem? (i := 2) rfl))).1 c1)), fun c1 => L_iload_n dEc_holds_4 rfl (L_aload_n dEc_holds_5 rfl (L_getf fw_Ec_34 rfl dEc_holds_6 ⟨((h (hok _ (List.mem_of_getElem? (i := 2) rfl))).2 c1).1, L_iadd dEc_holds_9 (L_aload_n dEc_holds_10 rfl (L_alenU dEc_holds_11 ⟨((h (hok _ (List.mem_of_getElem? (i := 2) rfl))).2 c1).2.1, L_icmp_le dEc_holds_12 (by decide) ⟨fun c2 => L_aload_n dEc_holds_17 rfl (L_iload_n dEc_holds_18 rfl (L_aload_n dEc_holds_19 rfl (L_getF (b := x0 + 2) fw_Ec_31 rfl rfl (by omega) dEc_holds_20 ⟨(((h (hok _ (List.mem_of_getElem? (i := 2) rfl))).2 c1).2.2.1 c2).1, L_iconst dEc_holds_23 in_0 (L_aload_n dEc_holds_24 rfl (L_getf fw_Ec_34 rfl dEc_holds_25 ⟨(((h (hok _ (List.mem_of_getElem? (i := 2) rfl))).2 c1).2.2.1 c2).2.1, L_copyIN (tk4 150 rfl rfl) (Nat.le_of_ble_eq_true rfl) dEc_holds_28 ⟨(((h (hok _ (List.mem_of_getElem? (i := 2) rfl))).2 c1).2.2.1 c2).2.2.1, fun σ3 e3 => L_aload_n dEc_holds_31 rfl (L_aload_n dEc_holds_32 rfl (L_getF (b := x0 + 2) fw_Ec_31 rfl rfl (by omega) dEc_holds_33 ⟨((((h (hok _ (List.mem_of_getElem? (i := 2) rfl))).2 c1).2.2.1 c2).2.2.2 σ3 e3).1, L_callVV rfl cv_Ec_reduce (As := [vA (x0 + 2)]) rfl (tk4 151 rfl rfl) rfl (Nat.le_of_ble_eq_true rfl) dEc_holds_36 ⟨((((h (hok _ (List.mem_of_getElem? (i := 2) rfl))).2 c1).2.2.1 c2).2.2.2 σ3 e3).2.1, Tri.mono (((((h (hok _ (List.mem_of_getElem? (i := 2) rfl))).2 c1).2.2.1 c2).2.2.2 σ3 e3).2.2) (fun r4 σ4 q4 => L_aload_n dEc_holds_39 rfl (L_aload_n dEc_holds_40 rfl (L_getF (b := x0 + 2) fw_Ec_31 rfl rfl (by omega) dEc_holds_41 ⟨q4.1, L_callVI rfl cv_Ec_firstOf (As := [vA (x0 + 2)]) rfl (tk4 155 rfl rfl) rfl (Nat.le_of_ble_eq_true rfl) dEc_holds_44 ⟨q4.2.1, Tri.mono q4.2.2 (fun r5 σ5 q5 => L_aload_n dEc_holds_47 rfl (L_getf fw_Ec_34 rfl dEc_holds_48 ⟨q5.1, L_icmp_lt dEc_holds_51 (by decide) ⟨fun c6 => L_iconst dEc_holds_58 in_0 (L_zreturn0 rfl dEc_holds_59 (q5.2.1 c6)), fun c6 => L_iconst dEc_holds_54 in_1 (L_goto dEc_holds_55 (by decide) (L_zreturn1 rfl dEc_holds_59 (q5.2.2 c6)))⟩⟩))⟩⟩)))⟩⟩))⟩⟩))⟩))), fun c2 => L_iconst dEc_holds_15 in_0 (L_zreturn0 rfl dEc_holds_16 (((h (hok _ (List.mem_of_getElem? (i := 2) rfl))).2 c1).2.2.2 c2))⟩⟩))⟩))⟩))
theorem dEc_reduce_0 : decode prog_4_method_8_code 0 = .ok (.aload_n 0, 1) := by decide +kernel
theorem dEc_reduce_1 : decode prog_4_method_8_code 1 = .ok (.getfield 9, 3) := by decide +kernel
theorem dEc_reduce_4 : decode prog_4_method_8_code 4 = .ok (.istore_n 2, 1) := by decide +kernel
theorem dEc_reduce_5 : decode prog_4_method_8_code 5 = .ok (.iload_n 2, 1) := by decide +kernel
theorem dEc_reduce_6 : decode prog_4_method_8_code 6 = .ok (.iconst 2, 1) := by decide +kernel
theorem dEc_reduce_7 : decode prog_4_method_8_code 7 = .ok (.if_icmp .lt 12, 3) := by decide +kernel
theorem dEc_reduce_10 : decode prog_4_method_8_code 10 = .ok (.aload_n 1, 1) := by decide +kernel
theorem dEc_reduce_11 : decode prog_4_method_8_code 11 = .ok (.arraylength, 1) := by decide +kernel
theorem dEc_reduce_12 : decode prog_4_method_8_code 12 = .ok (.aload_n 0, 1) := by decide +kernel
theorem dEc_reduce_13 : decode prog_4_method_8_code 13 = .ok (.getfield 34, 3) := by decide +kernel
theorem dEc_reduce_16 : decode prog_4_method_8_code 16 = .ok (.if_icmp .ge 4, 3) := by decide +kernel
theorem dEc_reduce_19 : decode prog_4_method_8_code 19 = .ok (.return_, 1) := by decide +kernel
theorem dEc_reduce_20 : decode prog_4_method_8_code 20 = .ok (.iconst 0, 1) := by decide +kernel
theorem dEc_reduce_21 : decode prog_4_method_8_code 21 = .ok (.istore_n 3, 1) := by decide +kernel
theorem dEc_reduce_22 : decode prog_4_method_8_code 22 = .ok (.iload_n 3, 1) := by decide +kernel
theorem dEc_reduce_23 : decode prog_4_method_8_code 23 = .ok (.aload_n 0, 1) := by decide +kernel
theorem dEc_reduce_24 : decode prog_4_method_8_code 24 = .ok (.getfield 34, 3) := by decide +kernel
theorem dEc_reduce_27 : decode prog_4_method_8_code 27 = .ok (.if_icmp .ge 78, 3) := by decide +kernel
theorem dEc_reduce_30 : decode prog_4_method_8_code 30 = .ok (.aload_n 1, 1) := by decide +kernel
theorem dEc_reduce_31 : decode prog_4_method_8_code 31 = .ok (.iload_n 3, 1) := by decide +kernel
theorem dEc_reduce_32 : decode prog_4_method_8_code 32 = .ok (.iaload, 1) := by decide +kernel
theorem dEc_reduce_33 : decode prog_4_method_8_code 33 = .ok (.istore 4, 2) := by decide +kernel
theorem dEc_reduce_35 : decode prog_4_method_8_code 35 = .ok (.iload 4, 2) := by decide +kernel
theorem dEc_reduce_37 : decode prog_4_method_8_code 37 = .ok (.ifCond .eq 62, 3) := by decide +kernel
theorem dEc_reduce_40 : decode prog_4_method_8_code 40 = .ok (.aload_n 0, 1) := by decide +kernel
theorem dEc_reduce_41 : decode prog_4_method_8_code 41 = .ok (.getfield 40, 3) := by decide +kernel
theorem dEc_reduce_44 : decode prog_4_method_8_code 44 = .ok (.iload_n 3, 1) := by decide +kernel
theorem dEc_reduce_45 : decode prog_4_method_8_code 45 = .ok (.ishr, 1) := by decide +kernel
theorem dEc_reduce_46 : decode prog_4_method_8_code 46 = .ok (.iconst 1, 1) := by decide +kernel
theorem dEc_reduce_47 : decode prog_4_method_8_code 47 = .ok (.iand, 1) := by decide +kernel
theorem dEc_reduce_48 : decode prog_4_method_8_code 48 = .ok (.ifCond .eq 51, 3) := by decide +kernel
theorem dEc_reduce_51 : decode prog_4_method_8_code 51 = .ok (.iload_n 3, 1) := by decide +kernel
theorem dEc_reduce_52 : decode prog_4_method_8_code 52 = .ok (.istore 5, 2) := by decide +kernel
theorem dEc_reduce_54 : decode prog_4_method_8_code 54 = .ok (.iload 5, 2) := by decide +kernel
theorem dEc_reduce_56 : decode prog_4_method_8_code 56 = .ok (.aload_n 0, 1) := by decide +kernel
theorem dEc_reduce_57 : decode prog_4_method_8_code 57 = .ok (.getfield 34, 3) := by decide +kernel
theorem dEc_reduce_60 : decode prog_4_method_8_code 60 = .ok (.if_icmp .ge 39, 3) := by decide +kernel
theorem dEc_reduce_63 : decode prog_4_method_8_code 63 = .ok (.aload_n 1, 1) := by decide +kernel
theorem dEc_reduce_64 : decode prog_4_method_8_code 64 = .ok (.iload 5, 2) := by decide +kernel
theorem dEc_reduce_66 : decode prog_4_method_8_code 66 = .ok (.aload_n 1, 1) := by decide +kernel
theorem dEc_reduce_67 : decode prog_4_method_8_code 67 = .ok (.iload 5, 2) := by decide +kernel
theorem dEc_reduce_69 : decode prog_4_method_8_code 69 = .ok (.iaload, 1) := by decide +kernel
theorem dEc_reduce_70 : decode prog_4_method_8_code 70 = .ok (.iload_n 2, 1) := by decide +kernel
theorem dEc_reduce_71 : decode prog_4_method_8_code 71 = .ok (.iload 4, 2) := by decide +kernel
theorem dEc_reduce_73 : decode prog_4_method_8_code 73 = .ok (.isub, 1) := by decide +kernel
theorem dEc_reduce_74 : decode prog_4_method_8_code 74 = .ok (.aload_n 0, 1) := by decide +kernel
theorem dEc_reduce_75 : decode prog_4_method_8_code 75 = .ok (.getfield 27, 3) := by decide +kernel
theorem dEc_reduce_78 : decode prog_4_method_8_code 78 = .ok (.iload_n 3, 1) := by decide +kernel
theorem dEc_reduce_79 : decode prog_4_method_8_code 79 = .ok (.aload_n 0, 1) := by decide +kernel
theorem dEc_reduce_80 : decode prog_4_method_8_code 80 = .ok (.getfield 24, 3) := by decide +kernel
theorem dEc_reduce_83 : decode prog_4_method_8_code 83 = .ok (.imul, 1) := by decide +kernel
theorem dEc_reduce_84 : decode prog_4_method_8_code 84 = .ok (.iload 5, 2) := by decide +kernel
theorem dEc_reduce_86 : decode prog_4_method_8_code 86 = .ok (.iadd, 1) := by decide +kernel
theorem dEc_reduce_87 : decode prog_4_method_8_code 87 = .ok (.iaload, 1) := by decide +kernel
theorem dEc_reduce_88 : decode prog_4_method_8_code 88 = .ok (.imul, 1) := by decide +kernel
theorem dEc_reduce_89 : decode prog_4_method_8_code 89 = .ok (.iadd, 1) := by decide +kernel
theorem dEc_reduce_90 : decode prog_4_method_8_code 90 = .ok (.iload_n 2, 1) := by decide +kernel
theorem dEc_reduce_91 : decode prog_4_method_8_code 91 = .ok (.irem, 1) := by decide +kernel
theorem dEc_reduce_92 : decode prog_4_method_8_code 92 = .ok (.iastore, 1) := by decide +kernel
theorem dEc_reduce_93 : decode prog_4_method_8_code 93 = .ok (.iinc 5 1, 3) := by decide +kernel
theorem dEc_reduce_96 : decode prog_4_method_8_code 96 = .ok (.goto (-42), 3) := by decide +kernel
theorem dEc_reduce_99 : decode prog_4_method_8_code 99 = .ok (.iinc 3 1, 3) := by decide +kernel
theorem dEc_reduce_102 : decode prog_4_method_8_code 102 = .ok (.goto (-80), 3) := by decide +kernel
theorem dEc_reduce_105 : decode prog_4_method_8_code 105 = .ok (.return_, 1) := by decide +kernel
theorem t_Ec_reduce {d : Nat} {x0 x1 : Int} {σ : SG} {Q : Int → SG → Prop} (h : obok 2 x0 ∧ (σ x0 3 < 2 → Q 0 σ) ∧ (2 ≤ σ x0 3 → (kd x1).1 = 100 ∧ obok 2 x0 ∧ (σ x0 4 ≤ ((kd x1).2 : Int) → L (d + 1) M_Ec_reduce 22 [vA x0, vA x1, vI (σ x0 3), vI 0, vU, vU] [] σ Q) ∧ (((kd x1).2 : Int) < σ x0 4 → Q 0 σ))) : Tri (d + 1) M_Ec_reduce [vA x0, vA x1] σ Q :=
  Tri_intro rfl (Nat.le_of_ble_eq_true rfl) (ls := [vA x0, vA x1, vU, vU, vU, vU]) rfl (fun hok => L_aload_n dEc_reduce_0 rfl (L_getf fw_Ec_9 rfl dEc_reduce_1 ⟨h.1, L_istore_n dEc_reduce_4 (by decide) (L_iload_n dEc_reduce_5 rfl (L_iconst dEc_reduce_6 in_2 (L_icmp_lt dEc_reduce_7 (by decide) ⟨fun c1 => L_return rfl dEc_reduce_19 (h.2.1 c1), fun c1 => L_aload_n dEc_reduce_10 rfl (L_alenU dEc_reduce_11 ⟨(h.2.2 c1).1, L_aload_n dEc_reduce_12 rfl (L_getf fw_Ec_34 rfl dEc_reduce_13 ⟨(h.2.2 c1).2.1, L_icmp_ge dEc_reduce_16 (by decide) ⟨fun c2 => L_iconst dEc_reduce_20 in_0 (L_istore_n dEc_reduce_21 (by decide) ((h.2.2 c1).2.2.1 c2)), fun c2 => L_return rfl dEc_reduce_19 ((h.2.2 c1).2.2.2 c2)⟩⟩)⟩)⟩)))⟩))
theorem s_Ec_reduce_22 {d : Nat} {x0 x1 x2 x3 : Int} {σ : SG} {Q : Int → SG → Prop} (h : obok 2 x0 ∧ (σ x0 4 ≤ x3 → Q 0 σ) ∧ (x3 < σ x0 4 → rdok 100 x1 x3 ∧ (σ x1 x3 = 0 → L (d + 1) M_Ec_reduce 22 [vA x0, vA x1, vI x2, vI (w32 (x3 + 1)), vU, vU] [] σ Q) ∧ (σ x1 x3 ≠ 0 → obok 2 x0 ∧ (and32 (shr32 (σ x0 6) x3) 1 = 0 → L (d + 1) M_Ec_reduce 22 [vA x0, vA x1, vI x2, vI (w32 (x3 + 1)), vU, vU] [] σ Q) ∧ (and32 (shr32 (σ x0 6) x3) 1 ≠ 0 → L (d + 1) M_Ec_reduce 54 [vA x0, vA x1, vI x2, vI x3, vI (σ x1 x3), vI x3] [] σ Q)))) : L (d + 1) M_Ec_reduce 22 [vA x0, vA x1, vI x2, vI x3, vU, vU] [] σ Q :=
  L_iload_n dEc_reduce_22 rfl (L_aload_n dEc_reduce_23 rfl (L_getf fw_Ec_34 rfl dEc_reduce_24 ⟨h.1, L_icmp_ge dEc_reduce_27 (by decide) ⟨fun c1 => L_return rfl dEc_reduce_105 (h.2.1 c1), fun c1 => L_aload_n dEc_reduce_30 rfl (L_iload_n dEc_reduce_31 rfl (L_iaload dEc_reduce_32 ⟨(h.2.2 c1).1, L_istore dEc_reduce_33 (by decide) (L_iload dEc_reduce_35 rfl (L_if_eq dEc_reduce_37 (by decide) ⟨fun c2 => L_iinc dEc_reduce_99 rfl (by decide) (L_goto dEc_reduce_102 (by decide) (L_weak [true, true, true, true, false, true] ((h.2.2 c1).2.1 c2))), fun c2 => L_aload_n dEc_reduce_40 rfl (L_getf fw_Ec_40 rfl dEc_reduce_41 ⟨((h.2.2 c1).2.2 c2).1, L_iload_n dEc_reduce_44 rfl (L_ishr dEc_reduce_45 (L_iconst dEc_reduce_46 in_1 (L_iand dEc_reduce_47 (L_if_eq dEc_reduce_48 (by decide) ⟨fun c3 => L_iinc dEc_reduce_99 rfl (by decide) (L_goto dEc_reduce_102 (by decide) (L_weak [true, true, true, true, false, true] (((h.2.2 c1).2.2 c2).2.1 c3))), fun c3 => L_iload_n dEc_reduce_51 rfl (L_istore dEc_reduce_52 (by decide) (((h.2.2 c1).2.2 c2).2.2 c3))⟩))))⟩)⟩))⟩))⟩⟩))
theorem s_Ec_reduce_54 {d : Nat} {x0 x1 x2 x3 x4 x5 : Int} {σ : SG} {Q : Int → SG → Prop} (h : obok 2 x0 ∧ (σ x0 4 ≤ x5 → L (d + 1) M_Ec_reduce 22 [vA x0, vA x1, vI x2, vI (w32 (x3 + 1)), vU, vU] [] σ Q) ∧ (x5 < σ x0 4 → rdok 100 x1 x5 ∧ obok 2 x0 ∧ obok 2 x0 ∧ rdok 100 (x0 + 1) (w32 ((w32 (x3 * (σ x0 0))) + x5)) ∧ x2 ≠ 0 ∧ wrok 100 x1 x5 ∧ (∀ σ2, σ2 = up σ x1 x5 ((w32 ((σ x1 x5) + (w32 ((w32 (x2 - x4)) * (σ (x0 + 1) (w32 ((w32 (x3 * (σ x0 0))) + x5))))))).tmod x2) → L (d + 1) M_Ec_reduce 54 [vA x0, vA x1, vI x2, vI x3, vI x4, vI (w32 (x5 + 1))] [] σ2 Q))) : L (d + 1) M_Ec_reduce 54 [vA x0, vA x1, vI x2, vI x3, vI x4, vI x5] [] σ Q :=
  L_iload dEc_reduce_54 rfl (L_aload_n dEc_reduce_56 rfl (L_getf fw_Ec_34 rfl dEc_reduce_57 ⟨h.1, L_icmp_ge dEc_reduce_60 (by decide) ⟨fun c1 => L_iinc dEc_reduce_99 rfl (by decide) (L_goto dEc_reduce_102 (by decide) (L_weak [true, true, true, true, false, false] (h.2.1 c1))), fun c1 => L_aload_n dEc_reduce_63 rfl (L_iload dEc_reduce_64 rfl (L_aload_n dEc_reduce_66 rfl (L_iload dEc_reduce_67 rfl (L_iaload dEc_reduce_69 ⟨(h.2.2 c1).1, L_iload_n dEc_reduce_70 rfl (L_iload dEc_reduce_71 rfl (L_isub dEc_reduce_73 (L_aload_n dEc_reduce_74 rfl (L_getF (b := x0 + 1) fw_Ec_27 rfl rfl (by omega) dEc_reduce_75 ⟨(h.2.2 c1).2.1, L_iload_n dEc_reduce_78 rfl (L_aload_n dEc_reduce_79 rfl (L_getf fw_Ec_24 rfl dEc_reduce_80 ⟨(h.2.2 c1).2.2.1, L_imul dEc_reduce_83 (L_iload dEc_reduce_84 rfl (L_iadd dEc_reduce_86 (L_iaload dEc_reduce_87 ⟨(h.2.2 c1).2.2.2.1, L_imul dEc_reduce_88 (L_iadd dEc_reduce_89 (L_iload_n dEc_reduce_90 rfl (L_irem dEc_reduce_91 ⟨(h.2.2 c1).2.2.2.2.1, L_iastoreN dEc_reduce_92 ⟨(h.2.2 c1).2.2.2.2.2.1, fun σ2 e2 => L_iinc dEc_reduce_93 rfl (by decide) (L_goto dEc_reduce_96 (by decide) ((h.2.2 c1).2.2.2.2.2.2 σ2 e2))⟩⟩)))⟩)))⟩))⟩))))⟩))))⟩⟩))
theorem dEc_firstOf_0 : decode prog_4_method_9_code 0 = .ok (.iconst 0, 1) := by decide +kernel
theorem dEc_firstOf_1 : decode prog_4_method_9_code 1 = .ok (.istore_n 2, 1) := by decide +kernel
theorem dEc_firstOf_2 : decode prog_4_method_9_code 2 = .ok (.iload_n 2, 1) := by decide +kernel
theorem dEc_firstOf_3 : decode prog_4_method_9_code 3 = .ok (.aload_n 0, 1) := by decide +kernel
theorem dEc_firstOf_4 : decode prog_4_method_9_code 4 = .ok (.getfield 34, 3) := by decide +kernel
theorem dEc_firstOf_7 : decode prog_4_method_9_code 7 = .ok (.if_icmp .ge 17, 3) := by decide +kernel
theorem dEc_firstOf_10 : decode prog_4_method_9_code 10 = .ok (.aload_n 1, 1) := by decide +kernel
theorem dEc_firstOf_11 : decode prog_4_method_9_code 11 = .ok (.iload_n 2, 1) := by decide +kernel
theorem dEc_firstOf_12 : decode prog_4_method_9_code 12 = .ok (.iaload, 1) := by decide +kernel
theorem dEc_firstOf_13 : decode prog_4_method_9_code 13 = .ok (.ifCond .eq 5, 3) := by decide +kernel
theorem dEc_firstOf_16 : decode prog_4_method_9_code 16 = .ok (.iload_n 2, 1) := by decide +kernel
theorem dEc_firstOf_17 : decode prog_4_method_9_code 17 = .ok (.ireturn, 1) := by decide +kernel
theorem dEc_firstOf_18 : decode prog_4_method_9_code 18 = .ok (.iinc 2 1, 3) := by decide +kernel
theorem dEc_firstOf_21 : decode prog_4_method_9_code 21 = .ok (.goto (-19), 3) := by decide +kernel
theorem dEc_firstOf_24 : decode prog_4_method_9_code 24 = .ok (.aload_n 0, 1) := by decide +kernel
theorem dEc_firstOf_25 : decode prog_4_method_9_code 25 = .ok (.getfield 34, 3) := by decide +kernel
theorem dEc_firstOf_28 : decode prog_4_method_9_code 28 = .ok (.ireturn, 1) := by decide +kernel
theorem t_Ec_firstOf {d : Nat} {x0 x1 : Int} {σ : SG} {Q : Int → SG → Prop} (h : L (d + 1) M_Ec_firstOf 2 [vA x0, vA x1, vI 0] [] σ Q) : Tri (d + 1) M_Ec_firstOf [vA x0, vA x1] σ Q :=
  Tri_intro rfl (Nat.le_of_ble_eq_true rfl) (ls := [vA x0, vA x1, vU]) rfl (fun hok => L_iconst dEc_firstOf_0 in_0 (L_istore_n dEc_firstOf_1 (by decide) (h)))
theorem s_Ec_firstOf_2 {d : Nat} {x0 x1 x2 : Int} {σ : SG} {Q : Int → SG → Prop} (h : obok 2 x0 ∧ (σ x0 4 ≤ x2 → obok 2 x0 ∧ Q (σ x0 4) σ) ∧ (x2 < σ x0 4 → rdok 100 x1 x2 ∧ (σ x1 x2 = 0 → L (d + 1) M_Ec_firstOf 2 [vA x0, vA x1, vI (w32 (x2 + 1))] [] σ Q) ∧ (σ x1 x2 ≠ 0 → Q x2 σ))) : L (d + 1) M_Ec_firstOf 2 [vA x0, vA x1, vI x2] [] σ Q :=
  L_iload_n dEc_firstOf_2 rfl (L_aload_n dEc_firstOf_3 rfl (L_getf fw_Ec_34 rfl dEc_firstOf_4 ⟨h.1, L_icmp_ge dEc_firstOf_7 (by decide) ⟨fun c1 => L_aload_n dEc_firstOf_24 rfl (L_getf fw_Ec_34 rfl dEc_firstOf_25 ⟨(h.2.1 c1).1, L_ireturn rfl dEc_firstOf_28 ((h.2.1 c1).2)⟩), fun c1 => L_aload_n dEc_firstOf_10 rfl (L_iload_n dEc_firstOf_11 rfl (L_iaload dEc_firstOf_12 ⟨(h.2.2 c1).1, L_if_eq dEc_firstOf_13 (by decide) ⟨fun c2 => L_iinc dEc_firstOf_18 rfl (by decide) (L_goto dEc_firstOf_21 (by decide) ((h.2.2 c1).2.1 c2)), fun c2 => L_iload_n dEc_firstOf_16 rfl (L_ireturn rfl dEc_firstOf_17 ((h.2.2 c1).2.2 c2))⟩⟩))⟩⟩))
theorem dSp_begin_0 : decode prog_9_method_2_code 0 = .ok (.aload_n 0, 1) := by decide +kernel
theorem dSp_begin_1 : decode prog_9_method_2_code 1 = .ok (.aload_n 1, 1) := by decide +kernel
theorem dSp_begin_2 : decode prog_9_method_2_code 2 = .ok (.getfield 28, 3) := by decide +kernel
theorem dSp_begin_5 : decode prog_9_method_2_code 5 = .ok (.putfield 24, 3) := by decide +kernel
theorem dSp_begin_8 : decode prog_9_method_2_code 8 = .ok (.aload_n 0, 1) := by decide +kernel
theorem dSp_begin_9 : decode prog_9_method_2_code 9 = .ok (.aload_n 1, 1) := by decide +kernel
theorem dSp_begin_10 : decode prog_9_method_2_code 10 = .ok (.getfield 31, 3) := by decide +kernel
theorem dSp_begin_13 : decode prog_9_method_2_code 13 = .ok (.putfield 34, 3) := by decide +kernel
theorem dSp_begin_16 : decode prog_9_method_2_code 16 = .ok (.aload_n 0, 1) := by decide +kernel
theorem dSp_begin_17 : decode prog_9_method_2_code 17 = .ok (.iload_n 2, 1) := by decide +kernel
theorem dSp_begin_18 : decode prog_9_method_2_code 18 = .ok (.putfield 37, 3) := by decide +kernel
theorem dSp_begin_21 : decode prog_9_method_2_code 21 = .ok (.aload_n 0, 1) := by decide +kernel
theorem dSp_begin_22 : decode prog_9_method_2_code 22 = .ok (.iconst (-1), 1) := by decide +kernel
theorem dSp_begin_23 : decode prog_9_method_2_code 23 = .ok (.putfield 40, 3) := by decide +kernel
theorem dSp_begin_26 : decode prog_9_method_2_code 26 = .ok (.return_, 1) := by decide +kernel
theorem t_Sp_begin {d : Nat} {x1 x2 : Int} {σ : SG} {Q : Int → SG → Prop} (h : inI x2 → (obok 10 x1 ∧ (∀ σ1, σ1 = up σ 61 3 (σ x1 1) → obok 10 x1 ∧ (∀ σ2, σ2 = up σ1 61 4 (σ1 x1 2) → (∀ σ3, σ3 = up σ2 61 5 x2 → (∀ σ4, σ4 = up σ3 61 6 (-1) → Q 0 σ4)))))) : Tri (d + 1) M_Sp_begin [vA 61, vA x1, vI x2] σ Q :=
  Tri_intro rfl (Nat.le_of_ble_eq_true rfl) (ls := [vA 61, vA x1, vI x2]) rfl (fun hok => L_aload_n dSp_begin_0 rfl (L_aload_n dSp_begin_1 rfl (L_getf fw_Sp_28 rfl dSp_begin_2 ⟨(h (hok _ (List.mem_of_getElem? (i := 2) rfl))).1, L_putfN fp_Sp_24 rfl rfl (fun _ => ⟨rfl, rfl⟩) dSp_begin_5 ⟨ob_61, fun σ1 e1 => L_aload_n dSp_begin_8 rfl (L_aload_n dSp_begin_9 rfl (L_getf fw_Sp_31 rfl dSp_begin_10 ⟨((h (hok _ (List.mem_of_getElem? (i := 2) rfl))).2 σ1 e1).1, L_putfN fp_Sp_34 rfl rfl (fun _ => ⟨rfl, rfl⟩) dSp_begin_13 ⟨ob_61, fun σ2 e2 => L_aload_n dSp_begin_16 rfl (L_iload_n dSp_begin_17 rfl (L_putfN fp_Sp_37 rfl rfl (fun _ => ⟨rfl, rfl⟩) dSp_begin_18 ⟨ob_61, fun σ3 e3 => L_aload_n dSp_begin_21 rfl (L_iconst dSp_begin_22 in_m1 (L_putfN fp_Sp_40 rfl rfl (fun _ => ⟨rfl, rfl⟩) dSp_begin_23 ⟨ob_61, fun σ4 e4 => L_return rfl dSp_begin_26 (((((h (hok _ (List.mem_of_getElem? (i := 2) rfl))).2 σ1 e1).2 σ2 e2) σ3 e3) σ4 e4)⟩))⟩))⟩⟩))⟩⟩)))
theorem dSp_goOn_0 : decode prog_9_method_3_code 0 = .ok (.aload_n 0, 1) := by decide +kernel
theorem dSp_goOn_1 : decode prog_9_method_3_code 1 = .ok (.getfield 40, 3) := by decide +kernel
theorem dSp_goOn_4 : decode prog_9_method_3_code 4 = .ok (.ifCond .lt 10, 3) := by decide +kernel
theorem dSp_goOn_7 : decode prog_9_method_3_code 7 = .ok (.aload_n 0, 1) := by decide +kernel
theorem dSp_goOn_8 : decode prog_9_method_3_code 8 = .ok (.invokevirtual 43, 3) := by decide +kernel
theorem dSp_goOn_11 : decode prog_9_method_3_code 11 = .ok (.ifCond .ne 10, 3) := by decide +kernel
theorem dSp_goOn_14 : decode prog_9_method_3_code 14 = .ok (.aload_n 0, 1) := by decide +kernel
theorem dSp_goOn_15 : decode prog_9_method_3_code 15 = .ok (.invokevirtual 47, 3) := by decide +kernel
theorem dSp_goOn_18 : decode prog_9_method_3_code 18 = .ok (.ifCond .eq 7, 3) := by decide +kernel
theorem dSp_goOn_21 : decode prog_9_method_3_code 21 = .ok (.iconst 1, 1) := by decide +kernel
theorem dSp_goOn_22 : decode prog_9_method_3_code 22 = .ok (.goto 4, 3) := by decide +kernel
theorem dSp_goOn_25 : decode prog_9_method_3_code 25 = .ok (.iconst 0, 1) := by decide +kernel
theorem dSp_goOn_26 : decode prog_9_method_3_code 26 = .ok (.ireturn, 1) := by decide +kernel
theorem t_Sp_goOn {d : Nat} {σ : SG} {Q : Int → SG → Prop} (h : (σ 61 6 < 0 → Tri d M_Sp_nextLeads [vA 61] σ (fun r2 σ2 => (r2 = 0 → Q 0 σ2) ∧ (r2 ≠ 0 → Q 1 σ2))) ∧ (0 ≤ σ 61 6 → Tri d M_Sp_turnFree [vA 61] σ (fun r4 σ4 => (r4 ≠ 0 → Q 1 σ4) ∧ (r4 = 0 → Tri d M_Sp_nextLeads [vA 61] σ4 (fun r6 σ6 => (r6 = 0 → Q 0 σ6) ∧ (r6 ≠ 0 → Q 1 σ6)))))) : Tri (d + 1) M_Sp_goOn [vA 61] σ Q :=
  Tri_intro rfl (Nat.le_of_ble_eq_true rfl) (ls := [vA 61]) rfl (fun hok => L_aload_n dSp_goOn_0 rfl (L_getf fw_Sp_40 rfl dSp_goOn_1 ⟨ob_61, L_if_lt dSp_goOn_4 (by decide) ⟨fun c1 => L_aload_n dSp_goOn_14 rfl (L_callVI rfl cv_Sp_nextLeads (As := []) rfl (tk5 38 rfl rfl) rfl (Nat.le_of_ble_eq_true rfl) dSp_goOn_15 ⟨ob_61, Tri.mono (h.1 c1) (fun r2 σ2 q2 => L_if_eq dSp_goOn_18 (by decide) ⟨fun c3 => L_iconst dSp_goOn_25 in_0 (L_zreturn0 rfl dSp_goOn_26 (q2.1 c3)), fun c3 => L_iconst dSp_goOn_21 in_1 (L_goto dSp_goOn_22 (by decide) (L_zreturn1 rfl dSp_goOn_26 (q2.2 c3)))⟩)⟩), fun c1 => L_aload_n dSp_goOn_7 rfl (L_callVI rfl cv_Sp_turnFree (As := []) rfl (tk5 34 rfl rfl) rfl (Nat.le_of_ble_eq_true rfl) dSp_goOn_8 ⟨ob_61, Tri.mono (h.2 c1) (fun r4 σ4 q4 => L_if_ne dSp_goOn_11 (by decide) ⟨fun c5 => L_iconst dSp_goOn_21 in_1 (L_goto dSp_goOn_22 (by decide) (L_zreturn1 rfl dSp_goOn_26 (q4.1 c5))), fun c5 => L_aload_n dSp_goOn_14 rfl (L_callVI rfl cv_Sp_nextLeads (As := []) rfl (tk5 38 rfl rfl) rfl (Nat.le_of_ble_eq_true rfl) dSp_goOn_15 ⟨ob_61, Tri.mono (q4.2 c5) (fun r6 σ6 q6 => L_if_eq dSp_goOn_18 (by decide) ⟨fun c7 => L_iconst dSp_goOn_25 in_0 (L_zreturn0 rfl dSp_goOn_26 (q6.1 c7)), fun c7 => L_iconst dSp_goOn_21 in_1 (L_goto dSp_goOn_22 (by decide) (L_zreturn1 rfl dSp_goOn_26 (q6.2 c7)))⟩)⟩)⟩)⟩)⟩⟩))
theorem dSp_turnFree_0 : decode prog_9_method_4_code 0 = .ok (.iconst 0, 1) := by decide +kernel
theorem dSp_turnFree_1 : decode prog_9_method_4_code 1 = .ok (.istore_n 1, 1) := by decide +kernel
theorem dSp_turnFree_2 : decode prog_9_method_4_code 2 = .ok (.iload_n 1, 1) := by decide +kernel
theorem dSp_turnFree_3 : decode prog_9_method_4_code 3 = .ok (.aload_n 0, 1) := by decide +kernel
theorem dSp_turnFree_4 : decode prog_9_method_4_code 4 = .ok (.getfield 50, 3) := by decide +kernel
theorem dSp_turnFree_7 : decode prog_9_method_4_code 7 = .ok (.if_icmp .ge 57, 3) := by decide +kernel
theorem dSp_turnFree_10 : decode prog_9_method_4_code 10 = .ok (.aload_n 0, 1) := by decide +kernel
theorem dSp_turnFree_11 : decode prog_9_method_4_code 11 = .ok (.getfield 20, 3) := by decide +kernel
theorem dSp_turnFree_14 : decode prog_9_method_4_code 14 = .ok (.iload_n 1, 1) := by decide +kernel
theorem dSp_turnFree_15 : decode prog_9_method_4_code 15 = .ok (.iaload, 1) := by decide +kernel
theorem dSp_turnFree_16 : decode prog_9_method_4_code 16 = .ok (.istore_n 2, 1) := by decide +kernel
theorem dSp_turnFree_17 : decode prog_9_method_4_code 17 = .ok (.aload_n 0, 1) := by decide +kernel
theorem dSp_turnFree_18 : decode prog_9_method_4_code 18 = .ok (.getfield 14, 3) := by decide +kernel
theorem dSp_turnFree_21 : decode prog_9_method_4_code 21 = .ok (.getfield 53, 3) := by decide +kernel
theorem dSp_turnFree_24 : decode prog_9_method_4_code 24 = .ok (.iload_n 2, 1) := by decide +kernel
theorem dSp_turnFree_25 : decode prog_9_method_4_code 25 = .ok (.dup2, 1) := by decide +kernel
theorem dSp_turnFree_26 : decode prog_9_method_4_code 26 = .ok (.iaload, 1) := by decide +kernel
theorem dSp_turnFree_27 : decode prog_9_method_4_code 27 = .ok (.iconst 1, 1) := by decide +kernel
theorem dSp_turnFree_28 : decode prog_9_method_4_code 28 = .ok (.iadd, 1) := by decide +kernel
theorem dSp_turnFree_29 : decode prog_9_method_4_code 29 = .ok (.iastore, 1) := by decide +kernel
theorem dSp_turnFree_30 : decode prog_9_method_4_code 30 = .ok (.aload_n 0, 1) := by decide +kernel
theorem dSp_turnFree_31 : decode prog_9_method_4_code 31 = .ok (.getfield 14, 3) := by decide +kernel
theorem dSp_turnFree_34 : decode prog_9_method_4_code 34 = .ok (.getfield 53, 3) := by decide +kernel
theorem dSp_turnFree_37 : decode prog_9_method_4_code 37 = .ok (.iload_n 2, 1) := by decide +kernel
theorem dSp_turnFree_38 : decode prog_9_method_4_code 38 = .ok (.iaload, 1) := by decide +kernel
theorem dSp_turnFree_39 : decode prog_9_method_4_code 39 = .ok (.aload_n 0, 1) := by decide +kernel
theorem dSp_turnFree_40 : decode prog_9_method_4_code 40 = .ok (.getfield 24, 3) := by decide +kernel
theorem dSp_turnFree_43 : decode prog_9_method_4_code 43 = .ok (.if_icmp .ge 5, 3) := by decide +kernel
theorem dSp_turnFree_46 : decode prog_9_method_4_code 46 = .ok (.iconst 1, 1) := by decide +kernel
theorem dSp_turnFree_47 : decode prog_9_method_4_code 47 = .ok (.ireturn, 1) := by decide +kernel
theorem dSp_turnFree_48 : decode prog_9_method_4_code 48 = .ok (.aload_n 0, 1) := by decide +kernel
theorem dSp_turnFree_49 : decode prog_9_method_4_code 49 = .ok (.getfield 14, 3) := by decide +kernel
theorem dSp_turnFree_52 : decode prog_9_method_4_code 52 = .ok (.getfield 53, 3) := by decide +kernel
theorem dSp_turnFree_55 : decode prog_9_method_4_code 55 = .ok (.iload_n 2, 1) := by decide +kernel
theorem dSp_turnFree_56 : decode prog_9_method_4_code 56 = .ok (.iconst 0, 1) := by decide +kernel
theorem dSp_turnFree_57 : decode prog_9_method_4_code 57 = .ok (.iastore, 1) := by decide +kernel
theorem dSp_turnFree_58 : decode prog_9_method_4_code 58 = .ok (.iinc 1 1, 3) := by decide +kernel
theorem dSp_turnFree_61 : decode prog_9_method_4_code 61 = .ok (.goto (-59), 3) := by decide +kernel
theorem dSp_turnFree_64 : decode prog_9_method_4_code 64 = .ok (.iconst 0, 1) := by decide +kernel
theorem dSp_turnFree_65 : decode prog_9_method_4_code 65 = .ok (.ireturn, 1) := by decide +kernel
theorem t_Sp_turnFree {d : Nat} {σ : SG} {Q : Int → SG → Prop} (h : L (d + 1) M_Sp_turnFree 2 [vA 61, vI 0, vU] [] σ Q) : Tri (d + 1) M_Sp_turnFree [vA 61] σ Q :=
  Tri_intro rfl (Nat.le_of_ble_eq_true rfl) (ls := [vA 61, vU, vU]) rfl (fun hok => L_iconst dSp_turnFree_0 in_0 (L_istore_n dSp_turnFree_1 (by decide) (h)))
theorem s_Sp_turnFree_2 {d : Nat} {x1 : Int} {σ : SG} {Q : Int → SG → Prop} (h : (σ 61 2 ≤ x1 → Q 0 σ) ∧ (x1 < σ 61 2 → (0 ≤ x1 ∧ x1 < 25) ∧ (0 ≤ σ 65 x1 ∧ σ 65 x1 < 25) ∧ (0 ≤ σ 65 x1 ∧ σ 65 x1 < 25) ∧ (∀ σ2, σ2 = up σ 63 (σ 65 x1) (w32 ((σ 63 (σ 65 x1)) + 1)) → (0 ≤ σ 65 x1 ∧ σ 65 x1 < 25) ∧ (σ2 61 3 ≤ σ2 63 (σ 65 x1) → (0 ≤ σ 65 x1 ∧ σ 65 x1 < 25) ∧ (∀ σ4, σ4 = up σ2 63 (σ 65 x1) 0 → L (d + 1) M_Sp_turnFree 2 [vA 61, vI (w32 (x1 + 1)), vU] [] σ4 Q)) ∧ (σ2 63 (σ 65 x1) < σ2 61 3 → Q 1 σ2)))) : L (d + 1) M_Sp_turnFree 2 [vA 61, vI x1, vU] [] σ Q :=
  L_iload_n dSp_turnFree_2 rfl (L_aload_n dSp_turnFree_3 rfl (L_getf fw_Sp_50 rfl dSp_turnFree_4 ⟨ob_61, L_icmp_ge dSp_turnFree_7 (by decide) ⟨fun c1 => L_iconst dSp_turnFree_64 in_0 (L_zreturn0 rfl dSp_turnFree_65 (h.1 c1)), fun c1 => L_aload_n dSp_turnFree_10 rfl (L_getF (b := 65) fw_Sp_20 rfl rfl (by decide) dSp_turnFree_11 ⟨ob_61, L_iload_n dSp_turnFree_14 rfl (L_ialoadL kd_65 dSp_turnFree_15 ⟨(h.2 c1).1, L_istore_n dSp_turnFree_16 (by decide) (L_aload_n dSp_turnFree_17 rfl (L_getF (b := 62) fw_Sp_14 rfl rfl (by decide) dSp_turnFree_18 ⟨ob_61, L_getF (b := 63) fw_Sp_53 rfl rfl (by decide) dSp_turnFree_21 ⟨ob_62, L_iload_n dSp_turnFree_24 rfl (L_dup2 dSp_turnFree_25 n01 n21 (L_ialoadL kd_63 dSp_turnFree_26 ⟨(h.2 c1).2.1, L_iconst dSp_turnFree_27 in_1 (L_iadd dSp_turnFree_28 (L_iastoreL (by decide) kd_63 dSp_turnFree_29 ⟨(h.2 c1).2.2.1, fun σ2 e2 => L_aload_n dSp_turnFree_30 rfl (L_getF (b := 62) fw_Sp_14 rfl rfl (by decide) dSp_turnFree_31 ⟨ob_61, L_getF (b := 63) fw_Sp_53 rfl rfl (by decide) dSp_turnFree_34 ⟨ob_62, L_iload_n dSp_turnFree_37 rfl (L_ialoadL kd_63 dSp_turnFree_38 ⟨((h.2 c1).2.2.2 σ2 e2).1, L_aload_n dSp_turnFree_39 rfl (L_getf fw_Sp_24 rfl dSp_turnFree_40 ⟨ob_61, L_icmp_ge dSp_turnFree_43 (by decide) ⟨fun c3 => L_aload_n dSp_turnFree_48 rfl (L_getF (b := 62) fw_Sp_14 rfl rfl (by decide) dSp_turnFree_49 ⟨ob_61, L_getF (b := 63) fw_Sp_53 rfl rfl (by decide) dSp_turnFree_52 ⟨ob_62, L_iload_n dSp_turnFree_55 rfl (L_iconst dSp_turnFree_56 in_0 (L_iastoreL (by decide) kd_63 dSp_turnFree_57 ⟨(((h.2 c1).2.2.2 σ2 e2).2.1 c3).1, fun σ4 e4 => L_iinc dSp_turnFree_58 rfl (by decide) (L_goto dSp_turnFree_61 (by decide) (L_weak [true, true, false] ((((h.2 c1).2.2.2 σ2 e2).2.1 c3).2 σ4 e4)))⟩))⟩⟩), fun c3 => L_iconst dSp_turnFree_46 in_1 (L_zreturn1 rfl dSp_turnFree_47 (((h.2 c1).2.2.2 σ2 e2).2.2 c3))⟩⟩)⟩)⟩⟩)⟩))⟩))⟩⟩))⟩)⟩)⟩⟩))
theorem dSp_nextLeads_0 : decode prog_9_method_5_code 0 = .ok (.aload_n 0, 1) := by decide +kernel
theorem dSp_nextLeads_1 : decode prog_9_method_5_code 1 = .ok (.getfield 40, 3) := by decide +kernel
theorem dSp_nextLeads_4 : decode prog_9_method_5_code 4 = .ok (.iconst 1, 1) := by decide +kernel
theorem dSp_nextLeads_5 : decode prog_9_method_5_code 5 = .ok (.iadd, 1) := by decide +kernel
theorem dSp_nextLeads_6 : decode prog_9_method_5_code 6 = .ok (.istore_n 1, 1) := by decide +kernel
theorem dSp_nextLeads_7 : decode prog_9_method_5_code 7 = .ok (.iload_n 1, 1) := by decide +kernel
theorem dSp_nextLeads_8 : decode prog_9_method_5_code 8 = .ok (.iconst 1, 1) := by decide +kernel
theorem dSp_nextLeads_9 : decode prog_9_method_5_code 9 = .ok (.aload_n 0, 1) := by decide +kernel
theorem dSp_nextLeads_10 : decode prog_9_method_5_code 10 = .ok (.getfield 34, 3) := by decide +kernel
theorem dSp_nextLeads_13 : decode prog_9_method_5_code 13 = .ok (.ishl, 1) := by decide +kernel
theorem dSp_nextLeads_14 : decode prog_9_method_5_code 14 = .ok (.if_icmp .ge 31, 3) := by decide +kernel
theorem dSp_nextLeads_17 : decode prog_9_method_5_code 17 = .ok (.iload_n 1, 1) := by decide +kernel
theorem dSp_nextLeads_18 : decode prog_9_method_5_code 18 = .ok (.invokestatic 56, 3) := by decide +kernel
theorem dSp_nextLeads_21 : decode prog_9_method_5_code 21 = .ok (.aload_n 0, 1) := by decide +kernel
theorem dSp_nextLeads_22 : decode prog_9_method_5_code 22 = .ok (.getfield 37, 3) := by decide +kernel
theorem dSp_nextLeads_25 : decode prog_9_method_5_code 25 = .ok (.if_icmp .ne 14, 3) := by decide +kernel
theorem dSp_nextLeads_28 : decode prog_9_method_5_code 28 = .ok (.aload_n 0, 1) := by decide +kernel
theorem dSp_nextLeads_29 : decode prog_9_method_5_code 29 = .ok (.iload_n 1, 1) := by decide +kernel
theorem dSp_nextLeads_30 : decode prog_9_method_5_code 30 = .ok (.putfield 40, 3) := by decide +kernel
theorem dSp_nextLeads_33 : decode prog_9_method_5_code 33 = .ok (.aload_n 0, 1) := by decide +kernel
theorem dSp_nextLeads_34 : decode prog_9_method_5_code 34 = .ok (.invokevirtual 62, 3) := by decide +kernel
theorem dSp_nextLeads_37 : decode prog_9_method_5_code 37 = .ok (.iconst 1, 1) := by decide +kernel
theorem dSp_nextLeads_38 : decode prog_9_method_5_code 38 = .ok (.ireturn, 1) := by decide +kernel
theorem dSp_nextLeads_39 : decode prog_9_method_5_code 39 = .ok (.iinc 1 1, 3) := by decide +kernel
theorem dSp_nextLeads_42 : decode prog_9_method_5_code 42 = .ok (.goto (-35), 3) := by decide +kernel
theorem dSp_nextLeads_45 : decode prog_9_method_5_code 45 = .ok (.iconst 0, 1) := by decide +kernel
theorem dSp_nextLeads_46 : decode prog_9_method_5_code 46 = .ok (.ireturn, 1) := by decide +kernel
theorem t_Sp_nextLeads {d : Nat} {σ : SG} {Q : Int → SG → Prop} (h : L (d + 1) M_Sp_nextLeads 7 [vA 61, vI (w32 ((σ 61 6) + 1))] [] σ Q) : Tri (d + 1) M_Sp_nextLeads [vA 61] σ Q :=
  Tri_intro rfl (Nat.le_of_ble_eq_true rfl) (ls := [vA 61, vU]) rfl (fun hok => L_aload_n dSp_nextLeads_0 rfl (L_getf fw_Sp_40 rfl dSp_nextLeads_1 ⟨ob_61, L_iconst dSp_nextLeads_4 in_1 (L_iadd dSp_nextLeads_5 (L_istore_n dSp_nextLeads_6 (by decide) (h)))⟩))
theorem s_Sp_nextLeads_7 {d : Nat} {x1 : Int} {σ : SG} {Q : Int → SG → Prop} (h : (shl32 1 (σ 61 4) ≤ x1 → Q 0 σ) ∧ (x1 < shl32 1 (σ 61 4) → Tri d M_JI_bitCount [vI x1] σ (fun r2 σ2 => (r2 ≠ σ2 61 5 → L (d + 1) M_Sp_nextLeads 7 [vA 61, vI (w32 (x1 + 1))] [] σ2 Q) ∧ (r2 = σ2 61 5 → (∀ σ4, σ4 = up σ2 61 6 x1 → Tri d M_Sp_layOut [vA 61] σ4 (fun r5 σ5 => Q 1 σ5)))))) : L (d + 1) M_Sp_nextLeads 7 [vA 61, vI x1] [] σ Q :=
  L_iload_n dSp_nextLeads_7 rfl (L_iconst dSp_nextLeads_8 in_1 (L_aload_n dSp_nextLeads_9 rfl (L_getf fw_Sp_34 rfl dSp_nextLeads_10 ⟨ob_61, L_ishl dSp_nextLeads_13 (L_icmp_ge dSp_nextLeads_14 (by decide) ⟨fun c1 => L_iconst dSp_nextLeads_45 in_0 (L_zreturn0 rfl dSp_nextLeads_46 (h.1 c1)), fun c1 => L_iload_n dSp_nextLeads_17 rfl (L_callSI rfl cs_JI_bitCount (As := [vI x1]) rfl (tk5 42 rfl rfl) rfl (Nat.le_of_ble_eq_true rfl) dSp_nextLeads_18 (Tri.mono (h.2 c1) (fun r2 σ2 q2 => L_aload_n dSp_nextLeads_21 rfl (L_getf fw_Sp_37 rfl dSp_nextLeads_22 ⟨ob_61, L_icmp_ne dSp_nextLeads_25 (by decide) ⟨fun c3 => L_iinc dSp_nextLeads_39 rfl (by decide) (L_goto dSp_nextLeads_42 (by decide) (q2.1 c3)), fun c3 => L_aload_n dSp_nextLeads_28 rfl (L_iload_n dSp_nextLeads_29 rfl (L_putfN fp_Sp_40 rfl rfl (fun _ => ⟨rfl, rfl⟩) dSp_nextLeads_30 ⟨ob_61, fun σ4 e4 => L_aload_n dSp_nextLeads_33 rfl (L_callVV rfl cv_Sp_layOut (As := []) rfl (tk5 48 rfl rfl) rfl (Nat.le_of_ble_eq_true rfl) dSp_nextLeads_34 ⟨ob_61, Tri.mono ((q2.2 c3) σ4 e4) (fun r5 σ5 q5 => L_iconst dSp_nextLeads_37 in_1 (L_zreturn1 rfl dSp_nextLeads_38 q5))⟩)⟩))⟩⟩))))⟩)⟩)))
theorem dSp_layOut_0 : decode prog_9_method_6_code 0 = .ok (.aload_n 0, 1) := by decide +kernel
theorem dSp_layOut_1 : decode prog_9_method_6_code 1 = .ok (.getfield 14, 3) := by decide +kernel
theorem dSp_layOut_4 : decode prog_9_method_6_code 4 = .ok (.aload_n 0, 1) := by decide +kernel
theorem dSp_layOut_5 : decode prog_9_method_6_code 5 = .ok (.getfield 24, 3) := by decide +kernel
theorem dSp_layOut_8 : decode prog_9_method_6_code 8 = .ok (.aload_n 0, 1) := by decide +kernel
theorem dSp_layOut_9 : decode prog_9_method_6_code 9 = .ok (.getfield 34, 3) := by decide +kernel
theorem dSp_layOut_12 : decode prog_9_method_6_code 12 = .ok (.invokevirtual 65, 3) := by decide +kernel
theorem dSp_layOut_15 : decode prog_9_method_6_code 15 = .ok (.aload_n 0, 1) := by decide +kernel
theorem dSp_layOut_16 : decode prog_9_method_6_code 16 = .ok (.iconst 0, 1) := by decide +kernel
theorem dSp_layOut_17 : decode prog_9_method_6_code 17 = .ok (.putfield 50, 3) := by decide +kernel
theorem dSp_layOut_20 : decode prog_9_method_6_code 20 = .ok (.iconst 0, 1) := by decide +kernel
theorem dSp_layOut_21 : decode prog_9_method_6_code 21 = .ok (.istore_n 1, 1) := by decide +kernel
theorem dSp_layOut_22 : decode prog_9_method_6_code 22 = .ok (.iload_n 1, 1) := by decide +kernel
theorem dSp_layOut_23 : decode prog_9_method_6_code 23 = .ok (.aload_n 0, 1) := by decide +kernel
theorem dSp_layOut_24 : decode prog_9_method_6_code 24 = .ok (.getfield 34, 3) := by decide +kernel
theorem dSp_layOut_27 : decode prog_9_method_6_code 27 = .ok (.if_icmp .ge 48, 3) := by decide +kernel
theorem dSp_layOut_30 : decode prog_9_method_6_code 30 = .ok (.aload_n 0, 1) := by decide +kernel
theorem dSp_layOut_31 : decode prog_9_method_6_code 31 = .ok (.getfield 40, 3) := by decide +kernel
theorem dSp_layOut_34 : decode prog_9_method_6_code 34 = .ok (.iload_n 1, 1) := by decide +kernel
theorem dSp_layOut_35 : decode prog_9_method_6_code 35 = .ok (.ishr, 1) := by decide +kernel
theorem dSp_layOut_36 : decode prog_9_method_6_code 36 = .ok (.iconst 1, 1) := by decide +kernel
theorem dSp_layOut_37 : decode prog_9_method_6_code 37 = .ok (.iand, 1) := by decide +kernel
theorem dSp_layOut_38 : decode prog_9_method_6_code 38 = .ok (.ifCond .eq 31, 3) := by decide +kernel
theorem dSp_layOut_41 : decode prog_9_method_6_code 41 = .ok (.getstatic 69, 3) := by decide +kernel
theorem dSp_layOut_44 : decode prog_9_method_6_code 44 = .ok (.iload_n 1, 1) := by decide +kernel
theorem dSp_layOut_45 : decode prog_9_method_6_code 45 = .ok (.iconst 5, 1) := by decide +kernel
theorem dSp_layOut_46 : decode prog_9_method_6_code 46 = .ok (.imul, 1) := by decide +kernel
theorem dSp_layOut_47 : decode prog_9_method_6_code 47 = .ok (.aload_n 0, 1) := by decide +kernel
theorem dSp_layOut_48 : decode prog_9_method_6_code 48 = .ok (.getfield 14, 3) := by decide +kernel
theorem dSp_layOut_51 : decode prog_9_method_6_code 51 = .ok (.getfield 53, 3) := by decide +kernel
theorem dSp_layOut_54 : decode prog_9_method_6_code 54 = .ok (.iload_n 1, 1) := by decide +kernel
theorem dSp_layOut_55 : decode prog_9_method_6_code 55 = .ok (.iconst 5, 1) := by decide +kernel
theorem dSp_layOut_56 : decode prog_9_method_6_code 56 = .ok (.imul, 1) := by decide +kernel
theorem dSp_layOut_57 : decode prog_9_method_6_code 57 = .ok (.aload_n 0, 1) := by decide +kernel
theorem dSp_layOut_58 : decode prog_9_method_6_code 58 = .ok (.getfield 34, 3) := by decide +kernel
theorem dSp_layOut_61 : decode prog_9_method_6_code 61 = .ok (.invokestatic 72, 3) := by decide +kernel
theorem dSp_layOut_64 : decode prog_9_method_6_code 64 = .ok (.aload_n 0, 1) := by decide +kernel
theorem dSp_layOut_65 : decode prog_9_method_6_code 65 = .ok (.iload_n 1, 1) := by decide +kernel
theorem dSp_layOut_66 : decode prog_9_method_6_code 66 = .ok (.invokevirtual 78, 3) := by decide +kernel
theorem dSp_layOut_69 : decode prog_9_method_6_code 69 = .ok (.iinc 1 1, 3) := by decide +kernel
theorem dSp_layOut_72 : decode prog_9_method_6_code 72 = .ok (.goto (-50), 3) := by decide +kernel
theorem dSp_layOut_75 : decode prog_9_method_6_code 75 = .ok (.aload_n 0, 1) := by decide +kernel
theorem dSp_layOut_76 : decode prog_9_method_6_code 76 = .ok (.getfield 14, 3) := by decide +kernel
theorem dSp_layOut_79 : decode prog_9_method_6_code 79 = .ok (.aload_n 0, 1) := by decide +kernel
theorem dSp_layOut_80 : decode prog_9_method_6_code 80 = .ok (.getfield 40, 3) := by decide +kernel
theorem dSp_layOut_83 : decode prog_9_method_6_code 83 = .ok (.putfield 81, 3) := by decide +kernel
theorem dSp_layOut_86 : decode prog_9_method_6_code 86 = .ok (.aload_n 0, 1) := by decide +kernel
theorem dSp_layOut_87 : decode prog_9_method_6_code 87 = .ok (.getfield 14, 3) := by decide +kernel
theorem dSp_layOut_90 : decode prog_9_method_6_code 90 = .ok (.aload_n 0, 1) := by decide +kernel
theorem dSp_layOut_91 : decode prog_9_method_6_code 91 = .ok (.getfield 37, 3) := by decide +kernel
theorem dSp_layOut_94 : decode prog_9_method_6_code 94 = .ok (.putfield 82, 3) := by decide +kernel
theorem dSp_layOut_97 : decode prog_9_method_6_code 97 = .ok (.return_, 1) := by decide +kernel
theorem t_Sp_layOut {d : Nat} {σ : SG} {Q : Int → SG → Prop} (h : Tri d M_Ec_begin [vA 62, vI (σ 61 3), vI (σ 61 4)] σ (fun r1 σ1 => (∀ σ2, σ2 = up σ1 61 2 0 → L (d + 1) M_Sp_layOut 22 [vA 61, vI 0] [] σ2 Q))) : Tri (d + 1) M_Sp_layOut [vA 61] σ Q :=
  Tri_intro rfl (Nat.le_of_ble_eq_true rfl) (ls := [vA 61, vU]) rfl (fun hok => L_aload_n dSp_layOut_0 rfl (L_getF (b := 62) fw_Sp_14 rfl rfl (by decide) dSp_layOut_1 ⟨ob_61, L_aload_n dSp_layOut_4 rfl (L_getf fw_Sp_24 rfl dSp_layOut_5 ⟨ob_61, L_aload_n dSp_layOut_8 rfl (L_getf fw_Sp_34 rfl dSp_layOut_9 ⟨ob_61, L_callVV rfl cv_Ec_begin (As := [vI (σ 61 3), vI (σ 61 4)]) rfl (tk5 52 rfl rfl) rfl (Nat.le_of_ble_eq_true rfl) dSp_layOut_12 ⟨ob_62, Tri.mono (h) (fun r1 σ1 q1 => L_aload_n dSp_layOut_15 rfl (L_iconst dSp_layOut_16 in_0 (L_putfN fp_Sp_50 rfl rfl (fun _ => ⟨rfl, rfl⟩) dSp_layOut_17 ⟨ob_61, fun σ2 e2 => L_iconst dSp_layOut_20 in_0 (L_istore_n dSp_layOut_21 (by decide) (q1 σ2 e2))⟩)))⟩⟩)⟩)⟩))
theorem s_Sp_layOut_22 {d : Nat} {x1 : Int} {σ : SG} {Q : Int → SG → Prop} (h : (σ 61 4 ≤ x1 → (∀ σ2, σ2 = up σ 62 6 (σ 61 6) → (∀ σ3, σ3 = up σ2 62 5 (σ2 61 5) → Q 0 σ3))) ∧ (x1 < σ 61 4 → (and32 (shr32 (σ 61 6) x1) 1 = 0 → L (d + 1) M_Sp_layOut 22 [vA 61, vI (w32 (x1 + 1))] [] σ Q) ∧ (and32 (shr32 (σ 61 6) x1) 1 ≠ 0 → ((0 : Int) ≤ 63 ∧ (kd 63).1 = 100 ∧ (kd (-2)).1 = 100 ∧ (0 : Int) ≤ w32 (x1 * 5) ∧ (0 : Int) ≤ w32 (x1 * 5) ∧ (0 : Int) ≤ σ 61 4 ∧ (w32 (x1 * 5)) + (σ 61 4) ≤ ((kd (-2)).2 : Int) ∧ (w32 (x1 * 5)) + (σ 61 4) ≤ ((kd 63).2 : Int)) ∧ (∀ σ5, σ5 = cpy σ (-2) (w32 (x1 * 5)) 63 (w32 (x1 * 5)) (σ 61 4) → Tri d M_Sp_noteFree [vA 61, vI x1] σ5 (fun r6 σ6 => L (d + 1) M_Sp_layOut 22 [vA 61, vI (w32 (x1 + 1))] [] σ6 Q))))) : L (d + 1) M_Sp_layOut 22 [vA 61, vI x1] [] σ Q :=
  L_iload_n dSp_layOut_22 rfl (L_aload_n dSp_layOut_23 rfl (L_getf fw_Sp_34 rfl dSp_layOut_24 ⟨ob_61, L_icmp_ge dSp_layOut_27 (by decide) ⟨fun c1 => L_aload_n dSp_layOut_75 rfl (L_getF (b := 62) fw_Sp_14 rfl rfl (by decide) dSp_layOut_76 ⟨ob_61, L_aload_n dSp_layOut_79 rfl (L_getf fw_Sp_40 rfl dSp_layOut_80 ⟨ob_61, L_putfN fp_Sp_81 rfl rfl (fun _ => ⟨rfl, rfl⟩) dSp_layOut_83 ⟨ob_62, fun σ2 e2 => L_aload_n dSp_layOut_86 rfl (L_getF (b := 62) fw_Sp_14 rfl rfl (by decide) dSp_layOut_87 ⟨ob_61, L_aload_n dSp_layOut_90 rfl (L_getf fw_Sp_37 rfl dSp_layOut_91 ⟨ob_61, L_putfN fp_Sp_82 rfl rfl (fun _ => ⟨rfl, rfl⟩) dSp_layOut_94 ⟨ob_62, fun σ3 e3 => L_return rfl dSp_layOut_97 (((h.1 c1) σ2 e2) σ3 e3)⟩⟩)⟩)⟩⟩)⟩), fun c1 => L_aload_n dSp_layOut_30 rfl (L_getf fw_Sp_40 rfl dSp_layOut_31 ⟨ob_61, L_iload_n dSp_layOut_34 rfl (L_ishr dSp_layOut_35 (L_iconst dSp_layOut_36 in_1 (L_iand dSp_layOut_37 (L_if_eq dSp_layOut_38 (by decide) ⟨fun c4 => L_iinc dSp_layOut_69 rfl (by decide) (L_goto dSp_layOut_72 (by decide) ((h.2 c1).1 c4)), fun c4 => L_units (by decide +kernel) dSp_layOut_41 (L_iload_n dSp_layOut_44 rfl (L_iconst dSp_layOut_45 in_5 (L_imul dSp_layOut_46 (L_aload_n dSp_layOut_47 rfl (L_getF (b := 62) fw_Sp_14 rfl rfl (by decide) dSp_layOut_48 ⟨ob_61, L_getF (b := 63) fw_Sp_53 rfl rfl (by decide) dSp_layOut_51 ⟨ob_62, L_iload_n dSp_layOut_54 rfl (L_iconst dSp_layOut_55 in_5 (L_imul dSp_layOut_56 (L_aload_n dSp_layOut_57 rfl (L_getf fw_Sp_34 rfl dSp_layOut_58 ⟨ob_61, L_copyIN (tk5 54 rfl rfl) (Nat.le_of_ble_eq_true rfl) dSp_layOut_61 ⟨((h.2 c1).2 c4).1, fun σ5 e5 => L_aload_n dSp_layOut_64 rfl (L_iload_n dSp_layOut_65 rfl (L_callVV rfl cv_Sp_noteFree (As := [vI x1]) rfl (tk5 55 rfl rfl) rfl (Nat.le_of_ble_eq_true rfl) dSp_layOut_66 ⟨ob_61, Tri.mono (((h.2 c1).2 c4).2 σ5 e5) (fun r6 σ6 q6 => L_iinc dSp_layOut_69 rfl (by decide) (L_goto dSp_layOut_72 (by decide) q6))⟩))⟩⟩))))⟩⟩)))))⟩))))⟩)⟩⟩))
theorem dSp_noteFree_0 : decode prog_9_method_7_code 0 = .ok (.iload_n 1, 1) := by decide +kernel
theorem dSp_noteFree_1 : decode prog_9_method_7_code 1 = .ok (.iconst 1, 1) := by decide +kernel
theorem dSp_noteFree_2 : decode prog_9_method_7_code 2 = .ok (.iadd, 1) := by decide +kernel
theorem dSp_noteFree_3 : decode prog_9_method_7_code 3 = .ok (.istore_n 2, 1) := by decide +kernel
theorem dSp_noteFree_4 : decode prog_9_method_7_code 4 = .ok (.iload_n 2, 1) := by decide +kernel
theorem dSp_noteFree_5 : decode prog_9_method_7_code 5 = .ok (.aload_n 0, 1) := by decide +kernel
theorem dSp_noteFree_6 : decode prog_9_method_7_code 6 = .ok (.getfield 34, 3) := by decide +kernel
theorem dSp_noteFree_9 : decode prog_9_method_7_code 9 = .ok (.if_icmp .ge 44, 3) := by decide +kernel
theorem dSp_noteFree_12 : decode prog_9_method_7_code 12 = .ok (.aload_n 0, 1) := by decide +kernel
theorem dSp_noteFree_13 : decode prog_9_method_7_code 13 = .ok (.getfield 40, 3) := by decide +kernel
theorem dSp_noteFree_16 : decode prog_9_method_7_code 16 = .ok (.iload_n 2, 1) := by decide +kernel
theorem dSp_noteFree_17 : decode prog_9_method_7_code 17 = .ok (.ishr, 1) := by decide +kernel
theorem dSp_noteFree_18 : decode prog_9_method_7_code 18 = .ok (.iconst 1, 1) := by decide +kernel
theorem dSp_noteFree_19 : decode prog_9_method_7_code 19 = .ok (.iand, 1) := by decide +kernel
theorem dSp_noteFree_20 : decode prog_9_method_7_code 20 = .ok (.ifCond .ne 27, 3) := by decide +kernel
theorem dSp_noteFree_23 : decode prog_9_method_7_code 23 = .ok (.aload_n 0, 1) := by decide +kernel
theorem dSp_noteFree_24 : decode prog_9_method_7_code 24 = .ok (.getfield 20, 3) := by decide +kernel
theorem dSp_noteFree_27 : decode prog_9_method_7_code 27 = .ok (.aload_n 0, 1) := by decide +kernel
theorem dSp_noteFree_28 : decode prog_9_method_7_code 28 = .ok (.getfield 50, 3) := by decide +kernel
theorem dSp_noteFree_31 : decode prog_9_method_7_code 31 = .ok (.iload_n 1, 1) := by decide +kernel
theorem dSp_noteFree_32 : decode prog_9_method_7_code 32 = .ok (.iconst 5, 1) := by decide +kernel
theorem dSp_noteFree_33 : decode prog_9_method_7_code 33 = .ok (.imul, 1) := by decide +kernel
theorem dSp_noteFree_34 : decode prog_9_method_7_code 34 = .ok (.iload_n 2, 1) := by decide +kernel
theorem dSp_noteFree_35 : decode prog_9_method_7_code 35 = .ok (.iadd, 1) := by decide +kernel
theorem dSp_noteFree_36 : decode prog_9_method_7_code 36 = .ok (.iastore, 1) := by decide +kernel
theorem dSp_noteFree_37 : decode prog_9_method_7_code 37 = .ok (.aload_n 0, 1) := by decide +kernel
theorem dSp_noteFree_38 : decode prog_9_method_7_code 38 = .ok (.dup, 1) := by decide +kernel
theorem dSp_noteFree_39 : decode prog_9_method_7_code 39 = .ok (.getfield 50, 3) := by decide +kernel
theorem dSp_noteFree_42 : decode prog_9_method_7_code 42 = .ok (.iconst 1, 1) := by decide +kernel
theorem dSp_noteFree_43 : decode prog_9_method_7_code 43 = .ok (.iadd, 1) := by decide +kernel
theorem dSp_noteFree_44 : decode prog_9_method_7_code 44 = .ok (.putfield 50, 3) := by decide +kernel
theorem dSp_noteFree_47 : decode prog_9_method_7_code 47 = .ok (.iinc 2 1, 3) := by decide +kernel
theorem dSp_noteFree_50 : decode prog_9_method_7_code 50 = .ok (.goto (-46), 3) := by decide +kernel
theorem dSp_noteFree_53 : decode prog_9_method_7_code 53 = .ok (.return_, 1) := by decide +kernel
theorem t_Sp_noteFree {d : Nat} {x1 : Int} {σ : SG} {Q : Int → SG → Prop} (h : inI x1 → (L (d + 1) M_Sp_noteFree 4 [vA 61, vI x1, vI (w32 (x1 + 1))] [] σ Q)) : Tri (d + 1) M_Sp_noteFree [vA 61, vI x1] σ Q :=
  Tri_intro rfl (Nat.le_of_ble_eq_true rfl) (ls := [vA 61, vI x1, vU]) rfl (fun hok => L_iload_n dSp_noteFree_0 rfl (L_iconst dSp_noteFree_1 in_1 (L_iadd dSp_noteFree_2 (L_istore_n dSp_noteFree_3 (by decide) ((h (hok _ (List.mem_of_getElem? (i := 1) rfl))))))))
theorem s_Sp_noteFree_4 {d : Nat} {x1 x2 : Int} {σ : SG} {Q : Int → SG → Prop} (h : (σ 61 4 ≤ x2 → Q 0 σ) ∧ (x2 < σ 61 4 → (and32 (shr32 (σ 61 6) x2) 1 ≠ 0 → L (d + 1) M_Sp_noteFree 4 [vA 61, vI x1, vI (w32 (x2 + 1))] [] σ Q) ∧ (and32 (shr32 (σ 61 6) x2) 1 = 0 → (0 ≤ σ 61 2 ∧ σ 61 2 < 25) ∧ (∀ σ3, σ3 = up σ 65 (σ 61 2) (w32 ((w32 (x1 * 5)) + x2)) → (∀ σ4, σ4 = up σ3 61 2 (w32 ((σ3 61 2) + 1)) → L (d + 1) M_Sp_noteFree 4 [vA 61, vI x1, vI (w32 (x2 + 1))] [] σ4 Q))))) : L (d + 1) M_Sp_noteFree 4 [vA 61, vI x1, vI x2] [] σ Q :=
  L_iload_n dSp_noteFree_4 rfl (L_aload_n dSp_noteFree_5 rfl (L_getf fw_Sp_34 rfl dSp_noteFree_6 ⟨ob_61, L_icmp_ge dSp_noteFree_9 (by decide) ⟨fun c1 => L_return rfl dSp_noteFree_53 (h.1 c1), fun c1 => L_aload_n dSp_noteFree_12 rfl (L_getf fw_Sp_40 rfl dSp_noteFree_13 ⟨ob_61, L_iload_n dSp_noteFree_16 rfl (L_ishr dSp_noteFree_17 (L_iconst dSp_noteFree_18 in_1 (L_iand dSp_noteFree_19 (L_if_ne dSp_noteFree_20 (by decide) ⟨fun c2 => L_iinc dSp_noteFree_47 rfl (by decide) (L_goto dSp_noteFree_50 (by decide) ((h.2 c1).1 c2)), fun c2 => L_aload_n dSp_noteFree_23 rfl (L_getF (b := 65) fw_Sp_20 rfl rfl (by decide) dSp_noteFree_24 ⟨ob_61, L_aload_n dSp_noteFree_27 rfl (L_getf fw_Sp_50 rfl dSp_noteFree_28 ⟨ob_61, L_iload_n dSp_noteFree_31 rfl (L_iconst dSp_noteFree_32 in_5 (L_imul dSp_noteFree_33 (L_iload_n dSp_noteFree_34 rfl (L_iadd dSp_noteFree_35 (L_iastoreL (by decide) kd_65 dSp_noteFree_36 ⟨((h.2 c1).2 c2).1, fun σ3 e3 => L_aload_n dSp_noteFree_37 rfl (L_dup dSp_noteFree_38 n21 (L_getf fw_Sp_50 rfl dSp_noteFree_39 ⟨ob_61, L_iconst dSp_noteFree_42 in_1 (L_iadd dSp_noteFree_43 (L_putfN fp_Sp_50 rfl rfl (fun _ => ⟨rfl, rfl⟩) dSp_noteFree_44 ⟨ob_61, fun σ4 e4 => L_iinc dSp_noteFree_47 rfl (by decide) (L_goto dSp_noteFree_50 (by decide) ((((h.2 c1).2 c2).2 σ3 e3) σ4 e4))⟩))⟩))⟩)))))⟩)⟩)⟩))))⟩)⟩⟩))
