theorem dR_status_0 : decode prog_14_method_3_code 0 = .ok (.aload_n 0, 1) := by decide +kernel
theorem dR_status_1 : decode prog_14_method_3_code 1 = .ok (.iconst 0, 1) := by decide +kernel
theorem dR_status_2 : decode prog_14_method_3_code 2 = .ok (.putfield 132, 3) := by decide +kernel
theorem dR_status_5 : decode prog_14_method_3_code 5 = .ok (.aload_n 0, 1) := by decide +kernel
theorem dR_status_6 : decode prog_14_method_3_code 6 = .ok (.getfield 135, 3) := by decide +kernel
theorem dR_status_9 : decode prog_14_method_3_code 9 = .ok (.ireturn, 1) := by decide +kernel
theorem t_R_status {d : Nat} {σ : SG} {Q : Int → SG → Prop} (h : (∀ σ1, σ1 = up σ 161 1 0 → Q (σ1 161 0) σ1)) : Tri (d + 1) M_R_status [vA 161] σ Q :=
  Tri_intro rfl (Nat.le_of_ble_eq_true rfl) (ls := [vA 161]) rfl (fun hok => L_aload_n dR_status_0 rfl (L_iconst dR_status_1 in_0 (L_putfN fp_R_132 rfl rfl (fun _ => ⟨rfl, rfl⟩) dR_status_2 ⟨ob_161, fun σ1 e1 => L_aload_n dR_status_5 rfl (L_getf fw_R_135 rfl dR_status_6 ⟨ob_161, L_ireturn rfl dR_status_9 (h σ1 e1)⟩)⟩)))
theorem dR_top_0 : decode prog_14_method_4_code 0 = .ok (.aload_n 0, 1) := by decide +kernel
theorem dR_top_1 : decode prog_14_method_4_code 1 = .ok (.iconst 0, 1) := by decide +kernel
theorem dR_top_2 : decode prog_14_method_4_code 2 = .ok (.putfield 132, 3) := by decide +kernel
theorem dR_top_5 : decode prog_14_method_4_code 5 = .ok (.aload_n 0, 1) := by decide +kernel
theorem dR_top_6 : decode prog_14_method_4_code 6 = .ok (.getfield 138, 3) := by decide +kernel
theorem dR_top_9 : decode prog_14_method_4_code 9 = .ok (.lreturn, 1) := by decide +kernel
theorem t_R_top {d : Nat} {σ : SG} {Q : Int → SG → Prop} (h : (∀ σ1, σ1 = up σ 161 1 0 → Q (σ1 161 2) σ1)) : Tri (d + 1) M_R_top [vA 161] σ Q :=
  Tri_intro rfl (Nat.le_of_ble_eq_true rfl) (ls := [vA 161]) rfl (fun hok => L_aload_n dR_top_0 rfl (L_iconst dR_top_1 in_0 (L_putfN fp_R_132 rfl rfl (fun _ => ⟨rfl, rfl⟩) dR_top_2 ⟨ob_161, fun σ1 e1 => L_aload_n dR_top_5 rfl (L_getf fw_R_138 rfl dR_top_6 ⟨ob_161, L_lreturn rfl dR_top_9 (h σ1 e1)⟩)⟩)))
theorem dR_bottom_0 : decode prog_14_method_5_code 0 = .ok (.aload_n 0, 1) := by decide +kernel
theorem dR_bottom_1 : decode prog_14_method_5_code 1 = .ok (.iconst 0, 1) := by decide +kernel
theorem dR_bottom_2 : decode prog_14_method_5_code 2 = .ok (.putfield 132, 3) := by decide +kernel
theorem dR_bottom_5 : decode prog_14_method_5_code 5 = .ok (.aload_n 0, 1) := by decide +kernel
theorem dR_bottom_6 : decode prog_14_method_5_code 6 = .ok (.getfield 7, 3) := by decide +kernel
theorem dR_bottom_9 : decode prog_14_method_5_code 9 = .ok (.lreturn, 1) := by decide +kernel
theorem t_R_bottom {d : Nat} {σ : SG} {Q : Int → SG → Prop} (h : (∀ σ1, σ1 = up σ 161 1 0 → Q (σ1 161 3) σ1)) : Tri (d + 1) M_R_bottom [vA 161] σ Q :=
  Tri_intro rfl (Nat.le_of_ble_eq_true rfl) (ls := [vA 161]) rfl (fun hok => L_aload_n dR_bottom_0 rfl (L_iconst dR_bottom_1 in_0 (L_putfN fp_R_132 rfl rfl (fun _ => ⟨rfl, rfl⟩) dR_bottom_2 ⟨ob_161, fun σ1 e1 => L_aload_n dR_bottom_5 rfl (L_getf fw_R_7 rfl dR_bottom_6 ⟨ob_161, L_lreturn rfl dR_bottom_9 (h σ1 e1)⟩)⟩)))
theorem dR_refuse_0 : decode prog_14_method_6_code 0 = .ok (.aload_n 0, 1) := by decide +kernel
theorem dR_refuse_1 : decode prog_14_method_6_code 1 = .ok (.iload_n 1, 1) := by decide +kernel
theorem dR_refuse_2 : decode prog_14_method_6_code 2 = .ok (.putfield 135, 3) := by decide +kernel
theorem dR_refuse_5 : decode prog_14_method_6_code 5 = .ok (.iconst (-1), 1) := by decide +kernel
theorem dR_refuse_6 : decode prog_14_method_6_code 6 = .ok (.ireturn, 1) := by decide +kernel
theorem t_R_refuse {d : Nat} {x1 : Int} {σ : SG} {Q : Int → SG → Prop} (h : inI x1 → ((∀ σ1, σ1 = up σ 161 0 x1 → Q (-1) σ1))) : Tri (d + 1) M_R_refuse [vA 161, vI x1] σ Q :=
  Tri_intro rfl (Nat.le_of_ble_eq_true rfl) (ls := [vA 161, vI x1]) rfl (fun hok => L_aload_n dR_refuse_0 rfl (L_iload_n dR_refuse_1 rfl (L_putfN fp_R_135 rfl rfl (fun _ => ⟨rfl, rfl⟩) dR_refuse_2 ⟨ob_161, fun σ1 e1 => L_iconst dR_refuse_5 in_m1 (L_ireturn rfl dR_refuse_6 ((h (hok _ (List.mem_of_getElem? (i := 1) rfl))) σ1 e1))⟩)))
theorem dR_no_0 : decode prog_14_method_7_code 0 = .ok (.aload_n 0, 1) := by decide +kernel
theorem dR_no_1 : decode prog_14_method_7_code 1 = .ok (.iload_n 1, 1) := by decide +kernel
theorem dR_no_2 : decode prog_14_method_7_code 2 = .ok (.putfield 135, 3) := by decide +kernel
theorem dR_no_5 : decode prog_14_method_7_code 5 = .ok (.iconst 0, 1) := by decide +kernel
theorem dR_no_6 : decode prog_14_method_7_code 6 = .ok (.ireturn, 1) := by decide +kernel
theorem t_R_no {d : Nat} {x1 : Int} {σ : SG} {Q : Int → SG → Prop} (h : inI x1 → ((∀ σ1, σ1 = up σ 161 0 x1 → Q 0 σ1))) : Tri (d + 1) M_R_no [vA 161, vI x1] σ Q :=
  Tri_intro rfl (Nat.le_of_ble_eq_true rfl) (ls := [vA 161, vI x1]) rfl (fun hok => L_aload_n dR_no_0 rfl (L_iload_n dR_no_1 rfl (L_putfN fp_R_135 rfl rfl (fun _ => ⟨rfl, rfl⟩) dR_no_2 ⟨ob_161, fun σ1 e1 => L_iconst dR_no_5 in_0 (L_zreturn0 rfl dR_no_6 ((h (hok _ (List.mem_of_getElem? (i := 1) rfl))) σ1 e1))⟩)))
theorem dR_isIn_0 : decode prog_14_method_8_code 0 = .ok (.lload_n 0, 1) := by decide +kernel
theorem dR_isIn_1 : decode prog_14_method_8_code 1 = .ok (.lload_n 2, 1) := by decide +kernel
theorem dR_isIn_2 : decode prog_14_method_8_code 2 = .ok (.lcmp, 1) := by decide +kernel
theorem dR_isIn_3 : decode prog_14_method_8_code 3 = .ok (.ifCond .lt 14, 3) := by decide +kernel
theorem dR_isIn_6 : decode prog_14_method_8_code 6 = .ok (.lload_n 0, 1) := by decide +kernel
theorem dR_isIn_7 : decode prog_14_method_8_code 7 = .ok (.lload 4, 2) := by decide +kernel
theorem dR_isIn_9 : decode prog_14_method_8_code 9 = .ok (.lcmp, 1) := by decide +kernel
theorem dR_isIn_10 : decode prog_14_method_8_code 10 = .ok (.ifCond .gt 7, 3) := by decide +kernel
theorem dR_isIn_13 : decode prog_14_method_8_code 13 = .ok (.iconst 1, 1) := by decide +kernel
theorem dR_isIn_14 : decode prog_14_method_8_code 14 = .ok (.goto 4, 3) := by decide +kernel
theorem dR_isIn_17 : decode prog_14_method_8_code 17 = .ok (.iconst 0, 1) := by decide +kernel
theorem dR_isIn_18 : decode prog_14_method_8_code 18 = .ok (.ireturn, 1) := by decide +kernel
theorem t_R_isIn {d : Nat} {x0 x2 x4 : Int} {σ : SG} {Q : Int → SG → Prop} (h : inJ x0 → inJ x2 → inJ x4 → ((cmp3 x0 x2 < 0 → Q 0 σ) ∧ (0 ≤ cmp3 x0 x2 → (0 < cmp3 x0 x4 → Q 0 σ) ∧ (cmp3 x0 x4 ≤ 0 → Q 1 σ)))) : Tri (d + 1) M_R_isIn [vJ x0, vJ x2, vJ x4] σ Q :=
  Tri_intro rfl (Nat.le_of_ble_eq_true rfl) (ls := [vJ x0, vU, vJ x2, vU, vJ x4, vU]) rfl (fun hok => L_lload_n dR_isIn_0 rfl (L_lload_n dR_isIn_1 rfl (L_lcmp dR_isIn_2 (L_if_lt dR_isIn_3 (by decide) ⟨fun c1 => L_iconst dR_isIn_17 in_0 (L_zreturn0 rfl dR_isIn_18 ((h (hok _ (List.mem_of_getElem? (i := 0) rfl)) (hok _ (List.mem_of_getElem? (i := 1) rfl)) (hok _ (List.mem_of_getElem? (i := 2) rfl))).1 c1)), fun c1 => L_lload_n dR_isIn_6 rfl (L_lload dR_isIn_7 rfl (L_lcmp dR_isIn_9 (L_if_gt dR_isIn_10 (by decide) ⟨fun c2 => L_iconst dR_isIn_17 in_0 (L_zreturn0 rfl dR_isIn_18 (((h (hok _ (List.mem_of_getElem? (i := 0) rfl)) (hok _ (List.mem_of_getElem? (i := 1) rfl)) (hok _ (List.mem_of_getElem? (i := 2) rfl))).2 c1).1 c2)), fun c2 => L_iconst dR_isIn_13 in_1 (L_goto dR_isIn_14 (by decide) (L_zreturn1 rfl dR_isIn_18 (((h (hok _ (List.mem_of_getElem? (i := 0) rfl)) (hok _ (List.mem_of_getElem? (i := 1) rfl)) (hok _ (List.mem_of_getElem? (i := 2) rfl))).2 c1).2 c2)))⟩)))⟩))))
theorem dR_fraction_0 : decode prog_14_method_9_code 0 = .ok (.lload_n 1, 1) := by decide +kernel
theorem dR_fraction_1 : decode prog_14_method_9_code 1 = .ok (.invokestatic 141, 3) := by decide +kernel
theorem dR_fraction_4 : decode prog_14_method_9_code 4 = .ok (.lstore 5, 2) := by decide +kernel
theorem dR_fraction_6 : decode prog_14_method_9_code 6 = .ok (.lload_n 3, 1) := by decide +kernel
theorem dR_fraction_7 : decode prog_14_method_9_code 7 = .ok (.lstore 7, 2) := by decide +kernel
theorem dR_fraction_9 : decode prog_14_method_9_code 9 = .ok (.lload 7, 2) := by decide +kernel
theorem dR_fraction_11 : decode prog_14_method_9_code 11 = .ok (.lconst 0, 1) := by decide +kernel
theorem dR_fraction_12 : decode prog_14_method_9_code 12 = .ok (.lcmp, 1) := by decide +kernel
theorem dR_fraction_13 : decode prog_14_method_9_code 13 = .ok (.ifCond .eq 21, 3) := by decide +kernel
theorem dR_fraction_16 : decode prog_14_method_9_code 16 = .ok (.lload 5, 2) := by decide +kernel
theorem dR_fraction_18 : decode prog_14_method_9_code 18 = .ok (.lload 7, 2) := by decide +kernel
theorem dR_fraction_20 : decode prog_14_method_9_code 20 = .ok (.lrem, 1) := by decide +kernel
theorem dR_fraction_21 : decode prog_14_method_9_code 21 = .ok (.lstore 9, 2) := by decide +kernel
theorem dR_fraction_23 : decode prog_14_method_9_code 23 = .ok (.lload 7, 2) := by decide +kernel
theorem dR_fraction_25 : decode prog_14_method_9_code 25 = .ok (.lstore 5, 2) := by decide +kernel
theorem dR_fraction_27 : decode prog_14_method_9_code 27 = .ok (.lload 9, 2) := by decide +kernel
theorem dR_fraction_29 : decode prog_14_method_9_code 29 = .ok (.lstore 7, 2) := by decide +kernel
theorem dR_fraction_31 : decode prog_14_method_9_code 31 = .ok (.goto (-22), 3) := by decide +kernel
theorem dR_fraction_34 : decode prog_14_method_9_code 34 = .ok (.aload_n 0, 1) := by decide +kernel
theorem dR_fraction_35 : decode prog_14_method_9_code 35 = .ok (.lload_n 1, 1) := by decide +kernel
theorem dR_fraction_36 : decode prog_14_method_9_code 36 = .ok (.lload 5, 2) := by decide +kernel
theorem dR_fraction_38 : decode prog_14_method_9_code 38 = .ok (.ldiv, 1) := by decide +kernel
theorem dR_fraction_39 : decode prog_14_method_9_code 39 = .ok (.putfield 138, 3) := by decide +kernel
theorem dR_fraction_42 : decode prog_14_method_9_code 42 = .ok (.aload_n 0, 1) := by decide +kernel
theorem dR_fraction_43 : decode prog_14_method_9_code 43 = .ok (.lload_n 3, 1) := by decide +kernel
theorem dR_fraction_44 : decode prog_14_method_9_code 44 = .ok (.lload 5, 2) := by decide +kernel
theorem dR_fraction_46 : decode prog_14_method_9_code 46 = .ok (.ldiv, 1) := by decide +kernel
theorem dR_fraction_47 : decode prog_14_method_9_code 47 = .ok (.putfield 7, 3) := by decide +kernel
theorem dR_fraction_50 : decode prog_14_method_9_code 50 = .ok (.iconst 1, 1) := by decide +kernel
theorem dR_fraction_51 : decode prog_14_method_9_code 51 = .ok (.ireturn, 1) := by decide +kernel
theorem t_R_fraction {d : Nat} {x1 x3 : Int} {σ : SG} {Q : Int → SG → Prop} (h : inJ x1 → inJ x3 → (L (d + 1) M_R_fraction 9 [vA 161, vJ x1, vU, vJ x3, vU, vJ (if 0 < x1 then x1 else w64 (-x1)), vU, vJ x3, vU, vU, vU] [] σ Q)) : Tri (d + 1) M_R_fraction [vA 161, vJ x1, vJ x3] σ Q :=
  Tri_intro rfl (Nat.le_of_ble_eq_true rfl) (ls := [vA 161, vJ x1, vU, vJ x3, vU, vU, vU, vU, vU, vU, vU]) rfl (fun hok => L_lload_n dR_fraction_0 rfl (L_absJ (tk9 111 rfl rfl) (Nat.le_of_ble_eq_true rfl) dR_fraction_1 (L_lstore dR_fraction_4 (by decide) (L_lload_n dR_fraction_6 rfl (L_lstore dR_fraction_7 (by decide) ((h (hok _ (List.mem_of_getElem? (i := 1) rfl)) (hok _ (List.mem_of_getElem? (i := 2) rfl)))))))))
theorem s_R_fraction_9 {d : Nat} {x1 x3 x5 x7 : Int} {σ : SG} {Q : Int → SG → Prop} (h : (cmp3 x7 0 = 0 → x5 ≠ 0 ∧ (∀ σ2, σ2 = up σ 161 2 (w64 (x1.tdiv x5)) → x5 ≠ 0 ∧ (∀ σ3, σ3 = up σ2 161 3 (w64 (x3.tdiv x5)) → Q 1 σ3))) ∧ (cmp3 x7 0 ≠ 0 → x7 ≠ 0 ∧ L (d + 1) M_R_fraction 9 [vA 161, vJ x1, vU, vJ x3, vU, vJ x7, vU, vJ (x5.tmod x7), vU, vU, vU] [] σ Q)) : L (d + 1) M_R_fraction 9 [vA 161, vJ x1, vU, vJ x3, vU, vJ x5, vU, vJ x7, vU, vU, vU] [] σ Q :=
  L_lload dR_fraction_9 rfl (L_lconst (x := 0) dR_fraction_11 rfl inJ_0 (L_lcmp dR_fraction_12 (L_if_eq dR_fraction_13 (by decide) ⟨fun c1 => L_aload_n dR_fraction_34 rfl (L_lload_n dR_fraction_35 rfl (L_lload dR_fraction_36 rfl (L_ldiv dR_fraction_38 ⟨(h.1 c1).1, L_putfN fp_R_138 rfl rfl (fun _ => ⟨rfl, rfl⟩) dR_fraction_39 ⟨ob_161, fun σ2 e2 => L_aload_n dR_fraction_42 rfl (L_lload_n dR_fraction_43 rfl (L_lload dR_fraction_44 rfl (L_ldiv dR_fraction_46 ⟨((h.1 c1).2 σ2 e2).1, L_putfN fp_R_7 rfl rfl (fun _ => ⟨rfl, rfl⟩) dR_fraction_47 ⟨ob_161, fun σ3 e3 => L_iconst dR_fraction_50 in_1 (L_zreturn1 rfl dR_fraction_51 (((h.1 c1).2 σ2 e2).2 σ3 e3))⟩⟩)))⟩⟩))), fun c1 => L_lload dR_fraction_16 rfl (L_lload dR_fraction_18 rfl (L_lrem dR_fraction_20 ⟨(h.2 c1).1, L_lstore dR_fraction_21 (by decide) (L_lload dR_fraction_23 rfl (L_lstore dR_fraction_25 (by decide) (L_lload dR_fraction_27 rfl (L_lstore dR_fraction_29 (by decide) (L_goto dR_fraction_31 (by decide) (L_weak [true, true, true, true, true, true, true, true, true, false, true] ((h.2 c1).2)))))))⟩))⟩)))
theorem dR_cut_0 : decode prog_14_method_10_code 0 = .ok (.iload_n 0, 1) := by decide +kernel
theorem dR_cut_1 : decode prog_14_method_10_code 1 = .ok (.ifCond .ne 10, 3) := by decide +kernel
theorem dR_cut_4 : decode prog_14_method_10_code 4 = .ok (.lload_n 1, 1) := by decide +kernel
theorem dR_cut_5 : decode prog_14_method_10_code 5 = .ok (.l2i, 1) := by decide +kernel
theorem dR_cut_6 : decode prog_14_method_10_code 6 = .ok (.i2b, 1) := by decide +kernel
theorem dR_cut_7 : decode prog_14_method_10_code 7 = .ok (.i2l, 1) := by decide +kernel
theorem dR_cut_8 : decode prog_14_method_10_code 8 = .ok (.goto 27, 3) := by decide +kernel
theorem dR_cut_11 : decode prog_14_method_10_code 11 = .ok (.iload_n 0, 1) := by decide +kernel
theorem dR_cut_12 : decode prog_14_method_10_code 12 = .ok (.iconst 1, 1) := by decide +kernel
theorem dR_cut_13 : decode prog_14_method_10_code 13 = .ok (.if_icmp .ne 10, 3) := by decide +kernel
theorem dR_cut_16 : decode prog_14_method_10_code 16 = .ok (.lload_n 1, 1) := by decide +kernel
theorem dR_cut_17 : decode prog_14_method_10_code 17 = .ok (.l2i, 1) := by decide +kernel
theorem dR_cut_18 : decode prog_14_method_10_code 18 = .ok (.i2s, 1) := by decide +kernel
theorem dR_cut_19 : decode prog_14_method_10_code 19 = .ok (.i2l, 1) := by decide +kernel
theorem dR_cut_20 : decode prog_14_method_10_code 20 = .ok (.goto 15, 3) := by decide +kernel
theorem dR_cut_23 : decode prog_14_method_10_code 23 = .ok (.iload_n 0, 1) := by decide +kernel
theorem dR_cut_24 : decode prog_14_method_10_code 24 = .ok (.iconst 2, 1) := by decide +kernel
theorem dR_cut_25 : decode prog_14_method_10_code 25 = .ok (.if_icmp .ne 9, 3) := by decide +kernel
theorem dR_cut_28 : decode prog_14_method_10_code 28 = .ok (.lload_n 1, 1) := by decide +kernel
theorem dR_cut_29 : decode prog_14_method_10_code 29 = .ok (.l2i, 1) := by decide +kernel
theorem dR_cut_30 : decode prog_14_method_10_code 30 = .ok (.i2l, 1) := by decide +kernel
theorem dR_cut_31 : decode prog_14_method_10_code 31 = .ok (.goto 4, 3) := by decide +kernel
theorem dR_cut_34 : decode prog_14_method_10_code 34 = .ok (.lload_n 1, 1) := by decide +kernel
theorem dR_cut_35 : decode prog_14_method_10_code 35 = .ok (.lreturn, 1) := by decide +kernel
theorem t_R_cut {d : Nat} {x0 x1 : Int} {σ : SG} {Q : Int → SG → Prop} (h : inI x0 → inJ x1 → ((x0 ≠ 0 → (x0 ≠ 1 → (x0 ≠ 2 → Q x1 σ) ∧ (x0 = 2 → Q (w32 x1) σ)) ∧ (x0 = 1 → Q (i2s (w32 x1)) σ)) ∧ (x0 = 0 → Q (i2b (w32 x1)) σ))) : Tri (d + 1) M_R_cut [vI x0, vJ x1] σ Q :=
  Tri_intro rfl (Nat.le_of_ble_eq_true rfl) (ls := [vI x0, vJ x1, vU]) rfl (fun hok => L_iload_n dR_cut_0 rfl (L_if_ne dR_cut_1 (by decide) ⟨fun c1 => L_iload_n dR_cut_11 rfl (L_iconst dR_cut_12 in_1 (L_icmp_ne dR_cut_13 (by decide) ⟨fun c2 => L_iload_n dR_cut_23 rfl (L_iconst dR_cut_24 in_2 (L_icmp_ne dR_cut_25 (by decide) ⟨fun c3 => L_lload_n dR_cut_34 rfl (L_lreturn rfl dR_cut_35 ((((h (hok _ (List.mem_of_getElem? (i := 0) rfl)) (hok _ (List.mem_of_getElem? (i := 1) rfl))).1 c1).1 c2).1 c3)), fun c3 => L_lload_n dR_cut_28 rfl (L_l2i dR_cut_29 (L_i2l dR_cut_30 (L_goto dR_cut_31 (by decide) (L_lreturn rfl dR_cut_35 ((((h (hok _ (List.mem_of_getElem? (i := 0) rfl)) (hok _ (List.mem_of_getElem? (i := 1) rfl))).1 c1).1 c2).2 c3)))))⟩)), fun c2 => L_lload_n dR_cut_16 rfl (L_l2i dR_cut_17 (L_i2s dR_cut_18 (L_i2l dR_cut_19 (L_goto dR_cut_20 (by decide) (L_lreturn rfl dR_cut_35 (((h (hok _ (List.mem_of_getElem? (i := 0) rfl)) (hok _ (List.mem_of_getElem? (i := 1) rfl))).1 c1).2 c2))))))⟩)), fun c1 => L_lload_n dR_cut_4 rfl (L_l2i dR_cut_5 (L_i2b dR_cut_6 (L_i2l dR_cut_7 (L_goto dR_cut_8 (by decide) (L_lreturn rfl dR_cut_35 ((h (hok _ (List.mem_of_getElem? (i := 0) rfl)) (hok _ (List.mem_of_getElem? (i := 1) rfl))).2 c1))))))⟩))
theorem dR_tray_0 : decode prog_14_method_11_code 0 = .ok (.aload_n 0, 1) := by decide +kernel
theorem dR_tray_1 : decode prog_14_method_11_code 1 = .ok (.iconst 0, 1) := by decide +kernel
theorem dR_tray_2 : decode prog_14_method_11_code 2 = .ok (.putfield 132, 3) := by decide +kernel
theorem dR_tray_5 : decode prog_14_method_11_code 5 = .ok (.aload_n 0, 1) := by decide +kernel
theorem dR_tray_6 : decode prog_14_method_11_code 6 = .ok (.iconst 0, 1) := by decide +kernel
theorem dR_tray_7 : decode prog_14_method_11_code 7 = .ok (.putfield 135, 3) := by decide +kernel
theorem dR_tray_10 : decode prog_14_method_11_code 10 = .ok (.iload_n 1, 1) := by decide +kernel
theorem dR_tray_11 : decode prog_14_method_11_code 11 = .ok (.ifCond .lt 17, 3) := by decide +kernel
theorem dR_tray_14 : decode prog_14_method_11_code 14 = .ok (.iload_n 1, 1) := by decide +kernel
theorem dR_tray_15 : decode prog_14_method_11_code 15 = .ok (.iconst 4, 1) := by decide +kernel
theorem dR_tray_16 : decode prog_14_method_11_code 16 = .ok (.if_icmp .ge 12, 3) := by decide +kernel
theorem dR_tray_19 : decode prog_14_method_11_code 19 = .ok (.iload_n 2, 1) := by decide +kernel
theorem dR_tray_20 : decode prog_14_method_11_code 20 = .ok (.ifCond .lt 8, 3) := by decide +kernel
theorem dR_tray_23 : decode prog_14_method_11_code 23 = .ok (.iload_n 2, 1) := by decide +kernel
theorem dR_tray_24 : decode prog_14_method_11_code 24 = .ok (.iconst 3, 1) := by decide +kernel
theorem dR_tray_25 : decode prog_14_method_11_code 25 = .ok (.if_icmp .le 9, 3) := by decide +kernel
theorem dR_tray_28 : decode prog_14_method_11_code 28 = .ok (.aload_n 0, 1) := by decide +kernel
theorem dR_tray_29 : decode prog_14_method_11_code 29 = .ok (.iconst 1, 1) := by decide +kernel
theorem dR_tray_30 : decode prog_14_method_11_code 30 = .ok (.invokevirtual 147, 3) := by decide +kernel
theorem dR_tray_33 : decode prog_14_method_11_code 33 = .ok (.ireturn, 1) := by decide +kernel
theorem dR_tray_34 : decode prog_14_method_11_code 34 = .ok (.iload_n 3, 1) := by decide +kernel
theorem dR_tray_35 : decode prog_14_method_11_code 35 = .ok (.bipush 60, 2) := by decide +kernel
theorem dR_tray_37 : decode prog_14_method_11_code 37 = .ok (.if_icmp .le 9, 3) := by decide +kernel
theorem dR_tray_40 : decode prog_14_method_11_code 40 = .ok (.aload_n 0, 1) := by decide +kernel
theorem dR_tray_41 : decode prog_14_method_11_code 41 = .ok (.iconst 5, 1) := by decide +kernel
theorem dR_tray_42 : decode prog_14_method_11_code 42 = .ok (.invokevirtual 147, 3) := by decide +kernel
theorem dR_tray_45 : decode prog_14_method_11_code 45 = .ok (.ireturn, 1) := by decide +kernel
theorem dR_tray_46 : decode prog_14_method_11_code 46 = .ok (.iload_n 3, 1) := by decide +kernel
theorem dR_tray_47 : decode prog_14_method_11_code 47 = .ok (.ifCond .ge 10, 3) := by decide +kernel
theorem dR_tray_50 : decode prog_14_method_11_code 50 = .ok (.aload_n 0, 1) := by decide +kernel
theorem dR_tray_51 : decode prog_14_method_11_code 51 = .ok (.bipush 6, 2) := by decide +kernel
theorem dR_tray_53 : decode prog_14_method_11_code 53 = .ok (.invokevirtual 147, 3) := by decide +kernel
theorem dR_tray_56 : decode prog_14_method_11_code 56 = .ok (.ireturn, 1) := by decide +kernel
theorem dR_tray_57 : decode prog_14_method_11_code 57 = .ok (.aload_n 0, 1) := by decide +kernel
theorem dR_tray_58 : decode prog_14_method_11_code 58 = .ok (.getfield 13, 3) := by decide +kernel
theorem dR_tray_61 : decode prog_14_method_11_code 61 = .ok (.iload_n 1, 1) := by decide +kernel
theorem dR_tray_62 : decode prog_14_method_11_code 62 = .ok (.iload_n 2, 1) := by decide +kernel
theorem dR_tray_63 : decode prog_14_method_11_code 63 = .ok (.iastore, 1) := by decide +kernel
theorem dR_tray_64 : decode prog_14_method_11_code 64 = .ok (.aload_n 0, 1) := by decide +kernel
theorem dR_tray_65 : decode prog_14_method_11_code 65 = .ok (.getfield 17, 3) := by decide +kernel
theorem dR_tray_68 : decode prog_14_method_11_code 68 = .ok (.iload_n 1, 1) := by decide +kernel
theorem dR_tray_69 : decode prog_14_method_11_code 69 = .ok (.iload_n 3, 1) := by decide +kernel
theorem dR_tray_70 : decode prog_14_method_11_code 70 = .ok (.iastore, 1) := by decide +kernel
theorem dR_tray_71 : decode prog_14_method_11_code 71 = .ok (.iconst 0, 1) := by decide +kernel
theorem dR_tray_72 : decode prog_14_method_11_code 72 = .ok (.istore 4, 2) := by decide +kernel
theorem dR_tray_74 : decode prog_14_method_11_code 74 = .ok (.iload 4, 2) := by decide +kernel
theorem dR_tray_76 : decode prog_14_method_11_code 76 = .ok (.iload_n 3, 1) := by decide +kernel
theorem dR_tray_77 : decode prog_14_method_11_code 77 = .ok (.if_icmp .ge 22, 3) := by decide +kernel
theorem dR_tray_80 : decode prog_14_method_11_code 80 = .ok (.aload_n 0, 1) := by decide +kernel
theorem dR_tray_81 : decode prog_14_method_11_code 81 = .ok (.getfield 20, 3) := by decide +kernel
theorem dR_tray_84 : decode prog_14_method_11_code 84 = .ok (.bipush 60, 2) := by decide +kernel
theorem dR_tray_86 : decode prog_14_method_11_code 86 = .ok (.iload_n 1, 1) := by decide +kernel
theorem dR_tray_87 : decode prog_14_method_11_code 87 = .ok (.imul, 1) := by decide +kernel
theorem dR_tray_88 : decode prog_14_method_11_code 88 = .ok (.iload 4, 2) := by decide +kernel
theorem dR_tray_90 : decode prog_14_method_11_code 90 = .ok (.iadd, 1) := by decide +kernel
theorem dR_tray_91 : decode prog_14_method_11_code 91 = .ok (.lconst 0, 1) := by decide +kernel
theorem dR_tray_92 : decode prog_14_method_11_code 92 = .ok (.lastore, 1) := by decide +kernel
theorem dR_tray_93 : decode prog_14_method_11_code 93 = .ok (.iinc 4 1, 3) := by decide +kernel
theorem dR_tray_96 : decode prog_14_method_11_code 96 = .ok (.goto (-22), 3) := by decide +kernel
theorem dR_tray_99 : decode prog_14_method_11_code 99 = .ok (.iconst 1, 1) := by decide +kernel
theorem dR_tray_100 : decode prog_14_method_11_code 100 = .ok (.ireturn, 1) := by decide +kernel
theorem t_R_tray {d : Nat} {x1 x2 x3 : Int} {σ : SG} {Q : Int → SG → Prop} (h : inI x1 → inI x2 → inI x3 → ((∀ σ1, σ1 = up σ 161 1 0 → (∀ σ2, σ2 = up σ1 161 0 0 → (x1 < 0 → Tri d M_R_no [vA 161, vI 1] σ2 (fun r4 σ4 => (r4 = 0 ∨ r4 = 1) ∧ Q r4 σ4)) ∧ (0 ≤ x1 → (4 ≤ x1 → Tri d M_R_no [vA 161, vI 1] σ2 (fun r6 σ6 => (r6 = 0 ∨ r6 = 1) ∧ Q r6 σ6)) ∧ (x1 < 4 → (x2 < 0 → Tri d M_R_no [vA 161, vI 1] σ2 (fun r8 σ8 => (r8 = 0 ∨ r8 = 1) ∧ Q r8 σ8)) ∧ (0 ≤ x2 → (x2 ≤ 3 → (x3 ≤ 60 → (0 ≤ x3 → (0 ≤ x1 ∧ x1 < 4) ∧ (∀ σ12, σ12 = up σ2 162 x1 x2 → (0 ≤ x1 ∧ x1 < 4) ∧ (∀ σ13, σ13 = up σ12 163 x1 x3 → L (d + 1) M_R_tray 74 [vA 161, vI x1, vU, vI x3, vI 0] [] σ13 Q))) ∧ (x3 < 0 → Tri d M_R_no [vA 161, vI 6] σ2 (fun r14 σ14 => (r14 = 0 ∨ r14 = 1) ∧ Q r14 σ14))) ∧ (60 < x3 → Tri d M_R_no [vA 161, vI 5] σ2 (fun r15 σ15 => (r15 = 0 ∨ r15 = 1) ∧ Q r15 σ15))) ∧ (3 < x2 → Tri d M_R_no [vA 161, vI 1] σ2 (fun r16 σ16 => (r16 = 0 ∨ r16 = 1) ∧ Q r16 σ16))))))))) : Tri (d + 1) M_R_tray [vA 161, vI x1, vI x2, vI x3] σ Q :=
  Tri_intro rfl (Nat.le_of_ble_eq_true rfl) (ls := [vA 161, vI x1, vI x2, vI x3, vU]) rfl (fun hok => L_aload_n dR_tray_0 rfl (L_iconst dR_tray_1 in_0 (L_putfN fp_R_132 rfl rfl (fun _ => ⟨rfl, rfl⟩) dR_tray_2 ⟨ob_161, fun σ1 e1 => L_aload_n dR_tray_5 rfl (L_iconst dR_tray_6 in_0 (L_putfN fp_R_135 rfl rfl (fun _ => ⟨rfl, rfl⟩) dR_tray_7 ⟨ob_161, fun σ2 e2 => L_iload_n dR_tray_10 rfl (L_if_lt dR_tray_11 (by decide) ⟨fun c3 => L_aload_n dR_tray_28 rfl (L_iconst dR_tray_29 in_1 (L_callVI rfl cv_R_no (As := [vI 1]) rfl (tk7 188 rfl rfl) rfl (Nat.le_of_ble_eq_true rfl) dR_tray_30 ⟨ob_161, Tri.mono ((((h (hok _ (List.mem_of_getElem? (i := 1) rfl)) (hok _ (List.mem_of_getElem? (i := 2) rfl)) (hok _ (List.mem_of_getElem? (i := 3) rfl))) σ1 e1) σ2 e2).1 c3) (fun r4 σ4 q4 => L_zreturn rfl dR_tray_33 q4)⟩)), fun c3 => L_iload_n dR_tray_14 rfl (L_iconst dR_tray_15 in_4 (L_icmp_ge dR_tray_16 (by decide) ⟨fun c5 => L_aload_n dR_tray_28 rfl (L_iconst dR_tray_29 in_1 (L_callVI rfl cv_R_no (As := [vI 1]) rfl (tk7 188 rfl rfl) rfl (Nat.le_of_ble_eq_true rfl) dR_tray_30 ⟨ob_161, Tri.mono (((((h (hok _ (List.mem_of_getElem? (i := 1) rfl)) (hok _ (List.mem_of_getElem? (i := 2) rfl)) (hok _ (List.mem_of_getElem? (i := 3) rfl))) σ1 e1) σ2 e2).2 c3).1 c5) (fun r6 σ6 q6 => L_zreturn rfl dR_tray_33 q6)⟩)), fun c5 => L_iload_n dR_tray_19 rfl (L_if_lt dR_tray_20 (by decide) ⟨fun c7 => L_aload_n dR_tray_28 rfl (L_iconst dR_tray_29 in_1 (L_callVI rfl cv_R_no (As := [vI 1]) rfl (tk7 188 rfl rfl) rfl (Nat.le_of_ble_eq_true rfl) dR_tray_30 ⟨ob_161, Tri.mono ((((((h (hok _ (List.mem_of_getElem? (i := 1) rfl)) (hok _ (List.mem_of_getElem? (i := 2) rfl)) (hok _ (List.mem_of_getElem? (i := 3) rfl))) σ1 e1) σ2 e2).2 c3).2 c5).1 c7) (fun r8 σ8 q8 => L_zreturn rfl dR_tray_33 q8)⟩)), fun c7 => L_iload_n dR_tray_23 rfl (L_iconst dR_tray_24 in_3 (L_icmp_le dR_tray_25 (by decide) ⟨fun c9 => L_iload_n dR_tray_34 rfl (L_bipush dR_tray_35 bp_60 in_60 (L_icmp_le dR_tray_37 (by decide) ⟨fun c10 => L_iload_n dR_tray_46 rfl (L_if_ge dR_tray_47 (by decide) ⟨fun c11 => L_aload_n dR_tray_57 rfl (L_getF (b := 162) fw_R_13 rfl rfl (by decide) dR_tray_58 ⟨ob_161, L_iload_n dR_tray_61 rfl (L_iload_n dR_tray_62 rfl (L_iastoreL (by decide) kd_162 dR_tray_63 ⟨(((((((((h (hok _ (List.mem_of_getElem? (i := 1) rfl)) (hok _ (List.mem_of_getElem? (i := 2) rfl)) (hok _ (List.mem_of_getElem? (i := 3) rfl))) σ1 e1) σ2 e2).2 c3).2 c5).2 c7).1 c9).1 c10).1 c11).1, fun σ12 e12 => L_aload_n dR_tray_64 rfl (L_getF (b := 163) fw_R_17 rfl rfl (by decide) dR_tray_65 ⟨ob_161, L_iload_n dR_tray_68 rfl (L_iload_n dR_tray_69 rfl (L_iastoreL (by decide) kd_163 dR_tray_70 ⟨((((((((((h (hok _ (List.mem_of_getElem? (i := 1) rfl)) (hok _ (List.mem_of_getElem? (i := 2) rfl)) (hok _ (List.mem_of_getElem? (i := 3) rfl))) σ1 e1) σ2 e2).2 c3).2 c5).2 c7).1 c9).1 c10).1 c11).2 σ12 e12).1, fun σ13 e13 => L_iconst dR_tray_71 in_0 (L_istore dR_tray_72 (by decide) (L_weak [true, true, false, true, true] (((((((((((h (hok _ (List.mem_of_getElem? (i := 1) rfl)) (hok _ (List.mem_of_getElem? (i := 2) rfl)) (hok _ (List.mem_of_getElem? (i := 3) rfl))) σ1 e1) σ2 e2).2 c3).2 c5).2 c7).1 c9).1 c10).1 c11).2 σ12 e12).2 σ13 e13)))⟩))⟩)⟩))⟩), fun c11 => L_aload_n dR_tray_50 rfl (L_bipush dR_tray_51 bp_6 in_6 (L_callVI rfl cv_R_no (As := [vI 6]) rfl (tk7 188 rfl rfl) rfl (Nat.le_of_ble_eq_true rfl) dR_tray_53 ⟨ob_161, Tri.mono (((((((((h (hok _ (List.mem_of_getElem? (i := 1) rfl)) (hok _ (List.mem_of_getElem? (i := 2) rfl)) (hok _ (List.mem_of_getElem? (i := 3) rfl))) σ1 e1) σ2 e2).2 c3).2 c5).2 c7).1 c9).1 c10).2 c11) (fun r14 σ14 q14 => L_zreturn rfl dR_tray_56 q14)⟩))⟩), fun c10 => L_aload_n dR_tray_40 rfl (L_iconst dR_tray_41 in_5 (L_callVI rfl cv_R_no (As := [vI 5]) rfl (tk7 188 rfl rfl) rfl (Nat.le_of_ble_eq_true rfl) dR_tray_42 ⟨ob_161, Tri.mono ((((((((h (hok _ (List.mem_of_getElem? (i := 1) rfl)) (hok _ (List.mem_of_getElem? (i := 2) rfl)) (hok _ (List.mem_of_getElem? (i := 3) rfl))) σ1 e1) σ2 e2).2 c3).2 c5).2 c7).1 c9).2 c10) (fun r15 σ15 q15 => L_zreturn rfl dR_tray_45 q15)⟩))⟩)), fun c9 => L_aload_n dR_tray_28 rfl (L_iconst dR_tray_29 in_1 (L_callVI rfl cv_R_no (As := [vI 1]) rfl (tk7 188 rfl rfl) rfl (Nat.le_of_ble_eq_true rfl) dR_tray_30 ⟨ob_161, Tri.mono (((((((h (hok _ (List.mem_of_getElem? (i := 1) rfl)) (hok _ (List.mem_of_getElem? (i := 2) rfl)) (hok _ (List.mem_of_getElem? (i := 3) rfl))) σ1 e1) σ2 e2).2 c3).2 c5).2 c7).2 c9) (fun r16 σ16 q16 => L_zreturn rfl dR_tray_33 q16)⟩))⟩))⟩)⟩))⟩)⟩))⟩)))
theorem s_R_tray_74 {d : Nat} {x1 x3 x4 : Int} {σ : SG} {Q : Int → SG → Prop} (h : (x3 ≤ x4 → Q 1 σ) ∧ (x4 < x3 → (0 ≤ w32 ((w32 (60 * x1)) + x4) ∧ w32 ((w32 (60 * x1)) + x4) < 240) ∧ (∀ σ2, σ2 = up σ 164 (w32 ((w32 (60 * x1)) + x4)) 0 → L (d + 1) M_R_tray 74 [vA 161, vI x1, vU, vI x3, vI (w32 (x4 + 1))] [] σ2 Q))) : L (d + 1) M_R_tray 74 [vA 161, vI x1, vU, vI x3, vI x4] [] σ Q :=
  L_iload dR_tray_74 rfl (L_iload_n dR_tray_76 rfl (L_icmp_ge dR_tray_77 (by decide) ⟨fun c1 => L_iconst dR_tray_99 in_1 (L_zreturn1 rfl dR_tray_100 (h.1 c1)), fun c1 => L_aload_n dR_tray_80 rfl (L_getF (b := 164) fw_R_20 rfl rfl (by decide) dR_tray_81 ⟨ob_161, L_bipush dR_tray_84 bp_60 in_60 (L_iload_n dR_tray_86 rfl (L_imul dR_tray_87 (L_iload dR_tray_88 rfl (L_iadd dR_tray_90 (L_lconst (x := 0) dR_tray_91 rfl inJ_0 (L_lastoreL (by decide) kd_164 dR_tray_92 ⟨(h.2 c1).1, fun σ2 e2 => L_iinc dR_tray_93 rfl (by decide) (L_goto dR_tray_96 (by decide) ((h.2 c1).2 σ2 e2))⟩))))))⟩)⟩))
theorem dR_trayed_0 : decode prog_14_method_12_code 0 = .ok (.iload_n 1, 1) := by decide +kernel
theorem dR_trayed_1 : decode prog_14_method_12_code 1 = .ok (.ifCond .lt 8, 3) := by decide +kernel
theorem dR_trayed_4 : decode prog_14_method_12_code 4 = .ok (.iload_n 1, 1) := by decide +kernel
theorem dR_trayed_5 : decode prog_14_method_12_code 5 = .ok (.iconst 4, 1) := by decide +kernel
theorem dR_trayed_6 : decode prog_14_method_12_code 6 = .ok (.if_icmp .lt 7, 3) := by decide +kernel
theorem dR_trayed_9 : decode prog_14_method_12_code 9 = .ok (.iconst 1, 1) := by decide +kernel
theorem dR_trayed_10 : decode prog_14_method_12_code 10 = .ok (.goto 17, 3) := by decide +kernel
theorem dR_trayed_13 : decode prog_14_method_12_code 13 = .ok (.aload_n 0, 1) := by decide +kernel
theorem dR_trayed_14 : decode prog_14_method_12_code 14 = .ok (.getfield 17, 3) := by decide +kernel
theorem dR_trayed_17 : decode prog_14_method_12_code 17 = .ok (.iload_n 1, 1) := by decide +kernel
theorem dR_trayed_18 : decode prog_14_method_12_code 18 = .ok (.iaload, 1) := by decide +kernel
theorem dR_trayed_19 : decode prog_14_method_12_code 19 = .ok (.ifCond .ge 7, 3) := by decide +kernel
theorem dR_trayed_22 : decode prog_14_method_12_code 22 = .ok (.iconst 3, 1) := by decide +kernel
theorem dR_trayed_23 : decode prog_14_method_12_code 23 = .ok (.goto 4, 3) := by decide +kernel
theorem dR_trayed_26 : decode prog_14_method_12_code 26 = .ok (.iconst 0, 1) := by decide +kernel
theorem dR_trayed_27 : decode prog_14_method_12_code 27 = .ok (.ireturn, 1) := by decide +kernel
theorem t_R_trayed {d : Nat} {x1 : Int} {σ : SG} {Q : Int → SG → Prop} (h : inI x1 → ((x1 < 0 → Q 1 σ) ∧ (0 ≤ x1 → (x1 < 4 → (0 ≤ x1 ∧ x1 < 4) ∧ (0 ≤ σ 163 x1 → Q 0 σ) ∧ (σ 163 x1 < 0 → Q 3 σ)) ∧ (4 ≤ x1 → Q 1 σ)))) : Tri (d + 1) M_R_trayed [vA 161, vI x1] σ Q :=
  Tri_intro rfl (Nat.le_of_ble_eq_true rfl) (ls := [vA 161, vI x1]) rfl (fun hok => L_iload_n dR_trayed_0 rfl (L_if_lt dR_trayed_1 (by decide) ⟨fun c1 => L_iconst dR_trayed_9 in_1 (L_goto dR_trayed_10 (by decide) (L_ireturn rfl dR_trayed_27 ((h (hok _ (List.mem_of_getElem? (i := 1) rfl))).1 c1))), fun c1 => L_iload_n dR_trayed_4 rfl (L_iconst dR_trayed_5 in_4 (L_icmp_lt dR_trayed_6 (by decide) ⟨fun c2 => L_aload_n dR_trayed_13 rfl (L_getF (b := 163) fw_R_17 rfl rfl (by decide) dR_trayed_14 ⟨ob_161, L_iload_n dR_trayed_17 rfl (L_ialoadL kd_163 dR_trayed_18 ⟨(((h (hok _ (List.mem_of_getElem? (i := 1) rfl))).2 c1).1 c2).1, L_if_ge dR_trayed_19 (by decide) ⟨fun c3 => L_iconst dR_trayed_26 in_0 (L_ireturn rfl dR_trayed_27 ((((h (hok _ (List.mem_of_getElem? (i := 1) rfl))).2 c1).1 c2).2.1 c3)), fun c3 => L_iconst dR_trayed_22 in_3 (L_goto dR_trayed_23 (by decide) (L_ireturn rfl dR_trayed_27 ((((h (hok _ (List.mem_of_getElem? (i := 1) rfl))).2 c1).1 c2).2.2 c3)))⟩⟩)⟩), fun c2 => L_iconst dR_trayed_9 in_1 (L_goto dR_trayed_10 (by decide) (L_ireturn rfl dR_trayed_27 (((h (hok _ (List.mem_of_getElem? (i := 1) rfl))).2 c1).2 c2)))⟩))⟩))
theorem dR_placed_0 : decode prog_14_method_13_code 0 = .ok (.aload_n 0, 1) := by decide +kernel
theorem dR_placed_1 : decode prog_14_method_13_code 1 = .ok (.iload_n 1, 1) := by decide +kernel
theorem dR_placed_2 : decode prog_14_method_13_code 2 = .ok (.invokevirtual 151, 3) := by decide +kernel
theorem dR_placed_5 : decode prog_14_method_13_code 5 = .ok (.istore_n 3, 1) := by decide +kernel
theorem dR_placed_6 : decode prog_14_method_13_code 6 = .ok (.iload_n 3, 1) := by decide +kernel
theorem dR_placed_7 : decode prog_14_method_13_code 7 = .ok (.ifCond .le 7, 3) := by decide +kernel
theorem dR_placed_10 : decode prog_14_method_13_code 10 = .ok (.iload_n 3, 1) := by decide +kernel
theorem dR_placed_11 : decode prog_14_method_13_code 11 = .ok (.goto 22, 3) := by decide +kernel
theorem dR_placed_14 : decode prog_14_method_13_code 14 = .ok (.iload_n 2, 1) := by decide +kernel
theorem dR_placed_15 : decode prog_14_method_13_code 15 = .ok (.ifCond .lt 13, 3) := by decide +kernel
theorem dR_placed_18 : decode prog_14_method_13_code 18 = .ok (.iload_n 2, 1) := by decide +kernel
theorem dR_placed_19 : decode prog_14_method_13_code 19 = .ok (.aload_n 0, 1) := by decide +kernel
theorem dR_placed_20 : decode prog_14_method_13_code 20 = .ok (.getfield 17, 3) := by decide +kernel
theorem dR_placed_23 : decode prog_14_method_13_code 23 = .ok (.iload_n 1, 1) := by decide +kernel
theorem dR_placed_24 : decode prog_14_method_13_code 24 = .ok (.iaload, 1) := by decide +kernel
theorem dR_placed_25 : decode prog_14_method_13_code 25 = .ok (.if_icmp .lt 7, 3) := by decide +kernel
theorem dR_placed_28 : decode prog_14_method_13_code 28 = .ok (.iconst 4, 1) := by decide +kernel
theorem dR_placed_29 : decode prog_14_method_13_code 29 = .ok (.goto 4, 3) := by decide +kernel
theorem dR_placed_32 : decode prog_14_method_13_code 32 = .ok (.iconst 0, 1) := by decide +kernel
theorem dR_placed_33 : decode prog_14_method_13_code 33 = .ok (.ireturn, 1) := by decide +kernel
theorem t_R_placed {d : Nat} {x1 x2 : Int} {σ : SG} {Q : Int → SG → Prop} (h : inI x1 → inI x2 → (Tri d M_R_trayed [vA 161, vI x1] σ (fun r1 σ1 => (r1 ≤ 0 → (x2 < 0 → Q 4 σ1) ∧ (0 ≤ x2 → (0 ≤ x1 ∧ x1 < 4) ∧ (x2 < σ1 163 x1 → Q 0 σ1) ∧ (σ1 163 x1 ≤ x2 → Q 4 σ1))) ∧ (0 < r1 → Q r1 σ1)))) : Tri (d + 1) M_R_placed [vA 161, vI x1, vI x2] σ Q :=
  Tri_intro rfl (Nat.le_of_ble_eq_true rfl) (ls := [vA 161, vI x1, vI x2, vU]) rfl (fun hok => L_aload_n dR_placed_0 rfl (L_iload_n dR_placed_1 rfl (L_callVI rfl cv_R_trayed (As := [vI x1]) rfl (tk7 200 rfl rfl) rfl (Nat.le_of_ble_eq_true rfl) dR_placed_2 ⟨ob_161, Tri.mono ((h (hok _ (List.mem_of_getElem? (i := 1) rfl)) (hok _ (List.mem_of_getElem? (i := 2) rfl)))) (fun r1 σ1 q1 => L_istore_n dR_placed_5 (by decide) (L_iload_n dR_placed_6 rfl (L_if_le dR_placed_7 (by decide) ⟨fun c2 => L_iload_n dR_placed_14 rfl (L_if_lt dR_placed_15 (by decide) ⟨fun c3 => L_iconst dR_placed_28 in_4 (L_goto dR_placed_29 (by decide) (L_ireturn rfl dR_placed_33 ((q1.1 c2).1 c3))), fun c3 => L_iload_n dR_placed_18 rfl (L_aload_n dR_placed_19 rfl (L_getF (b := 163) fw_R_17 rfl rfl (by decide) dR_placed_20 ⟨ob_161, L_iload_n dR_placed_23 rfl (L_ialoadL kd_163 dR_placed_24 ⟨((q1.1 c2).2 c3).1, L_icmp_lt dR_placed_25 (by decide) ⟨fun c4 => L_iconst dR_placed_32 in_0 (L_ireturn rfl dR_placed_33 (((q1.1 c2).2 c3).2.1 c4)), fun c4 => L_iconst dR_placed_28 in_4 (L_goto dR_placed_29 (by decide) (L_ireturn rfl dR_placed_33 (((q1.1 c2).2 c3).2.2 c4)))⟩⟩)⟩))⟩), fun c2 => L_iload_n dR_placed_10 rfl (L_goto dR_placed_11 (by decide) (L_ireturn rfl dR_placed_33 (q1.2 c2)))⟩)))⟩)))
theorem dR_write_0 : decode prog_14_method_14_code 0 = .ok (.aload_n 0, 1) := by decide +kernel
theorem dR_write_1 : decode prog_14_method_14_code 1 = .ok (.iconst 0, 1) := by decide +kernel
theorem dR_write_2 : decode prog_14_method_14_code 2 = .ok (.putfield 132, 3) := by decide +kernel
theorem dR_write_5 : decode prog_14_method_14_code 5 = .ok (.aload_n 0, 1) := by decide +kernel
theorem dR_write_6 : decode prog_14_method_14_code 6 = .ok (.aload_n 0, 1) := by decide +kernel
theorem dR_write_7 : decode prog_14_method_14_code 7 = .ok (.iload_n 1, 1) := by decide +kernel
theorem dR_write_8 : decode prog_14_method_14_code 8 = .ok (.iload_n 2, 1) := by decide +kernel
theorem dR_write_9 : decode prog_14_method_14_code 9 = .ok (.invokevirtual 155, 3) := by decide +kernel
theorem dR_write_12 : decode prog_14_method_14_code 12 = .ok (.putfield 135, 3) := by decide +kernel
theorem dR_write_15 : decode prog_14_method_14_code 15 = .ok (.aload_n 0, 1) := by decide +kernel
theorem dR_write_16 : decode prog_14_method_14_code 16 = .ok (.getfield 135, 3) := by decide +kernel
theorem dR_write_19 : decode prog_14_method_14_code 19 = .ok (.ifCond .le 5, 3) := by decide +kernel
theorem dR_write_22 : decode prog_14_method_14_code 22 = .ok (.iconst 0, 1) := by decide +kernel
theorem dR_write_23 : decode prog_14_method_14_code 23 = .ok (.ireturn, 1) := by decide +kernel
theorem dR_write_24 : decode prog_14_method_14_code 24 = .ok (.aload_n 0, 1) := by decide +kernel
theorem dR_write_25 : decode prog_14_method_14_code 25 = .ok (.getfield 20, 3) := by decide +kernel
theorem dR_write_28 : decode prog_14_method_14_code 28 = .ok (.bipush 60, 2) := by decide +kernel
theorem dR_write_30 : decode prog_14_method_14_code 30 = .ok (.iload_n 1, 1) := by decide +kernel
theorem dR_write_31 : decode prog_14_method_14_code 31 = .ok (.imul, 1) := by decide +kernel
theorem dR_write_32 : decode prog_14_method_14_code 32 = .ok (.iload_n 2, 1) := by decide +kernel
theorem dR_write_33 : decode prog_14_method_14_code 33 = .ok (.iadd, 1) := by decide +kernel
theorem dR_write_34 : decode prog_14_method_14_code 34 = .ok (.aload_n 0, 1) := by decide +kernel
theorem dR_write_35 : decode prog_14_method_14_code 35 = .ok (.getfield 13, 3) := by decide +kernel
theorem dR_write_38 : decode prog_14_method_14_code 38 = .ok (.iload_n 1, 1) := by decide +kernel
theorem dR_write_39 : decode prog_14_method_14_code 39 = .ok (.iaload, 1) := by decide +kernel
theorem dR_write_40 : decode prog_14_method_14_code 40 = .ok (.lload_n 3, 1) := by decide +kernel
theorem dR_write_41 : decode prog_14_method_14_code 41 = .ok (.invokestatic 159, 3) := by decide +kernel
theorem dR_write_44 : decode prog_14_method_14_code 44 = .ok (.lastore, 1) := by decide +kernel
theorem dR_write_45 : decode prog_14_method_14_code 45 = .ok (.iconst 1, 1) := by decide +kernel
theorem dR_write_46 : decode prog_14_method_14_code 46 = .ok (.ireturn, 1) := by decide +kernel
theorem t_R_write {d : Nat} {x1 x2 x3 : Int} {σ : SG} {Q : Int → SG → Prop} (h : inI x1 → inI x2 → inJ x3 → ((∀ σ1, σ1 = up σ 161 1 0 → Tri d M_R_placed [vA 161, vI x1, vI x2] σ1 (fun r2 σ2 => (∀ σ3, σ3 = up σ2 161 0 r2 → (σ3 161 0 ≤ 0 → (0 ≤ x1 ∧ x1 < 4) ∧ Tri d M_R_cut [vI (σ3 162 x1), vJ x3] σ3 (fun r5 σ5 => (0 ≤ w32 ((w32 (60 * x1)) + x2) ∧ w32 ((w32 (60 * x1)) + x2) < 240) ∧ (∀ σ6, σ6 = up σ5 164 (w32 ((w32 (60 * x1)) + x2)) r5 → Q 1 σ6))) ∧ (0 < σ3 161 0 → Q 0 σ3)))))) : Tri (d + 1) M_R_write [vA 161, vI x1, vI x2, vJ x3] σ Q :=
  Tri_intro rfl (Nat.le_of_ble_eq_true rfl) (ls := [vA 161, vI x1, vI x2, vJ x3, vU]) rfl (fun hok => L_aload_n dR_write_0 rfl (L_iconst dR_write_1 in_0 (L_putfN fp_R_132 rfl rfl (fun _ => ⟨rfl, rfl⟩) dR_write_2 ⟨ob_161, fun σ1 e1 => L_aload_n dR_write_5 rfl (L_aload_n dR_write_6 rfl (L_iload_n dR_write_7 rfl (L_iload_n dR_write_8 rfl (L_callVI rfl cv_R_placed (As := [vI x1, vI x2]) rfl (tk7 196 rfl rfl) rfl (Nat.le_of_ble_eq_true rfl) dR_write_9 ⟨ob_161, Tri.mono ((h (hok _ (List.mem_of_getElem? (i := 1) rfl)) (hok _ (List.mem_of_getElem? (i := 2) rfl)) (hok _ (List.mem_of_getElem? (i := 3) rfl))) σ1 e1) (fun r2 σ2 q2 => L_putfN fp_R_135 rfl rfl (fun _ => ⟨rfl, rfl⟩) dR_write_12 ⟨ob_161, fun σ3 e3 => L_aload_n dR_write_15 rfl (L_getf fw_R_135 rfl dR_write_16 ⟨ob_161, L_if_le dR_write_19 (by decide) ⟨fun c4 => L_aload_n dR_write_24 rfl (L_getF (b := 164) fw_R_20 rfl rfl (by decide) dR_write_25 ⟨ob_161, L_bipush dR_write_28 bp_60 in_60 (L_iload_n dR_write_30 rfl (L_imul dR_write_31 (L_iload_n dR_write_32 rfl (L_iadd dR_write_33 (L_aload_n dR_write_34 rfl (L_getF (b := 162) fw_R_13 rfl rfl (by decide) dR_write_35 ⟨ob_161, L_iload_n dR_write_38 rfl (L_ialoadL kd_162 dR_write_39 ⟨((q2 σ3 e3).1 c4).1, L_lload_n dR_write_40 rfl (L_callSJ rfl cs_R_cut (As := [vI (σ3 162 x1), vJ x3]) rfl (tk7 204 rfl rfl) rfl (Nat.le_of_ble_eq_true rfl) dR_write_41 (Tri.mono (((q2 σ3 e3).1 c4).2) (fun r5 σ5 q5 => L_lastoreL (by decide) kd_164 dR_write_44 ⟨q5.1, fun σ6 e6 => L_iconst dR_write_45 in_1 (L_zreturn1 rfl dR_write_46 (q5.2 σ6 e6))⟩)))⟩)⟩))))))⟩), fun c4 => L_iconst dR_write_22 in_0 (L_zreturn0 rfl dR_write_23 ((q2 σ3 e3).2 c4))⟩⟩)⟩)⟩))))⟩)))
theorem dR_read_0 : decode prog_14_method_15_code 0 = .ok (.aload_n 0, 1) := by decide +kernel
theorem dR_read_1 : decode prog_14_method_15_code 1 = .ok (.iconst 0, 1) := by decide +kernel
theorem dR_read_2 : decode prog_14_method_15_code 2 = .ok (.putfield 132, 3) := by decide +kernel
theorem dR_read_5 : decode prog_14_method_15_code 5 = .ok (.aload_n 0, 1) := by decide +kernel
theorem dR_read_6 : decode prog_14_method_15_code 6 = .ok (.aload_n 0, 1) := by decide +kernel
theorem dR_read_7 : decode prog_14_method_15_code 7 = .ok (.iload_n 1, 1) := by decide +kernel
theorem dR_read_8 : decode prog_14_method_15_code 8 = .ok (.iload_n 2, 1) := by decide +kernel
theorem dR_read_9 : decode prog_14_method_15_code 9 = .ok (.invokevirtual 155, 3) := by decide +kernel
theorem dR_read_12 : decode prog_14_method_15_code 12 = .ok (.putfield 135, 3) := by decide +kernel
theorem dR_read_15 : decode prog_14_method_15_code 15 = .ok (.aload_n 0, 1) := by decide +kernel
theorem dR_read_16 : decode prog_14_method_15_code 16 = .ok (.getfield 135, 3) := by decide +kernel
theorem dR_read_19 : decode prog_14_method_15_code 19 = .ok (.ifCond .le 9, 3) := by decide +kernel
theorem dR_read_22 : decode prog_14_method_15_code 22 = .ok (.ldc2_w 163, 3) := by decide +kernel
theorem dR_read_25 : decode prog_14_method_15_code 25 = .ok (.goto 14, 3) := by decide +kernel
theorem dR_read_28 : decode prog_14_method_15_code 28 = .ok (.aload_n 0, 1) := by decide +kernel
theorem dR_read_29 : decode prog_14_method_15_code 29 = .ok (.getfield 20, 3) := by decide +kernel
theorem dR_read_32 : decode prog_14_method_15_code 32 = .ok (.bipush 60, 2) := by decide +kernel
theorem dR_read_34 : decode prog_14_method_15_code 34 = .ok (.iload_n 1, 1) := by decide +kernel
theorem dR_read_35 : decode prog_14_method_15_code 35 = .ok (.imul, 1) := by decide +kernel
theorem dR_read_36 : decode prog_14_method_15_code 36 = .ok (.iload_n 2, 1) := by decide +kernel
theorem dR_read_37 : decode prog_14_method_15_code 37 = .ok (.iadd, 1) := by decide +kernel
theorem dR_read_38 : decode prog_14_method_15_code 38 = .ok (.laload, 1) := by decide +kernel
theorem dR_read_39 : decode prog_14_method_15_code 39 = .ok (.lreturn, 1) := by decide +kernel
theorem t_R_read {d : Nat} {x1 x2 : Int} {σ : SG} {Q : Int → SG → Prop} (h : inI x1 → inI x2 → ((∀ σ1, σ1 = up σ 161 1 0 → Tri d M_R_placed [vA 161, vI x1, vI x2] σ1 (fun r2 σ2 => (∀ σ3, σ3 = up σ2 161 0 r2 → (σ3 161 0 ≤ 0 → (0 ≤ w32 ((w32 (60 * x1)) + x2) ∧ w32 ((w32 (60 * x1)) + x2) < 240) ∧ Q (σ3 164 (w32 ((w32 (60 * x1)) + x2))) σ3) ∧ (0 < σ3 161 0 → Q (-1) σ3)))))) : Tri (d + 1) M_R_read [vA 161, vI x1, vI x2] σ Q :=
  Tri_intro rfl (Nat.le_of_ble_eq_true rfl) (ls := [vA 161, vI x1, vI x2]) rfl (fun hok => L_aload_n dR_read_0 rfl (L_iconst dR_read_1 in_0 (L_putfN fp_R_132 rfl rfl (fun _ => ⟨rfl, rfl⟩) dR_read_2 ⟨ob_161, fun σ1 e1 => L_aload_n dR_read_5 rfl (L_aload_n dR_read_6 rfl (L_iload_n dR_read_7 rfl (L_iload_n dR_read_8 rfl (L_callVI rfl cv_R_placed (As := [vI x1, vI x2]) rfl (tk7 196 rfl rfl) rfl (Nat.le_of_ble_eq_true rfl) dR_read_9 ⟨ob_161, Tri.mono ((h (hok _ (List.mem_of_getElem? (i := 1) rfl)) (hok _ (List.mem_of_getElem? (i := 2) rfl))) σ1 e1) (fun r2 σ2 q2 => L_putfN fp_R_135 rfl rfl (fun _ => ⟨rfl, rfl⟩) dR_read_12 ⟨ob_161, fun σ3 e3 => L_aload_n dR_read_15 rfl (L_getf fw_R_135 rfl dR_read_16 ⟨ob_161, L_if_le dR_read_19 (by decide) ⟨fun c4 => L_aload_n dR_read_28 rfl (L_getF (b := 164) fw_R_20 rfl rfl (by decide) dR_read_29 ⟨ob_161, L_bipush dR_read_32 bp_60 in_60 (L_iload_n dR_read_34 rfl (L_imul dR_read_35 (L_iload_n dR_read_36 rfl (L_iadd dR_read_37 (L_laloadL kd_164 dR_read_38 ⟨((q2 σ3 e3).1 c4).1, L_lreturn rfl dR_read_39 (((q2 σ3 e3).1 c4).2)⟩)))))⟩), fun c4 => L_ldc2 (x := (-1)) (tk7 211 rfl rfl) rfl inJ_m1 dR_read_22 (L_goto dR_read_25 (by decide) (L_lreturn rfl dR_read_39 ((q2 σ3 e3).2 c4)))⟩⟩)⟩)⟩))))⟩)))
theorem dR_pour_0 : decode prog_14_method_16_code 0 = .ok (.aload_n 0, 1) := by decide +kernel
theorem dR_pour_1 : decode prog_14_method_16_code 1 = .ok (.iconst 0, 1) := by decide +kernel
theorem dR_pour_2 : decode prog_14_method_16_code 2 = .ok (.putfield 132, 3) := by decide +kernel
theorem dR_pour_5 : decode prog_14_method_16_code 5 = .ok (.aload_n 0, 1) := by decide +kernel
theorem dR_pour_6 : decode prog_14_method_16_code 6 = .ok (.iconst 0, 1) := by decide +kernel
theorem dR_pour_7 : decode prog_14_method_16_code 7 = .ok (.putfield 135, 3) := by decide +kernel
theorem dR_pour_10 : decode prog_14_method_16_code 10 = .ok (.iload_n 1, 1) := by decide +kernel
theorem dR_pour_11 : decode prog_14_method_16_code 11 = .ok (.ifCond .lt 17, 3) := by decide +kernel
theorem dR_pour_14 : decode prog_14_method_16_code 14 = .ok (.iload_n 1, 1) := by decide +kernel
theorem dR_pour_15 : decode prog_14_method_16_code 15 = .ok (.iconst 4, 1) := by decide +kernel
theorem dR_pour_16 : decode prog_14_method_16_code 16 = .ok (.if_icmp .ge 12, 3) := by decide +kernel
theorem dR_pour_19 : decode prog_14_method_16_code 19 = .ok (.iload_n 3, 1) := by decide +kernel
theorem dR_pour_20 : decode prog_14_method_16_code 20 = .ok (.ifCond .lt 8, 3) := by decide +kernel
theorem dR_pour_23 : decode prog_14_method_16_code 23 = .ok (.iload_n 3, 1) := by decide +kernel
theorem dR_pour_24 : decode prog_14_method_16_code 24 = .ok (.iconst 4, 1) := by decide +kernel
theorem dR_pour_25 : decode prog_14_method_16_code 25 = .ok (.if_icmp .lt 9, 3) := by decide +kernel
theorem dR_pour_28 : decode prog_14_method_16_code 28 = .ok (.aload_n 0, 1) := by decide +kernel
theorem dR_pour_29 : decode prog_14_method_16_code 29 = .ok (.iconst 1, 1) := by decide +kernel
theorem dR_pour_30 : decode prog_14_method_16_code 30 = .ok (.invokevirtual 147, 3) := by decide +kernel
theorem dR_pour_33 : decode prog_14_method_16_code 33 = .ok (.ireturn, 1) := by decide +kernel
theorem dR_pour_34 : decode prog_14_method_16_code 34 = .ok (.aload_n 0, 1) := by decide +kernel
theorem dR_pour_35 : decode prog_14_method_16_code 35 = .ok (.getfield 17, 3) := by decide +kernel
theorem dR_pour_38 : decode prog_14_method_16_code 38 = .ok (.iload_n 1, 1) := by decide +kernel
theorem dR_pour_39 : decode prog_14_method_16_code 39 = .ok (.iaload, 1) := by decide +kernel
theorem dR_pour_40 : decode prog_14_method_16_code 40 = .ok (.ifCond .lt 12, 3) := by decide +kernel
theorem dR_pour_43 : decode prog_14_method_16_code 43 = .ok (.aload_n 0, 1) := by decide +kernel
theorem dR_pour_44 : decode prog_14_method_16_code 44 = .ok (.getfield 17, 3) := by decide +kernel
theorem dR_pour_47 : decode prog_14_method_16_code 47 = .ok (.iload_n 3, 1) := by decide +kernel
theorem dR_pour_48 : decode prog_14_method_16_code 48 = .ok (.iaload, 1) := by decide +kernel
theorem dR_pour_49 : decode prog_14_method_16_code 49 = .ok (.ifCond .ge 9, 3) := by decide +kernel
theorem dR_pour_52 : decode prog_14_method_16_code 52 = .ok (.aload_n 0, 1) := by decide +kernel
theorem dR_pour_53 : decode prog_14_method_16_code 53 = .ok (.iconst 3, 1) := by decide +kernel
theorem dR_pour_54 : decode prog_14_method_16_code 54 = .ok (.invokevirtual 147, 3) := by decide +kernel
theorem dR_pour_57 : decode prog_14_method_16_code 57 = .ok (.ireturn, 1) := by decide +kernel
theorem dR_pour_58 : decode prog_14_method_16_code 58 = .ok (.aload_n 0, 1) := by decide +kernel
theorem dR_pour_59 : decode prog_14_method_16_code 59 = .ok (.getfield 13, 3) := by decide +kernel
theorem dR_pour_62 : decode prog_14_method_16_code 62 = .ok (.iload_n 1, 1) := by decide +kernel
theorem dR_pour_63 : decode prog_14_method_16_code 63 = .ok (.iaload, 1) := by decide +kernel
theorem dR_pour_64 : decode prog_14_method_16_code 64 = .ok (.aload_n 0, 1) := by decide +kernel
theorem dR_pour_65 : decode prog_14_method_16_code 65 = .ok (.getfield 13, 3) := by decide +kernel
theorem dR_pour_68 : decode prog_14_method_16_code 68 = .ok (.iload_n 3, 1) := by decide +kernel
theorem dR_pour_69 : decode prog_14_method_16_code 69 = .ok (.iaload, 1) := by decide +kernel
theorem dR_pour_70 : decode prog_14_method_16_code 70 = .ok (.if_icmp .eq 10, 3) := by decide +kernel
theorem dR_pour_73 : decode prog_14_method_16_code 73 = .ok (.aload_n 0, 1) := by decide +kernel
theorem dR_pour_74 : decode prog_14_method_16_code 74 = .ok (.bipush 11, 2) := by decide +kernel
theorem dR_pour_76 : decode prog_14_method_16_code 76 = .ok (.invokevirtual 147, 3) := by decide +kernel
theorem dR_pour_79 : decode prog_14_method_16_code 79 = .ok (.ireturn, 1) := by decide +kernel
theorem dR_pour_80 : decode prog_14_method_16_code 80 = .ok (.iload 5, 2) := by decide +kernel
theorem dR_pour_82 : decode prog_14_method_16_code 82 = .ok (.ifCond .ge 10, 3) := by decide +kernel
theorem dR_pour_85 : decode prog_14_method_16_code 85 = .ok (.aload_n 0, 1) := by decide +kernel
theorem dR_pour_86 : decode prog_14_method_16_code 86 = .ok (.bipush 6, 2) := by decide +kernel
theorem dR_pour_88 : decode prog_14_method_16_code 88 = .ok (.invokevirtual 147, 3) := by decide +kernel
theorem dR_pour_91 : decode prog_14_method_16_code 91 = .ok (.ireturn, 1) := by decide +kernel
theorem dR_pour_92 : decode prog_14_method_16_code 92 = .ok (.iload_n 2, 1) := by decide +kernel
theorem dR_pour_93 : decode prog_14_method_16_code 93 = .ok (.ifCond .lt 43, 3) := by decide +kernel
theorem dR_pour_96 : decode prog_14_method_16_code 96 = .ok (.iload 4, 2) := by decide +kernel
theorem dR_pour_98 : decode prog_14_method_16_code 98 = .ok (.ifCond .lt 38, 3) := by decide +kernel
theorem dR_pour_101 : decode prog_14_method_16_code 101 = .ok (.iload_n 2, 1) := by decide +kernel
theorem dR_pour_102 : decode prog_14_method_16_code 102 = .ok (.i2l, 1) := by decide +kernel
theorem dR_pour_103 : decode prog_14_method_16_code 103 = .ok (.iload 5, 2) := by decide +kernel
theorem dR_pour_105 : decode prog_14_method_16_code 105 = .ok (.i2l, 1) := by decide +kernel
theorem dR_pour_106 : decode prog_14_method_16_code 106 = .ok (.ladd, 1) := by decide +kernel
theorem dR_pour_107 : decode prog_14_method_16_code 107 = .ok (.aload_n 0, 1) := by decide +kernel
theorem dR_pour_108 : decode prog_14_method_16_code 108 = .ok (.getfield 17, 3) := by decide +kernel
theorem dR_pour_111 : decode prog_14_method_16_code 111 = .ok (.iload_n 1, 1) := by decide +kernel
theorem dR_pour_112 : decode prog_14_method_16_code 112 = .ok (.iaload, 1) := by decide +kernel
theorem dR_pour_113 : decode prog_14_method_16_code 113 = .ok (.i2l, 1) := by decide +kernel
theorem dR_pour_114 : decode prog_14_method_16_code 114 = .ok (.lcmp, 1) := by decide +kernel
theorem dR_pour_115 : decode prog_14_method_16_code 115 = .ok (.ifCond .gt 21, 3) := by decide +kernel
theorem dR_pour_118 : decode prog_14_method_16_code 118 = .ok (.iload 4, 2) := by decide +kernel
theorem dR_pour_120 : decode prog_14_method_16_code 120 = .ok (.i2l, 1) := by decide +kernel
theorem dR_pour_121 : decode prog_14_method_16_code 121 = .ok (.iload 5, 2) := by decide +kernel
theorem dR_pour_123 : decode prog_14_method_16_code 123 = .ok (.i2l, 1) := by decide +kernel
theorem dR_pour_124 : decode prog_14_method_16_code 124 = .ok (.ladd, 1) := by decide +kernel
theorem dR_pour_125 : decode prog_14_method_16_code 125 = .ok (.aload_n 0, 1) := by decide +kernel
theorem dR_pour_126 : decode prog_14_method_16_code 126 = .ok (.getfield 17, 3) := by decide +kernel
theorem dR_pour_129 : decode prog_14_method_16_code 129 = .ok (.iload_n 3, 1) := by decide +kernel
theorem dR_pour_130 : decode prog_14_method_16_code 130 = .ok (.iaload, 1) := by decide +kernel
theorem dR_pour_131 : decode prog_14_method_16_code 131 = .ok (.i2l, 1) := by decide +kernel
theorem dR_pour_132 : decode prog_14_method_16_code 132 = .ok (.lcmp, 1) := by decide +kernel
theorem dR_pour_133 : decode prog_14_method_16_code 133 = .ok (.ifCond .le 9, 3) := by decide +kernel
theorem dR_pour_136 : decode prog_14_method_16_code 136 = .ok (.aload_n 0, 1) := by decide +kernel
theorem dR_pour_137 : decode prog_14_method_16_code 137 = .ok (.iconst 4, 1) := by decide +kernel
theorem dR_pour_138 : decode prog_14_method_16_code 138 = .ok (.invokevirtual 147, 3) := by decide +kernel
theorem dR_pour_141 : decode prog_14_method_16_code 141 = .ok (.ireturn, 1) := by decide +kernel
theorem dR_pour_142 : decode prog_14_method_16_code 142 = .ok (.iload_n 2, 1) := by decide +kernel
theorem dR_pour_143 : decode prog_14_method_16_code 143 = .ok (.iload 4, 2) := by decide +kernel
theorem dR_pour_145 : decode prog_14_method_16_code 145 = .ok (.if_icmp .ge 7, 3) := by decide +kernel
theorem dR_pour_148 : decode prog_14_method_16_code 148 = .ok (.iconst 1, 1) := by decide +kernel
theorem dR_pour_149 : decode prog_14_method_16_code 149 = .ok (.goto 4, 3) := by decide +kernel
theorem dR_pour_152 : decode prog_14_method_16_code 152 = .ok (.iconst 0, 1) := by decide +kernel
theorem dR_pour_153 : decode prog_14_method_16_code 153 = .ok (.istore 6, 2) := by decide +kernel
theorem dR_pour_155 : decode prog_14_method_16_code 155 = .ok (.iconst 0, 1) := by decide +kernel
theorem dR_pour_156 : decode prog_14_method_16_code 156 = .ok (.istore 7, 2) := by decide +kernel
theorem dR_pour_158 : decode prog_14_method_16_code 158 = .ok (.iload 7, 2) := by decide +kernel
theorem dR_pour_160 : decode prog_14_method_16_code 160 = .ok (.iload 5, 2) := by decide +kernel
theorem dR_pour_162 : decode prog_14_method_16_code 162 = .ok (.if_icmp .ge 57, 3) := by decide +kernel
theorem dR_pour_165 : decode prog_14_method_16_code 165 = .ok (.iload 6, 2) := by decide +kernel
theorem dR_pour_167 : decode prog_14_method_16_code 167 = .ok (.ifCond .eq 13, 3) := by decide +kernel
theorem dR_pour_170 : decode prog_14_method_16_code 170 = .ok (.iload 5, 2) := by decide +kernel
theorem dR_pour_172 : decode prog_14_method_16_code 172 = .ok (.iconst 1, 1) := by decide +kernel
theorem dR_pour_173 : decode prog_14_method_16_code 173 = .ok (.isub, 1) := by decide +kernel
theorem dR_pour_174 : decode prog_14_method_16_code 174 = .ok (.iload 7, 2) := by decide +kernel
theorem dR_pour_176 : decode prog_14_method_16_code 176 = .ok (.isub, 1) := by decide +kernel
theorem dR_pour_177 : decode prog_14_method_16_code 177 = .ok (.goto 5, 3) := by decide +kernel
theorem dR_pour_180 : decode prog_14_method_16_code 180 = .ok (.iload 7, 2) := by decide +kernel
theorem dR_pour_182 : decode prog_14_method_16_code 182 = .ok (.istore 8, 2) := by decide +kernel
theorem dR_pour_184 : decode prog_14_method_16_code 184 = .ok (.aload_n 0, 1) := by decide +kernel
theorem dR_pour_185 : decode prog_14_method_16_code 185 = .ok (.getfield 20, 3) := by decide +kernel
theorem dR_pour_188 : decode prog_14_method_16_code 188 = .ok (.bipush 60, 2) := by decide +kernel
theorem dR_pour_190 : decode prog_14_method_16_code 190 = .ok (.iload_n 3, 1) := by decide +kernel
theorem dR_pour_191 : decode prog_14_method_16_code 191 = .ok (.imul, 1) := by decide +kernel
theorem dR_pour_192 : decode prog_14_method_16_code 192 = .ok (.iload 4, 2) := by decide +kernel
theorem dR_pour_194 : decode prog_14_method_16_code 194 = .ok (.iadd, 1) := by decide +kernel
theorem dR_pour_195 : decode prog_14_method_16_code 195 = .ok (.iload 8, 2) := by decide +kernel
theorem dR_pour_197 : decode prog_14_method_16_code 197 = .ok (.iadd, 1) := by decide +kernel
theorem dR_pour_198 : decode prog_14_method_16_code 198 = .ok (.aload_n 0, 1) := by decide +kernel
theorem dR_pour_199 : decode prog_14_method_16_code 199 = .ok (.getfield 20, 3) := by decide +kernel
theorem dR_pour_202 : decode prog_14_method_16_code 202 = .ok (.bipush 60, 2) := by decide +kernel
theorem dR_pour_204 : decode prog_14_method_16_code 204 = .ok (.iload_n 1, 1) := by decide +kernel
theorem dR_pour_205 : decode prog_14_method_16_code 205 = .ok (.imul, 1) := by decide +kernel
theorem dR_pour_206 : decode prog_14_method_16_code 206 = .ok (.iload_n 2, 1) := by decide +kernel
theorem dR_pour_207 : decode prog_14_method_16_code 207 = .ok (.iadd, 1) := by decide +kernel
theorem dR_pour_208 : decode prog_14_method_16_code 208 = .ok (.iload 8, 2) := by decide +kernel
theorem dR_pour_210 : decode prog_14_method_16_code 210 = .ok (.iadd, 1) := by decide +kernel
theorem dR_pour_211 : decode prog_14_method_16_code 211 = .ok (.laload, 1) := by decide +kernel
theorem dR_pour_212 : decode prog_14_method_16_code 212 = .ok (.lastore, 1) := by decide +kernel
theorem dR_pour_213 : decode prog_14_method_16_code 213 = .ok (.iinc 7 1, 3) := by decide +kernel
theorem dR_pour_216 : decode prog_14_method_16_code 216 = .ok (.goto (-58), 3) := by decide +kernel
theorem dR_pour_219 : decode prog_14_method_16_code 219 = .ok (.iconst 1, 1) := by decide +kernel
theorem dR_pour_220 : decode prog_14_method_16_code 220 = .ok (.ireturn, 1) := by decide +kernel
theorem t_R_pour {d : Nat} {x1 x2 x3 x4 x5 : Int} {σ : SG} {Q : Int → SG → Prop} (h : inI x1 → inI x2 → inI x3 → inI x4 → inI x5 → ((∀ σ1, σ1 = up σ 161 1 0 → (∀ σ2, σ2 = up σ1 161 0 0 → (x1 < 0 → Tri d M_R_no [vA 161, vI 1] σ2 (fun r4 σ4 => (r4 = 0 ∨ r4 = 1) ∧ Q r4 σ4)) ∧ (0 ≤ x1 → (4 ≤ x1 → Tri d M_R_no [vA 161, vI 1] σ2 (fun r6 σ6 => (r6 = 0 ∨ r6 = 1) ∧ Q r6 σ6)) ∧ (x1 < 4 → (x3 < 0 → Tri d M_R_no [vA 161, vI 1] σ2 (fun r8 σ8 => (r8 = 0 ∨ r8 = 1) ∧ Q r8 σ8)) ∧ (0 ≤ x3 → (x3 < 4 → (0 ≤ x1 ∧ x1 < 4) ∧ (σ2 163 x1 < 0 → Tri d M_R_no [vA 161, vI 3] σ2 (fun r11 σ11 => (r11 = 0 ∨ r11 = 1) ∧ Q r11 σ11)) ∧ (0 ≤ σ2 163 x1 → (0 ≤ x3 ∧ x3 < 4) ∧ (0 ≤ σ2 163 x3 → (0 ≤ x1 ∧ x1 < 4) ∧ (0 ≤ x3 ∧ x3 < 4) ∧ (σ2 162 x1 = σ2 162 x3 → (0 ≤ x5 → (x2 < 0 → Tri d M_R_no [vA 161, vI 4] σ2 (fun r16 σ16 => (r16 = 0 ∨ r16 = 1) ∧ Q r16 σ16)) ∧ (0 ≤ x2 → (x4 < 0 → Tri d M_R_no [vA 161, vI 4] σ2 (fun r18 σ18 => (r18 = 0 ∨ r18 = 1) ∧ Q r18 σ18)) ∧ (0 ≤ x4 → (0 ≤ x1 ∧ x1 < 4) ∧ (0 < cmp3 (w64 (x2 + x5)) (σ2 163 x1) → Tri d M_R_no [vA 161, vI 4] σ2 (fun r20 σ20 => (r20 = 0 ∨ r20 = 1) ∧ Q r20 σ20)) ∧ (cmp3 (w64 (x2 + x5)) (σ2 163 x1) ≤ 0 → (0 ≤ x3 ∧ x3 < 4) ∧ (cmp3 (w64 (x4 + x5)) (σ2 163 x3) ≤ 0 → (x4 ≤ x2 → L (d + 1) M_R_pour 158 [vA 161, vI x1, vI x2, vI x3, vI x4, vI x5, vI 0, vI 0, vU] [] σ2 Q) ∧ (x2 < x4 → L (d + 1) M_R_pour 158 [vA 161, vI x1, vI x2, vI x3, vI x4, vI x5, vI 1, vI 0, vU] [] σ2 Q)) ∧ (0 < cmp3 (w64 (x4 + x5)) (σ2 163 x3) → Tri d M_R_no [vA 161, vI 4] σ2 (fun r23 σ23 => (r23 = 0 ∨ r23 = 1) ∧ Q r23 σ23)))))) ∧ (x5 < 0 → Tri d M_R_no [vA 161, vI 6] σ2 (fun r24 σ24 => (r24 = 0 ∨ r24 = 1) ∧ Q r24 σ24))) ∧ (σ2 162 x1 ≠ σ2 162 x3 → Tri d M_R_no [vA 161, vI 11] σ2 (fun r25 σ25 => (r25 = 0 ∨ r25 = 1) ∧ Q r25 σ25))) ∧ (σ2 163 x3 < 0 → Tri d M_R_no [vA 161, vI 3] σ2 (fun r26 σ26 => (r26 = 0 ∨ r26 = 1) ∧ Q r26 σ26)))) ∧ (4 ≤ x3 → Tri d M_R_no [vA 161, vI 1] σ2 (fun r27 σ27 => (r27 = 0 ∨ r27 = 1) ∧ Q r27 σ27))))))))) : Tri (d + 1) M_R_pour [vA 161, vI x1, vI x2, vI x3, vI x4, vI x5] σ Q :=
  Tri_intro rfl (Nat.le_of_ble_eq_true rfl) (ls := [vA 161, vI x1, vI x2, vI x3, vI x4, vI x5, vU, vU, vU]) rfl (fun hok => L_aload_n dR_pour_0 rfl (L_iconst dR_pour_1 in_0 (L_putfN fp_R_132 rfl rfl (fun _ => ⟨rfl, rfl⟩) dR_pour_2 ⟨ob_161, fun σ1 e1 => L_aload_n dR_pour_5 rfl (L_iconst dR_pour_6 in_0 (L_putfN fp_R_135 rfl rfl (fun _ => ⟨rfl, rfl⟩) dR_pour_7 ⟨ob_161, fun σ2 e2 => L_iload_n dR_pour_10 rfl (L_if_lt dR_pour_11 (by decide) ⟨fun c3 => L_aload_n dR_pour_28 rfl (L_iconst dR_pour_29 in_1 (L_callVI rfl cv_R_no (As := [vI 1]) rfl (tk7 188 rfl rfl) rfl (Nat.le_of_ble_eq_true rfl) dR_pour_30 ⟨ob_161, Tri.mono ((((h (hok _ (List.mem_of_getElem? (i := 1) rfl)) (hok _ (List.mem_of_getElem? (i := 2) rfl)) (hok _ (List.mem_of_getElem? (i := 3) rfl)) (hok _ (List.mem_of_getElem? (i := 4) rfl)) (hok _ (List.mem_of_getElem? (i := 5) rfl))) σ1 e1) σ2 e2).1 c3) (fun r4 σ4 q4 => L_zreturn rfl dR_pour_33 q4)⟩)), fun c3 => L_iload_n dR_pour_14 rfl (L_iconst dR_pour_15 in_4 (L_icmp_ge dR_pour_16 (by decide) ⟨fun c5 => L_aload_n dR_pour_28 rfl (L_iconst dR_pour_29 in_1 (L_callVI rfl cv_R_no (As := [vI 1]) rfl (tk7 188 rfl rfl) rfl (Nat.le_of_ble_eq_true rfl) dR_pour_30 ⟨ob_161, Tri.mono (((((h (hok _ (List.mem_of_getElem? (i := 1) rfl)) (hok _ (List.mem_of_getElem? (i := 2) rfl)) (hok _ (List.mem_of_getElem? (i := 3) rfl)) (hok _ (List.mem_of_getElem? (i := 4) rfl)) (hok _ (List.mem_of_getElem? (i := 5) rfl))) σ1 e1) σ2 e2).2 c3).1 c5) (fun r6 σ6 q6 => L_zreturn rfl dR_pour_33 q6)⟩)), fun c5 => L_iload_n dR_pour_19 rfl (L_if_lt dR_pour_20 (by decide) ⟨fun c7 => L_aload_n dR_pour_28 rfl (L_iconst dR_pour_29 in_1 (L_callVI rfl cv_R_no (As := [vI 1]) rfl (tk7 188 rfl rfl) rfl (Nat.le_of_ble_eq_true rfl) dR_pour_30 ⟨ob_161, Tri.mono ((((((h (hok _ (List.mem_of_getElem? (i := 1) rfl)) (hok _ (List.mem_of_getElem? (i := 2) rfl)) (hok _ (List.mem_of_getElem? (i := 3) rfl)) (hok _ (List.mem_of_getElem? (i := 4) rfl)) (hok _ (List.mem_of_getElem? (i := 5) rfl))) σ1 e1) σ2 e2).2 c3).2 c5).1 c7) (fun r8 σ8 q8 => L_zreturn rfl dR_pour_33 q8)⟩)), fun c7 => L_iload_n dR_pour_23 rfl (L_iconst dR_pour_24 in_4 (L_icmp_lt dR_pour_25 (by decide) ⟨fun c9 => L_aload_n dR_pour_34 rfl (L_getF (b := 163) fw_R_17 rfl rfl (by decide) dR_pour_35 ⟨ob_161, L_iload_n dR_pour_38 rfl (L_ialoadL kd_163 dR_pour_39 ⟨(((((((h (hok _ (List.mem_of_getElem? (i := 1) rfl)) (hok _ (List.mem_of_getElem? (i := 2) rfl)) (hok _ (List.mem_of_getElem? (i := 3) rfl)) (hok _ (List.mem_of_getElem? (i := 4) rfl)) (hok _ (List.mem_of_getElem? (i := 5) rfl))) σ1 e1) σ2 e2).2 c3).2 c5).2 c7).1 c9).1, L_if_lt dR_pour_40 (by decide) ⟨fun c10 => L_aload_n dR_pour_52 rfl (L_iconst dR_pour_53 in_3 (L_callVI rfl cv_R_no (As := [vI 3]) rfl (tk7 188 rfl rfl) rfl (Nat.le_of_ble_eq_true rfl) dR_pour_54 ⟨ob_161, Tri.mono ((((((((h (hok _ (List.mem_of_getElem? (i := 1) rfl)) (hok _ (List.mem_of_getElem? (i := 2) rfl)) (hok _ (List.mem_of_getElem? (i := 3) rfl)) (hok _ (List.mem_of_getElem? (i := 4) rfl)) (hok _ (List.mem_of_getElem? (i := 5) rfl))) σ1 e1) σ2 e2).2 c3).2 c5).2 c7).1 c9).2.1 c10) (fun r11 σ11 q11 => L_zreturn rfl dR_pour_57 q11)⟩)), fun c10 => L_aload_n dR_pour_43 rfl (L_getF (b := 163) fw_R_17 rfl rfl (by decide) dR_pour_44 ⟨ob_161, L_iload_n dR_pour_47 rfl (L_ialoadL kd_163 dR_pour_48 ⟨((((((((h (hok _ (List.mem_of_getElem? (i := 1) rfl)) (hok _ (List.mem_of_getElem? (i := 2) rfl)) (hok _ (List.mem_of_getElem? (i := 3) rfl)) (hok _ (List.mem_of_getElem? (i := 4) rfl)) (hok _ (List.mem_of_getElem? (i := 5) rfl))) σ1 e1) σ2 e2).2 c3).2 c5).2 c7).1 c9).2.2 c10).1, L_if_ge dR_pour_49 (by decide) ⟨fun c12 => L_aload_n dR_pour_58 rfl (L_getF (b := 162) fw_R_13 rfl rfl (by decide) dR_pour_59 ⟨ob_161, L_iload_n dR_pour_62 rfl (L_ialoadL kd_162 dR_pour_63 ⟨(((((((((h (hok _ (List.mem_of_getElem? (i := 1) rfl)) (hok _ (List.mem_of_getElem? (i := 2) rfl)) (hok _ (List.mem_of_getElem? (i := 3) rfl)) (hok _ (List.mem_of_getElem? (i := 4) rfl)) (hok _ (List.mem_of_getElem? (i := 5) rfl))) σ1 e1) σ2 e2).2 c3).2 c5).2 c7).1 c9).2.2 c10).2.1 c12).1, L_aload_n dR_pour_64 rfl (L_getF (b := 162) fw_R_13 rfl rfl (by decide) dR_pour_65 ⟨ob_161, L_iload_n dR_pour_68 rfl (L_ialoadL kd_162 dR_pour_69 ⟨(((((((((h (hok _ (List.mem_of_getElem? (i := 1) rfl)) (hok _ (List.mem_of_getElem? (i := 2) rfl)) (hok _ (List.mem_of_getElem? (i := 3) rfl)) (hok _ (List.mem_of_getElem? (i := 4) rfl)) (hok _ (List.mem_of_getElem? (i := 5) rfl))) σ1 e1) σ2 e2).2 c3).2 c5).2 c7).1 c9).2.2 c10).2.1 c12).2.1, L_icmp_eq dR_pour_70 (by decide) ⟨fun c13 => L_iload dR_pour_80 rfl (L_if_ge dR_pour_82 (by decide) ⟨fun c14 => L_iload_n dR_pour_92 rfl (L_if_lt dR_pour_93 (by decide) ⟨fun c15 => L_aload_n dR_pour_136 rfl (L_iconst dR_pour_137 in_4 (L_callVI rfl cv_R_no (As := [vI 4]) rfl (tk7 188 rfl rfl) rfl (Nat.le_of_ble_eq_true rfl) dR_pour_138 ⟨ob_161, Tri.mono ((((((((((((h (hok _ (List.mem_of_getElem? (i := 1) rfl)) (hok _ (List.mem_of_getElem? (i := 2) rfl)) (hok _ (List.mem_of_getElem? (i := 3) rfl)) (hok _ (List.mem_of_getElem? (i := 4) rfl)) (hok _ (List.mem_of_getElem? (i := 5) rfl))) σ1 e1) σ2 e2).2 c3).2 c5).2 c7).1 c9).2.2 c10).2.1 c12).2.2.1 c13).1 c14).1 c15) (fun r16 σ16 q16 => L_zreturn rfl dR_pour_141 q16)⟩)), fun c15 => L_iload dR_pour_96 rfl (L_if_lt dR_pour_98 (by decide) ⟨fun c17 => L_aload_n dR_pour_136 rfl (L_iconst dR_pour_137 in_4 (L_callVI rfl cv_R_no (As := [vI 4]) rfl (tk7 188 rfl rfl) rfl (Nat.le_of_ble_eq_true rfl) dR_pour_138 ⟨ob_161, Tri.mono (((((((((((((h (hok _ (List.mem_of_getElem? (i := 1) rfl)) (hok _ (List.mem_of_getElem? (i := 2) rfl)) (hok _ (List.mem_of_getElem? (i := 3) rfl)) (hok _ (List.mem_of_getElem? (i := 4) rfl)) (hok _ (List.mem_of_getElem? (i := 5) rfl))) σ1 e1) σ2 e2).2 c3).2 c5).2 c7).1 c9).2.2 c10).2.1 c12).2.2.1 c13).1 c14).2 c15).1 c17) (fun r18 σ18 q18 => L_zreturn rfl dR_pour_141 q18)⟩)), fun c17 => L_iload_n dR_pour_101 rfl (L_i2l dR_pour_102 (L_iload dR_pour_103 rfl (L_i2l dR_pour_105 (L_ladd dR_pour_106 (L_aload_n dR_pour_107 rfl (L_getF (b := 163) fw_R_17 rfl rfl (by decide) dR_pour_108 ⟨ob_161, L_iload_n dR_pour_111 rfl (L_ialoadL kd_163 dR_pour_112 ⟨(((((((((((((h (hok _ (List.mem_of_getElem? (i := 1) rfl)) (hok _ (List.mem_of_getElem? (i := 2) rfl)) (hok _ (List.mem_of_getElem? (i := 3) rfl)) (hok _ (List.mem_of_getElem? (i := 4) rfl)) (hok _ (List.mem_of_getElem? (i := 5) rfl))) σ1 e1) σ2 e2).2 c3).2 c5).2 c7).1 c9).2.2 c10).2.1 c12).2.2.1 c13).1 c14).2 c15).2 c17).1, L_i2l dR_pour_113 (L_lcmp dR_pour_114 (L_if_gt dR_pour_115 (by decide) ⟨fun c19 => L_aload_n dR_pour_136 rfl (L_iconst dR_pour_137 in_4 (L_callVI rfl cv_R_no (As := [vI 4]) rfl (tk7 188 rfl rfl) rfl (Nat.le_of_ble_eq_true rfl) dR_pour_138 ⟨ob_161, Tri.mono ((((((((((((((h (hok _ (List.mem_of_getElem? (i := 1) rfl)) (hok _ (List.mem_of_getElem? (i := 2) rfl)) (hok _ (List.mem_of_getElem? (i := 3) rfl)) (hok _ (List.mem_of_getElem? (i := 4) rfl)) (hok _ (List.mem_of_getElem? (i := 5) rfl))) σ1 e1) σ2 e2).2 c3).2 c5).2 c7).1 c9).2.2 c10).2.1 c12).2.2.1 c13).1 c14).2 c15).2 c17).2.1 c19) (fun r20 σ20 q20 => L_zreturn rfl dR_pour_141 q20)⟩)), fun c19 => L_iload dR_pour_118 rfl (L_i2l dR_pour_120 (L_iload dR_pour_121 rfl (L_i2l dR_pour_123 (L_ladd dR_pour_124 (L_aload_n dR_pour_125 rfl (L_getF (b := 163) fw_R_17 rfl rfl (by decide) dR_pour_126 ⟨ob_161, L_iload_n dR_pour_129 rfl (L_ialoadL kd_163 dR_pour_130 ⟨((((((((((((((h (hok _ (List.mem_of_getElem? (i := 1) rfl)) (hok _ (List.mem_of_getElem? (i := 2) rfl)) (hok _ (List.mem_of_getElem? (i := 3) rfl)) (hok _ (List.mem_of_getElem? (i := 4) rfl)) (hok _ (List.mem_of_getElem? (i := 5) rfl))) σ1 e1) σ2 e2).2 c3).2 c5).2 c7).1 c9).2.2 c10).2.1 c12).2.2.1 c13).1 c14).2 c15).2 c17).2.2 c19).1, L_i2l dR_pour_131 (L_lcmp dR_pour_132 (L_if_le dR_pour_133 (by decide) ⟨fun c21 => L_iload_n dR_pour_142 rfl (L_iload dR_pour_143 rfl (L_icmp_ge dR_pour_145 (by decide) ⟨fun c22 => L_iconst dR_pour_152 in_0 (L_istore dR_pour_153 (by decide) (L_iconst dR_pour_155 in_0 (L_istore dR_pour_156 (by decide) ((((((((((((((((h (hok _ (List.mem_of_getElem? (i := 1) rfl)) (hok _ (List.mem_of_getElem? (i := 2) rfl)) (hok _ (List.mem_of_getElem? (i := 3) rfl)) (hok _ (List.mem_of_getElem? (i := 4) rfl)) (hok _ (List.mem_of_getElem? (i := 5) rfl))) σ1 e1) σ2 e2).2 c3).2 c5).2 c7).1 c9).2.2 c10).2.1 c12).2.2.1 c13).1 c14).2 c15).2 c17).2.2 c19).2.1 c21).1 c22)))), fun c22 => L_iconst dR_pour_148 in_1 (L_goto dR_pour_149 (by decide) (L_istore dR_pour_153 (by decide) (L_iconst dR_pour_155 in_0 (L_istore dR_pour_156 (by decide) ((((((((((((((((h (hok _ (List.mem_of_getElem? (i := 1) rfl)) (hok _ (List.mem_of_getElem? (i := 2) rfl)) (hok _ (List.mem_of_getElem? (i := 3) rfl)) (hok _ (List.mem_of_getElem? (i := 4) rfl)) (hok _ (List.mem_of_getElem? (i := 5) rfl))) σ1 e1) σ2 e2).2 c3).2 c5).2 c7).1 c9).2.2 c10).2.1 c12).2.2.1 c13).1 c14).2 c15).2 c17).2.2 c19).2.1 c21).2 c22)))))⟩)), fun c21 => L_aload_n dR_pour_136 rfl (L_iconst dR_pour_137 in_4 (L_callVI rfl cv_R_no (As := [vI 4]) rfl (tk7 188 rfl rfl) rfl (Nat.le_of_ble_eq_true rfl) dR_pour_138 ⟨ob_161, Tri.mono (((((((((((((((h (hok _ (List.mem_of_getElem? (i := 1) rfl)) (hok _ (List.mem_of_getElem? (i := 2) rfl)) (hok _ (List.mem_of_getElem? (i := 3) rfl)) (hok _ (List.mem_of_getElem? (i := 4) rfl)) (hok _ (List.mem_of_getElem? (i := 5) rfl))) σ1 e1) σ2 e2).2 c3).2 c5).2 c7).1 c9).2.2 c10).2.1 c12).2.2.1 c13).1 c14).2 c15).2 c17).2.2 c19).2.2 c21) (fun r23 σ23 q23 => L_zreturn rfl dR_pour_141 q23)⟩))⟩))⟩)⟩))))))⟩))⟩)⟩))))))⟩)⟩), fun c14 => L_aload_n dR_pour_85 rfl (L_bipush dR_pour_86 bp_6 in_6 (L_callVI rfl cv_R_no (As := [vI 6]) rfl (tk7 188 rfl rfl) rfl (Nat.le_of_ble_eq_true rfl) dR_pour_88 ⟨ob_161, Tri.mono (((((((((((h (hok _ (List.mem_of_getElem? (i := 1) rfl)) (hok _ (List.mem_of_getElem? (i := 2) rfl)) (hok _ (List.mem_of_getElem? (i := 3) rfl)) (hok _ (List.mem_of_getElem? (i := 4) rfl)) (hok _ (List.mem_of_getElem? (i := 5) rfl))) σ1 e1) σ2 e2).2 c3).2 c5).2 c7).1 c9).2.2 c10).2.1 c12).2.2.1 c13).2 c14) (fun r24 σ24 q24 => L_zreturn rfl dR_pour_91 q24)⟩))⟩), fun c13 => L_aload_n dR_pour_73 rfl (L_bipush dR_pour_74 bp_11 in_11 (L_callVI rfl cv_R_no (As := [vI 11]) rfl (tk7 188 rfl rfl) rfl (Nat.le_of_ble_eq_true rfl) dR_pour_76 ⟨ob_161, Tri.mono ((((((((((h (hok _ (List.mem_of_getElem? (i := 1) rfl)) (hok _ (List.mem_of_getElem? (i := 2) rfl)) (hok _ (List.mem_of_getElem? (i := 3) rfl)) (hok _ (List.mem_of_getElem? (i := 4) rfl)) (hok _ (List.mem_of_getElem? (i := 5) rfl))) σ1 e1) σ2 e2).2 c3).2 c5).2 c7).1 c9).2.2 c10).2.1 c12).2.2.2 c13) (fun r25 σ25 q25 => L_zreturn rfl dR_pour_79 q25)⟩))⟩⟩)⟩)⟩)⟩), fun c12 => L_aload_n dR_pour_52 rfl (L_iconst dR_pour_53 in_3 (L_callVI rfl cv_R_no (As := [vI 3]) rfl (tk7 188 rfl rfl) rfl (Nat.le_of_ble_eq_true rfl) dR_pour_54 ⟨ob_161, Tri.mono (((((((((h (hok _ (List.mem_of_getElem? (i := 1) rfl)) (hok _ (List.mem_of_getElem? (i := 2) rfl)) (hok _ (List.mem_of_getElem? (i := 3) rfl)) (hok _ (List.mem_of_getElem? (i := 4) rfl)) (hok _ (List.mem_of_getElem? (i := 5) rfl))) σ1 e1) σ2 e2).2 c3).2 c5).2 c7).1 c9).2.2 c10).2.2 c12) (fun r26 σ26 q26 => L_zreturn rfl dR_pour_57 q26)⟩))⟩⟩)⟩)⟩⟩)⟩), fun c9 => L_aload_n dR_pour_28 rfl (L_iconst dR_pour_29 in_1 (L_callVI rfl cv_R_no (As := [vI 1]) rfl (tk7 188 rfl rfl) rfl (Nat.le_of_ble_eq_true rfl) dR_pour_30 ⟨ob_161, Tri.mono (((((((h (hok _ (List.mem_of_getElem? (i := 1) rfl)) (hok _ (List.mem_of_getElem? (i := 2) rfl)) (hok _ (List.mem_of_getElem? (i := 3) rfl)) (hok _ (List.mem_of_getElem? (i := 4) rfl)) (hok _ (List.mem_of_getElem? (i := 5) rfl))) σ1 e1) σ2 e2).2 c3).2 c5).2 c7).2 c9) (fun r27 σ27 q27 => L_zreturn rfl dR_pour_33 q27)⟩))⟩))⟩)⟩))⟩)⟩))⟩)))
theorem s_R_pour_158 {d : Nat} {x1 x2 x3 x4 x5 x6 x7 : Int} {σ : SG} {Q : Int → SG → Prop} (h : (x5 ≤ x7 → Q 1 σ) ∧ (x7 < x5 → (x6 = 0 → L (d + 1) M_R_pour 182 [vA 161, vI x1, vI x2, vI x3, vI x4, vI x5, vI x6, vI x7, vU] [vI x7] σ Q) ∧ (x6 ≠ 0 → L (d + 1) M_R_pour 182 [vA 161, vI x1, vI x2, vI x3, vI x4, vI x5, vI x6, vI x7, vU] [vI (w32 ((w32 (x5 - 1)) - x7))] σ Q))) : L (d + 1) M_R_pour 158 [vA 161, vI x1, vI x2, vI x3, vI x4, vI x5, vI x6, vI x7, vU] [] σ Q :=
  L_iload dR_pour_158 rfl (L_iload dR_pour_160 rfl (L_icmp_ge dR_pour_162 (by decide) ⟨fun c1 => L_iconst dR_pour_219 in_1 (L_zreturn1 rfl dR_pour_220 (h.1 c1)), fun c1 => L_iload dR_pour_165 rfl (L_if_eq dR_pour_167 (by decide) ⟨fun c2 => L_iload dR_pour_180 rfl ((h.2 c1).1 c2), fun c2 => L_iload dR_pour_170 rfl (L_iconst dR_pour_172 in_1 (L_isub dR_pour_173 (L_iload dR_pour_174 rfl (L_isub dR_pour_176 (L_goto dR_pour_177 (by decide) ((h.2 c1).2 c2))))))⟩)⟩))
theorem s_R_pour_182 {d : Nat} {x1 x2 x3 x4 x5 x6 x7 y0 : Int} {σ : SG} {Q : Int → SG → Prop} (h : (0 ≤ w32 ((w32 ((w32 (60 * x1)) + x2)) + y0) ∧ w32 ((w32 ((w32 (60 * x1)) + x2)) + y0) < 240) ∧ (0 ≤ w32 ((w32 ((w32 (60 * x3)) + x4)) + y0) ∧ w32 ((w32 ((w32 (60 * x3)) + x4)) + y0) < 240) ∧ (∀ σ1, σ1 = up σ 164 (w32 ((w32 ((w32 (60 * x3)) + x4)) + y0)) (σ 164 (w32 ((w32 ((w32 (60 * x1)) + x2)) + y0))) → L (d + 1) M_R_pour 158 [vA 161, vI x1, vI x2, vI x3, vI x4, vI x5, vI x6, vI (w32 (x7 + 1)), vU] [] σ1 Q)) : L (d + 1) M_R_pour 182 [vA 161, vI x1, vI x2, vI x3, vI x4, vI x5, vI x6, vI x7, vU] [vI y0] σ Q :=
  L_istore dR_pour_182 (by decide) (L_aload_n dR_pour_184 rfl (L_getF (b := 164) fw_R_20 rfl rfl (by decide) dR_pour_185 ⟨ob_161, L_bipush dR_pour_188 bp_60 in_60 (L_iload_n dR_pour_190 rfl (L_imul dR_pour_191 (L_iload dR_pour_192 rfl (L_iadd dR_pour_194 (L_iload dR_pour_195 rfl (L_iadd dR_pour_197 (L_aload_n dR_pour_198 rfl (L_getF (b := 164) fw_R_20 rfl rfl (by decide) dR_pour_199 ⟨ob_161, L_bipush dR_pour_202 bp_60 in_60 (L_iload_n dR_pour_204 rfl (L_imul dR_pour_205 (L_iload_n dR_pour_206 rfl (L_iadd dR_pour_207 (L_iload dR_pour_208 rfl (L_iadd dR_pour_210 (L_laloadL kd_164 dR_pour_211 ⟨h.1, L_lastoreL (by decide) kd_164 dR_pour_212 ⟨h.2.1, fun σ1 e1 => L_iinc dR_pour_213 rfl (by decide) (L_goto dR_pour_216 (by decide) (L_weak [true, true, true, true, true, true, true, true, false] (h.2.2 σ1 e1)))⟩⟩)))))))⟩))))))))⟩))
theorem dR_numberOf_0 : decode prog_14_method_17_code 0 = .ok (.aload_n 0, 1) := by decide +kernel
theorem dR_numberOf_1 : decode prog_14_method_17_code 1 = .ok (.getfield 20, 3) := by decide +kernel
theorem dR_numberOf_4 : decode prog_14_method_17_code 4 = .ok (.bipush 60, 2) := by decide +kernel
theorem dR_numberOf_6 : decode prog_14_method_17_code 6 = .ok (.iload_n 1, 1) := by decide +kernel
theorem dR_numberOf_7 : decode prog_14_method_17_code 7 = .ok (.imul, 1) := by decide +kernel
theorem dR_numberOf_8 : decode prog_14_method_17_code 8 = .ok (.iload_n 2, 1) := by decide +kernel
theorem dR_numberOf_9 : decode prog_14_method_17_code 9 = .ok (.iadd, 1) := by decide +kernel
theorem dR_numberOf_10 : decode prog_14_method_17_code 10 = .ok (.laload, 1) := by decide +kernel
theorem dR_numberOf_11 : decode prog_14_method_17_code 11 = .ok (.lreturn, 1) := by decide +kernel
theorem t_R_numberOf {d : Nat} {x1 x2 : Int} {σ : SG} {Q : Int → SG → Prop} (h : inI x1 → inI x2 → ((0 ≤ w32 ((w32 (60 * x1)) + x2) ∧ w32 ((w32 (60 * x1)) + x2) < 240) ∧ Q (σ 164 (w32 ((w32 (60 * x1)) + x2))) σ)) : Tri (d + 1) M_R_numberOf [vA 161, vI x1, vI x2] σ Q :=
  Tri_intro rfl (Nat.le_of_ble_eq_true rfl) (ls := [vA 161, vI x1, vI x2]) rfl (fun hok => L_aload_n dR_numberOf_0 rfl (L_getF (b := 164) fw_R_20 rfl rfl (by decide) dR_numberOf_1 ⟨ob_161, L_bipush dR_numberOf_4 bp_60 in_60 (L_iload_n dR_numberOf_6 rfl (L_imul dR_numberOf_7 (L_iload_n dR_numberOf_8 rfl (L_iadd dR_numberOf_9 (L_laloadL kd_164 dR_numberOf_10 ⟨(h (hok _ (List.mem_of_getElem? (i := 1) rfl)) (hok _ (List.mem_of_getElem? (i := 2) rfl))).1, L_lreturn rfl dR_numberOf_11 ((h (hok _ (List.mem_of_getElem? (i := 1) rfl)) (hok _ (List.mem_of_getElem? (i := 2) rfl))).2)⟩)))))⟩))
theorem dR_isTray_0 : decode prog_14_method_18_code 0 = .ok (.iload_n 1, 1) := by decide +kernel
theorem dR_isTray_1 : decode prog_14_method_18_code 1 = .ok (.i2l, 1) := by decide +kernel
theorem dR_isTray_2 : decode prog_14_method_18_code 2 = .ok (.lconst 0, 1) := by decide +kernel
theorem dR_isTray_3 : decode prog_14_method_18_code 3 = .ok (.ldc2_w 165, 3) := by decide +kernel
theorem dR_isTray_6 : decode prog_14_method_18_code 6 = .ok (.invokestatic 167, 3) := by decide +kernel
theorem dR_isTray_9 : decode prog_14_method_18_code 9 = .ok (.ireturn, 1) := by decide +kernel
theorem t_R_isTray {d : Nat} {x1 : Int} {σ : SG} {Q : Int → SG → Prop} (h : inI x1 → (Tri d M_R_isIn [vJ x1, vJ 0, vJ 3] σ (fun r1 σ1 => (r1 = 0 ∨ r1 = 1) ∧ Q r1 σ1))) : Tri (d + 1) M_R_isTray [vA 161, vI x1] σ Q :=
  Tri_intro rfl (Nat.le_of_ble_eq_true rfl) (ls := [vA 161, vI x1]) rfl (fun hok => L_iload_n dR_isTray_0 rfl (L_i2l dR_isTray_1 (L_lconst (x := 0) dR_isTray_2 rfl inJ_0 (L_ldc2 (x := 3) (tk8 116 rfl rfl) rfl inJ_3 dR_isTray_3 (L_callSI rfl cs_R_isIn (As := [vJ x1, vJ 0, vJ 3]) rfl (tk8 47 rfl rfl) rfl (Nat.le_of_ble_eq_true rfl) dR_isTray_6 (Tri.mono ((h (hok _ (List.mem_of_getElem? (i := 1) rfl)))) (fun r1 σ1 q1 => L_zreturn rfl dR_isTray_9 q1)))))))
theorem dR_look2_0 : decode prog_14_method_19_code 0 = .ok (.iload_n 1, 1) := by decide +kernel
theorem dR_look2_1 : decode prog_14_method_19_code 1 = .ok (.aload_n 0, 1) := by decide +kernel
theorem dR_look2_2 : decode prog_14_method_19_code 2 = .ok (.getfield 171, 3) := by decide +kernel
theorem dR_look2_5 : decode prog_14_method_19_code 5 = .ok (.if_icmp .ge 16, 3) := by decide +kernel
theorem dR_look2_8 : decode prog_14_method_19_code 8 = .ok (.aload_n 0, 1) := by decide +kernel
theorem dR_look2_9 : decode prog_14_method_19_code 9 = .ok (.getfield 24, 3) := by decide +kernel
theorem dR_look2_12 : decode prog_14_method_19_code 12 = .ok (.iload_n 1, 1) := by decide +kernel
theorem dR_look2_13 : decode prog_14_method_19_code 13 = .ok (.baload, 1) := by decide +kernel
theorem dR_look2_14 : decode prog_14_method_19_code 14 = .ok (.sipush 255, 3) := by decide +kernel
theorem dR_look2_17 : decode prog_14_method_19_code 17 = .ok (.iand, 1) := by decide +kernel
theorem dR_look2_18 : decode prog_14_method_19_code 18 = .ok (.goto 4, 3) := by decide +kernel
theorem dR_look2_21 : decode prog_14_method_19_code 21 = .ok (.iconst 0, 1) := by decide +kernel
theorem dR_look2_22 : decode prog_14_method_19_code 22 = .ok (.ireturn, 1) := by decide +kernel
theorem t_R_look2 {d : Nat} {x1 : Int} {σ : SG} {Q : Int → SG → Prop} (h : inI x1 → ((σ 161 9 ≤ x1 → Q 0 σ) ∧ (x1 < σ 161 9 → (0 ≤ x1 ∧ x1 < 600) ∧ Q (and32 (σ 165 x1) 255) σ))) : Tri (d + 1) M_R_look2 [vA 161, vI x1] σ Q :=
  Tri_intro rfl (Nat.le_of_ble_eq_true rfl) (ls := [vA 161, vI x1]) rfl (fun hok => L_iload_n dR_look2_0 rfl (L_aload_n dR_look2_1 rfl (L_getf fw_R_171 rfl dR_look2_2 ⟨ob_161, L_icmp_ge dR_look2_5 (by decide) ⟨fun c1 => L_iconst dR_look2_21 in_0 (L_ireturn rfl dR_look2_22 ((h (hok _ (List.mem_of_getElem? (i := 1) rfl))).1 c1)), fun c1 => L_aload_n dR_look2_8 rfl (L_getF (b := 165) fw_R_24 rfl rfl (by decide) dR_look2_9 ⟨ob_161, L_iload_n dR_look2_12 rfl (L_baloadL kd_165 dR_look2_13 ⟨((h (hok _ (List.mem_of_getElem? (i := 1) rfl))).2 c1).1, L_sipush dR_look2_14 sp_255 in_255 (L_iand dR_look2_17 (L_goto dR_look2_18 (by decide) (L_ireturn rfl dR_look2_22 (((h (hok _ (List.mem_of_getElem? (i := 1) rfl))).2 c1).2))))⟩)⟩)⟩⟩)))
theorem dR_isLetter_0 : decode prog_14_method_20_code 0 = .ok (.iload_n 0, 1) := by decide +kernel
theorem dR_isLetter_1 : decode prog_14_method_20_code 1 = .ok (.bipush 97, 2) := by decide +kernel
theorem dR_isLetter_3 : decode prog_14_method_20_code 3 = .ok (.if_icmp .lt 13, 3) := by decide +kernel
theorem dR_isLetter_6 : decode prog_14_method_20_code 6 = .ok (.iload_n 0, 1) := by decide +kernel
theorem dR_isLetter_7 : decode prog_14_method_20_code 7 = .ok (.bipush 122, 2) := by decide +kernel
theorem dR_isLetter_9 : decode prog_14_method_20_code 9 = .ok (.if_icmp .gt 7, 3) := by decide +kernel
theorem dR_isLetter_12 : decode prog_14_method_20_code 12 = .ok (.iconst 1, 1) := by decide +kernel
theorem dR_isLetter_13 : decode prog_14_method_20_code 13 = .ok (.goto 4, 3) := by decide +kernel
theorem dR_isLetter_16 : decode prog_14_method_20_code 16 = .ok (.iconst 0, 1) := by decide +kernel
theorem dR_isLetter_17 : decode prog_14_method_20_code 17 = .ok (.ireturn, 1) := by decide +kernel
theorem t_R_isLetter {d : Nat} {x0 : Int} {σ : SG} {Q : Int → SG → Prop} (h : inI x0 → ((x0 < 97 → Q 0 σ) ∧ (97 ≤ x0 → (122 < x0 → Q 0 σ) ∧ (x0 ≤ 122 → Q 1 σ)))) : Tri (d + 1) M_R_isLetter [vI x0] σ Q :=
  Tri_intro rfl (Nat.le_of_ble_eq_true rfl) (ls := [vI x0]) rfl (fun hok => L_iload_n dR_isLetter_0 rfl (L_bipush dR_isLetter_1 bp_97 in_97 (L_icmp_lt dR_isLetter_3 (by decide) ⟨fun c1 => L_iconst dR_isLetter_16 in_0 (L_zreturn0 rfl dR_isLetter_17 ((h (hok _ (List.mem_of_getElem? (i := 0) rfl))).1 c1)), fun c1 => L_iload_n dR_isLetter_6 rfl (L_bipush dR_isLetter_7 bp_122 in_122 (L_icmp_gt dR_isLetter_9 (by decide) ⟨fun c2 => L_iconst dR_isLetter_16 in_0 (L_zreturn0 rfl dR_isLetter_17 (((h (hok _ (List.mem_of_getElem? (i := 0) rfl))).2 c1).1 c2)), fun c2 => L_iconst dR_isLetter_12 in_1 (L_goto dR_isLetter_13 (by decide) (L_zreturn1 rfl dR_isLetter_17 (((h (hok _ (List.mem_of_getElem? (i := 0) rfl))).2 c1).2 c2)))⟩))⟩)))
theorem dR_isDigit_0 : decode prog_14_method_21_code 0 = .ok (.iload_n 0, 1) := by decide +kernel
theorem dR_isDigit_1 : decode prog_14_method_21_code 1 = .ok (.bipush 48, 2) := by decide +kernel
theorem dR_isDigit_3 : decode prog_14_method_21_code 3 = .ok (.if_icmp .lt 13, 3) := by decide +kernel
theorem dR_isDigit_6 : decode prog_14_method_21_code 6 = .ok (.iload_n 0, 1) := by decide +kernel
theorem dR_isDigit_7 : decode prog_14_method_21_code 7 = .ok (.bipush 57, 2) := by decide +kernel
theorem dR_isDigit_9 : decode prog_14_method_21_code 9 = .ok (.if_icmp .gt 7, 3) := by decide +kernel
theorem dR_isDigit_12 : decode prog_14_method_21_code 12 = .ok (.iconst 1, 1) := by decide +kernel
theorem dR_isDigit_13 : decode prog_14_method_21_code 13 = .ok (.goto 4, 3) := by decide +kernel
theorem dR_isDigit_16 : decode prog_14_method_21_code 16 = .ok (.iconst 0, 1) := by decide +kernel
theorem dR_isDigit_17 : decode prog_14_method_21_code 17 = .ok (.ireturn, 1) := by decide +kernel
theorem t_R_isDigit {d : Nat} {x0 : Int} {σ : SG} {Q : Int → SG → Prop} (h : inI x0 → ((x0 < 48 → Q 0 σ) ∧ (48 ≤ x0 → (57 < x0 → Q 0 σ) ∧ (x0 ≤ 57 → Q 1 σ)))) : Tri (d + 1) M_R_isDigit [vI x0] σ Q :=
  Tri_intro rfl (Nat.le_of_ble_eq_true rfl) (ls := [vI x0]) rfl (fun hok => L_iload_n dR_isDigit_0 rfl (L_bipush dR_isDigit_1 bp_48 in_48 (L_icmp_lt dR_isDigit_3 (by decide) ⟨fun c1 => L_iconst dR_isDigit_16 in_0 (L_zreturn0 rfl dR_isDigit_17 ((h (hok _ (List.mem_of_getElem? (i := 0) rfl))).1 c1)), fun c1 => L_iload_n dR_isDigit_6 rfl (L_bipush dR_isDigit_7 bp_57 in_57 (L_icmp_gt dR_isDigit_9 (by decide) ⟨fun c2 => L_iconst dR_isDigit_16 in_0 (L_zreturn0 rfl dR_isDigit_17 (((h (hok _ (List.mem_of_getElem? (i := 0) rfl))).2 c1).1 c2)), fun c2 => L_iconst dR_isDigit_12 in_1 (L_goto dR_isDigit_13 (by decide) (L_zreturn1 rfl dR_isDigit_17 (((h (hok _ (List.mem_of_getElem? (i := 0) rfl))).2 c1).2 c2)))⟩))⟩)))
theorem dR_isSignByte_0 : decode prog_14_method_22_code 0 = .ok (.iload_n 1, 1) := by decide +kernel
theorem dR_isSignByte_1 : decode prog_14_method_22_code 1 = .ok (.bipush 59, 2) := by decide +kernel
theorem dR_isSignByte_3 : decode prog_14_method_22_code 3 = .ok (.if_icmp .eq 21, 3) := by decide +kernel
theorem dR_isSignByte_6 : decode prog_14_method_22_code 6 = .ok (.iload_n 1, 1) := by decide +kernel
theorem dR_isSignByte_7 : decode prog_14_method_22_code 7 = .ok (.bipush 60, 2) := by decide +kernel
theorem dR_isSignByte_9 : decode prog_14_method_22_code 9 = .ok (.if_icmp .eq 15, 3) := by decide +kernel
theorem dR_isSignByte_12 : decode prog_14_method_22_code 12 = .ok (.iload_n 1, 1) := by decide +kernel
theorem dR_isSignByte_13 : decode prog_14_method_22_code 13 = .ok (.bipush 62, 2) := by decide +kernel
theorem dR_isSignByte_15 : decode prog_14_method_22_code 15 = .ok (.if_icmp .eq 9, 3) := by decide +kernel
theorem dR_isSignByte_18 : decode prog_14_method_22_code 18 = .ok (.iload_n 1, 1) := by decide +kernel
theorem dR_isSignByte_19 : decode prog_14_method_22_code 19 = .ok (.bipush 61, 2) := by decide +kernel
theorem dR_isSignByte_21 : decode prog_14_method_22_code 21 = .ok (.if_icmp .ne 7, 3) := by decide +kernel
theorem dR_isSignByte_24 : decode prog_14_method_22_code 24 = .ok (.iconst 1, 1) := by decide +kernel
theorem dR_isSignByte_25 : decode prog_14_method_22_code 25 = .ok (.goto 4, 3) := by decide +kernel
theorem dR_isSignByte_28 : decode prog_14_method_22_code 28 = .ok (.iconst 0, 1) := by decide +kernel
theorem dR_isSignByte_29 : decode prog_14_method_22_code 29 = .ok (.ireturn, 1) := by decide +kernel
theorem t_R_isSignByte {d : Nat} {x1 : Int} {σ : SG} {Q : Int → SG → Prop} (h : inI x1 → ((x1 = 59 → Q 1 σ) ∧ (x1 ≠ 59 → (x1 = 60 → Q 1 σ) ∧ (x1 ≠ 60 → (x1 = 62 → Q 1 σ) ∧ (x1 ≠ 62 → (x1 ≠ 61 → Q 0 σ) ∧ (x1 = 61 → Q 1 σ)))))) : Tri (d + 1) M_R_isSignByte [vA 161, vI x1] σ Q :=
  Tri_intro rfl (Nat.le_of_ble_eq_true rfl) (ls := [vA 161, vI x1]) rfl (fun hok => L_iload_n dR_isSignByte_0 rfl (L_bipush dR_isSignByte_1 bp_59 in_59 (L_icmp_eq dR_isSignByte_3 (by decide) ⟨fun c1 => L_iconst dR_isSignByte_24 in_1 (L_goto dR_isSignByte_25 (by decide) (L_zreturn1 rfl dR_isSignByte_29 ((h (hok _ (List.mem_of_getElem? (i := 1) rfl))).1 c1))), fun c1 => L_iload_n dR_isSignByte_6 rfl (L_bipush dR_isSignByte_7 bp_60 in_60 (L_icmp_eq dR_isSignByte_9 (by decide) ⟨fun c2 => L_iconst dR_isSignByte_24 in_1 (L_goto dR_isSignByte_25 (by decide) (L_zreturn1 rfl dR_isSignByte_29 (((h (hok _ (List.mem_of_getElem? (i := 1) rfl))).2 c1).1 c2))), fun c2 => L_iload_n dR_isSignByte_12 rfl (L_bipush dR_isSignByte_13 bp_62 in_62 (L_icmp_eq dR_isSignByte_15 (by decide) ⟨fun c3 => L_iconst dR_isSignByte_24 in_1 (L_goto dR_isSignByte_25 (by decide) (L_zreturn1 rfl dR_isSignByte_29 ((((h (hok _ (List.mem_of_getElem? (i := 1) rfl))).2 c1).2 c2).1 c3))), fun c3 => L_iload_n dR_isSignByte_18 rfl (L_bipush dR_isSignByte_19 bp_61 in_61 (L_icmp_ne dR_isSignByte_21 (by decide) ⟨fun c4 => L_iconst dR_isSignByte_28 in_0 (L_zreturn0 rfl dR_isSignByte_29 (((((h (hok _ (List.mem_of_getElem? (i := 1) rfl))).2 c1).2 c2).2 c3).1 c4)), fun c4 => L_iconst dR_isSignByte_24 in_1 (L_goto dR_isSignByte_25 (by decide) (L_zreturn1 rfl dR_isSignByte_29 (((((h (hok _ (List.mem_of_getElem? (i := 1) rfl))).2 c1).2 c2).2 c3).2 c4)))⟩))⟩))⟩))⟩)))
theorem dR_next_0 : decode prog_14_method_23_code 0 = .ok (.aload_n 0, 1) := by decide +kernel
theorem dR_next_1 : decode prog_14_method_23_code 1 = .ok (.aload_n 0, 1) := by decide +kernel
theorem dR_next_2 : decode prog_14_method_23_code 2 = .ok (.getfield 174, 3) := by decide +kernel
theorem dR_next_5 : decode prog_14_method_23_code 5 = .ok (.putfield 177, 3) := by decide +kernel
theorem dR_next_8 : decode prog_14_method_23_code 8 = .ok (.aload_n 0, 1) := by decide +kernel
theorem dR_next_9 : decode prog_14_method_23_code 9 = .ok (.getfield 177, 3) := by decide +kernel
theorem dR_next_12 : decode prog_14_method_23_code 12 = .ok (.aload_n 0, 1) := by decide +kernel
theorem dR_next_13 : decode prog_14_method_23_code 13 = .ok (.getfield 171, 3) := by decide +kernel
theorem dR_next_16 : decode prog_14_method_23_code 16 = .ok (.if_icmp .ge 42, 3) := by decide +kernel
theorem dR_next_19 : decode prog_14_method_23_code 19 = .ok (.aload_n 0, 1) := by decide +kernel
theorem dR_next_20 : decode prog_14_method_23_code 20 = .ok (.aload_n 0, 1) := by decide +kernel
theorem dR_next_21 : decode prog_14_method_23_code 21 = .ok (.getfield 177, 3) := by decide +kernel
theorem dR_next_24 : decode prog_14_method_23_code 24 = .ok (.invokevirtual 180, 3) := by decide +kernel
theorem dR_next_27 : decode prog_14_method_23_code 27 = .ok (.bipush 10, 2) := by decide +kernel
theorem dR_next_29 : decode prog_14_method_23_code 29 = .ok (.if_icmp .eq 16, 3) := by decide +kernel
theorem dR_next_32 : decode prog_14_method_23_code 32 = .ok (.aload_n 0, 1) := by decide +kernel
theorem dR_next_33 : decode prog_14_method_23_code 33 = .ok (.aload_n 0, 1) := by decide +kernel
theorem dR_next_34 : decode prog_14_method_23_code 34 = .ok (.getfield 177, 3) := by decide +kernel
theorem dR_next_37 : decode prog_14_method_23_code 37 = .ok (.invokevirtual 180, 3) := by decide +kernel
theorem dR_next_40 : decode prog_14_method_23_code 40 = .ok (.bipush 32, 2) := by decide +kernel
theorem dR_next_42 : decode prog_14_method_23_code 42 = .ok (.if_icmp .ne 16, 3) := by decide +kernel
theorem dR_next_45 : decode prog_14_method_23_code 45 = .ok (.aload_n 0, 1) := by decide +kernel
theorem dR_next_46 : decode prog_14_method_23_code 46 = .ok (.dup, 1) := by decide +kernel
theorem dR_next_47 : decode prog_14_method_23_code 47 = .ok (.getfield 177, 3) := by decide +kernel
theorem dR_next_50 : decode prog_14_method_23_code 50 = .ok (.iconst 1, 1) := by decide +kernel
theorem dR_next_51 : decode prog_14_method_23_code 51 = .ok (.iadd, 1) := by decide +kernel
theorem dR_next_52 : decode prog_14_method_23_code 52 = .ok (.putfield 177, 3) := by decide +kernel
theorem dR_next_55 : decode prog_14_method_23_code 55 = .ok (.goto (-47), 3) := by decide +kernel
theorem dR_next_58 : decode prog_14_method_23_code 58 = .ok (.aload_n 0, 1) := by decide +kernel
theorem dR_next_59 : decode prog_14_method_23_code 59 = .ok (.aload_n 0, 1) := by decide +kernel
theorem dR_next_60 : decode prog_14_method_23_code 60 = .ok (.getfield 177, 3) := by decide +kernel
theorem dR_next_63 : decode prog_14_method_23_code 63 = .ok (.putfield 174, 3) := by decide +kernel
theorem dR_next_66 : decode prog_14_method_23_code 66 = .ok (.aload_n 0, 1) := by decide +kernel
theorem dR_next_67 : decode prog_14_method_23_code 67 = .ok (.getfield 177, 3) := by decide +kernel
theorem dR_next_70 : decode prog_14_method_23_code 70 = .ok (.aload_n 0, 1) := by decide +kernel
theorem dR_next_71 : decode prog_14_method_23_code 71 = .ok (.getfield 171, 3) := by decide +kernel
theorem dR_next_74 : decode prog_14_method_23_code 74 = .ok (.if_icmp .lt 9, 3) := by decide +kernel
theorem dR_next_77 : decode prog_14_method_23_code 77 = .ok (.aload_n 0, 1) := by decide +kernel
theorem dR_next_78 : decode prog_14_method_23_code 78 = .ok (.iconst 0, 1) := by decide +kernel
theorem dR_next_79 : decode prog_14_method_23_code 79 = .ok (.putfield 183, 3) := by decide +kernel
theorem dR_next_82 : decode prog_14_method_23_code 82 = .ok (.return_, 1) := by decide +kernel
theorem dR_next_83 : decode prog_14_method_23_code 83 = .ok (.aload_n 0, 1) := by decide +kernel
theorem dR_next_84 : decode prog_14_method_23_code 84 = .ok (.aload_n 0, 1) := by decide +kernel
theorem dR_next_85 : decode prog_14_method_23_code 85 = .ok (.getfield 177, 3) := by decide +kernel
theorem dR_next_88 : decode prog_14_method_23_code 88 = .ok (.invokevirtual 180, 3) := by decide +kernel
theorem dR_next_91 : decode prog_14_method_23_code 91 = .ok (.istore_n 1, 1) := by decide +kernel
theorem dR_next_92 : decode prog_14_method_23_code 92 = .ok (.iload_n 1, 1) := by decide +kernel
theorem dR_next_93 : decode prog_14_method_23_code 93 = .ok (.invokestatic 186, 3) := by decide +kernel
theorem dR_next_96 : decode prog_14_method_23_code 96 = .ok (.ifCond .eq 86, 3) := by decide +kernel
theorem dR_next_99 : decode prog_14_method_23_code 99 = .ok (.aload_n 0, 1) := by decide +kernel
theorem dR_next_100 : decode prog_14_method_23_code 100 = .ok (.iconst 1, 1) := by decide +kernel
theorem dR_next_101 : decode prog_14_method_23_code 101 = .ok (.putfield 183, 3) := by decide +kernel
theorem dR_next_104 : decode prog_14_method_23_code 104 = .ok (.aload_n 0, 1) := by decide +kernel
theorem dR_next_105 : decode prog_14_method_23_code 105 = .ok (.lconst 0, 1) := by decide +kernel
theorem dR_next_106 : decode prog_14_method_23_code 106 = .ok (.putfield 189, 3) := by decide +kernel
theorem dR_next_109 : decode prog_14_method_23_code 109 = .ok (.aload_n 0, 1) := by decide +kernel
theorem dR_next_110 : decode prog_14_method_23_code 110 = .ok (.aload_n 0, 1) := by decide +kernel
theorem dR_next_111 : decode prog_14_method_23_code 111 = .ok (.getfield 174, 3) := by decide +kernel
theorem dR_next_114 : decode prog_14_method_23_code 114 = .ok (.invokevirtual 180, 3) := by decide +kernel
theorem dR_next_117 : decode prog_14_method_23_code 117 = .ok (.invokestatic 186, 3) := by decide +kernel
theorem dR_next_120 : decode prog_14_method_23_code 120 = .ok (.ifCond .eq 194, 3) := by decide +kernel
theorem dR_next_123 : decode prog_14_method_23_code 123 = .ok (.aload_n 0, 1) := by decide +kernel
theorem dR_next_124 : decode prog_14_method_23_code 124 = .ok (.aload_n 0, 1) := by decide +kernel
theorem dR_next_125 : decode prog_14_method_23_code 125 = .ok (.getfield 174, 3) := by decide +kernel
theorem dR_next_128 : decode prog_14_method_23_code 128 = .ok (.aload_n 0, 1) := by decide +kernel
theorem dR_next_129 : decode prog_14_method_23_code 129 = .ok (.getfield 177, 3) := by decide +kernel
theorem dR_next_132 : decode prog_14_method_23_code 132 = .ok (.isub, 1) := by decide +kernel
theorem dR_next_133 : decode prog_14_method_23_code 133 = .ok (.bipush 9, 2) := by decide +kernel
theorem dR_next_135 : decode prog_14_method_23_code 135 = .ok (.if_icmp .ge 28, 3) := by decide +kernel
theorem dR_next_138 : decode prog_14_method_23_code 138 = .ok (.aload_n 0, 1) := by decide +kernel
theorem dR_next_139 : decode prog_14_method_23_code 139 = .ok (.getfield 189, 3) := by decide +kernel
theorem dR_next_142 : decode prog_14_method_23_code 142 = .ok (.ldc2_w 192, 3) := by decide +kernel
theorem dR_next_145 : decode prog_14_method_23_code 145 = .ok (.lmul, 1) := by decide +kernel
theorem dR_next_146 : decode prog_14_method_23_code 146 = .ok (.aload_n 0, 1) := by decide +kernel
theorem dR_next_147 : decode prog_14_method_23_code 147 = .ok (.aload_n 0, 1) := by decide +kernel
theorem dR_next_148 : decode prog_14_method_23_code 148 = .ok (.getfield 174, 3) := by decide +kernel
theorem dR_next_151 : decode prog_14_method_23_code 151 = .ok (.invokevirtual 180, 3) := by decide +kernel
theorem dR_next_154 : decode prog_14_method_23_code 154 = .ok (.i2l, 1) := by decide +kernel
theorem dR_next_155 : decode prog_14_method_23_code 155 = .ok (.ladd, 1) := by decide +kernel
theorem dR_next_156 : decode prog_14_method_23_code 156 = .ok (.ldc2_w 194, 3) := by decide +kernel
theorem dR_next_159 : decode prog_14_method_23_code 159 = .ok (.lsub, 1) := by decide +kernel
theorem dR_next_160 : decode prog_14_method_23_code 160 = .ok (.goto 6, 3) := by decide +kernel
theorem dR_next_163 : decode prog_14_method_23_code 163 = .ok (.ldc2_w 163, 3) := by decide +kernel
theorem dR_next_166 : decode prog_14_method_23_code 166 = .ok (.putfield 189, 3) := by decide +kernel
theorem dR_next_169 : decode prog_14_method_23_code 169 = .ok (.aload_n 0, 1) := by decide +kernel
theorem dR_next_170 : decode prog_14_method_23_code 170 = .ok (.dup, 1) := by decide +kernel
theorem dR_next_171 : decode prog_14_method_23_code 171 = .ok (.getfield 174, 3) := by decide +kernel
theorem dR_next_174 : decode prog_14_method_23_code 174 = .ok (.iconst 1, 1) := by decide +kernel
theorem dR_next_175 : decode prog_14_method_23_code 175 = .ok (.iadd, 1) := by decide +kernel
theorem dR_next_176 : decode prog_14_method_23_code 176 = .ok (.putfield 174, 3) := by decide +kernel
theorem dR_next_179 : decode prog_14_method_23_code 179 = .ok (.goto (-70), 3) := by decide +kernel
theorem dR_next_182 : decode prog_14_method_23_code 182 = .ok (.iload_n 1, 1) := by decide +kernel
theorem dR_next_183 : decode prog_14_method_23_code 183 = .ok (.invokestatic 196, 3) := by decide +kernel
theorem dR_next_186 : decode prog_14_method_23_code 186 = .ok (.ifCond .eq 96, 3) := by decide +kernel
theorem dR_next_189 : decode prog_14_method_23_code 189 = .ok (.aload_n 0, 1) := by decide +kernel
theorem dR_next_190 : decode prog_14_method_23_code 190 = .ok (.iconst 0, 1) := by decide +kernel
theorem dR_next_191 : decode prog_14_method_23_code 191 = .ok (.putfield 199, 3) := by decide +kernel
theorem dR_next_194 : decode prog_14_method_23_code 194 = .ok (.aload_n 0, 1) := by decide +kernel
theorem dR_next_195 : decode prog_14_method_23_code 195 = .ok (.aload_n 0, 1) := by decide +kernel
theorem dR_next_196 : decode prog_14_method_23_code 196 = .ok (.getfield 174, 3) := by decide +kernel
theorem dR_next_199 : decode prog_14_method_23_code 199 = .ok (.invokevirtual 180, 3) := by decide +kernel
theorem dR_next_202 : decode prog_14_method_23_code 202 = .ok (.invokestatic 196, 3) := by decide +kernel
theorem dR_next_205 : decode prog_14_method_23_code 205 = .ok (.ifCond .eq 52, 3) := by decide +kernel
theorem dR_next_208 : decode prog_14_method_23_code 208 = .ok (.aload_n 0, 1) := by decide +kernel
theorem dR_next_209 : decode prog_14_method_23_code 209 = .ok (.getfield 174, 3) := by decide +kernel
theorem dR_next_212 : decode prog_14_method_23_code 212 = .ok (.aload_n 0, 1) := by decide +kernel
theorem dR_next_213 : decode prog_14_method_23_code 213 = .ok (.getfield 177, 3) := by decide +kernel
theorem dR_next_216 : decode prog_14_method_23_code 216 = .ok (.isub, 1) := by decide +kernel
theorem dR_next_217 : decode prog_14_method_23_code 217 = .ok (.iconst 4, 1) := by decide +kernel
theorem dR_next_218 : decode prog_14_method_23_code 218 = .ok (.if_icmp .ge 26, 3) := by decide +kernel
theorem dR_next_221 : decode prog_14_method_23_code 221 = .ok (.aload_n 0, 1) := by decide +kernel
theorem dR_next_222 : decode prog_14_method_23_code 222 = .ok (.bipush 10, 2) := by decide +kernel
theorem dR_next_224 : decode prog_14_method_23_code 224 = .ok (.aload_n 0, 1) := by decide +kernel
theorem dR_next_225 : decode prog_14_method_23_code 225 = .ok (.getfield 199, 3) := by decide +kernel
theorem dR_next_228 : decode prog_14_method_23_code 228 = .ok (.imul, 1) := by decide +kernel
theorem dR_next_229 : decode prog_14_method_23_code 229 = .ok (.aload_n 0, 1) := by decide +kernel
theorem dR_next_230 : decode prog_14_method_23_code 230 = .ok (.aload_n 0, 1) := by decide +kernel
theorem dR_next_231 : decode prog_14_method_23_code 231 = .ok (.getfield 174, 3) := by decide +kernel
theorem dR_next_234 : decode prog_14_method_23_code 234 = .ok (.invokevirtual 180, 3) := by decide +kernel
theorem dR_next_237 : decode prog_14_method_23_code 237 = .ok (.iadd, 1) := by decide +kernel
theorem dR_next_238 : decode prog_14_method_23_code 238 = .ok (.bipush 48, 2) := by decide +kernel
theorem dR_next_240 : decode prog_14_method_23_code 240 = .ok (.isub, 1) := by decide +kernel
theorem dR_next_241 : decode prog_14_method_23_code 241 = .ok (.putfield 199, 3) := by decide +kernel
theorem dR_next_244 : decode prog_14_method_23_code 244 = .ok (.aload_n 0, 1) := by decide +kernel
theorem dR_next_245 : decode prog_14_method_23_code 245 = .ok (.dup, 1) := by decide +kernel
theorem dR_next_246 : decode prog_14_method_23_code 246 = .ok (.getfield 174, 3) := by decide +kernel
theorem dR_next_249 : decode prog_14_method_23_code 249 = .ok (.iconst 1, 1) := by decide +kernel
theorem dR_next_250 : decode prog_14_method_23_code 250 = .ok (.iadd, 1) := by decide +kernel
theorem dR_next_251 : decode prog_14_method_23_code 251 = .ok (.putfield 174, 3) := by decide +kernel
theorem dR_next_254 : decode prog_14_method_23_code 254 = .ok (.goto (-60), 3) := by decide +kernel
theorem dR_next_257 : decode prog_14_method_23_code 257 = .ok (.aload_n 0, 1) := by decide +kernel
theorem dR_next_258 : decode prog_14_method_23_code 258 = .ok (.aload_n 0, 1) := by decide +kernel
theorem dR_next_259 : decode prog_14_method_23_code 259 = .ok (.getfield 174, 3) := by decide +kernel
theorem dR_next_262 : decode prog_14_method_23_code 262 = .ok (.aload_n 0, 1) := by decide +kernel
theorem dR_next_263 : decode prog_14_method_23_code 263 = .ok (.getfield 177, 3) := by decide +kernel
theorem dR_next_266 : decode prog_14_method_23_code 266 = .ok (.isub, 1) := by decide +kernel
theorem dR_next_267 : decode prog_14_method_23_code 267 = .ok (.iconst 4, 1) := by decide +kernel
theorem dR_next_268 : decode prog_14_method_23_code 268 = .ok (.if_icmp .le 7, 3) := by decide +kernel
theorem dR_next_271 : decode prog_14_method_23_code 271 = .ok (.iconst 4, 1) := by decide +kernel
theorem dR_next_272 : decode prog_14_method_23_code 272 = .ok (.goto 4, 3) := by decide +kernel
theorem dR_next_275 : decode prog_14_method_23_code 275 = .ok (.iconst 2, 1) := by decide +kernel
theorem dR_next_276 : decode prog_14_method_23_code 276 = .ok (.putfield 183, 3) := by decide +kernel
theorem dR_next_279 : decode prog_14_method_23_code 279 = .ok (.goto 35, 3) := by decide +kernel
theorem dR_next_282 : decode prog_14_method_23_code 282 = .ok (.aload_n 0, 1) := by decide +kernel
theorem dR_next_283 : decode prog_14_method_23_code 283 = .ok (.aload_n 0, 1) := by decide +kernel
theorem dR_next_284 : decode prog_14_method_23_code 284 = .ok (.getfield 177, 3) := by decide +kernel
theorem dR_next_287 : decode prog_14_method_23_code 287 = .ok (.iconst 1, 1) := by decide +kernel
theorem dR_next_288 : decode prog_14_method_23_code 288 = .ok (.iadd, 1) := by decide +kernel
theorem dR_next_289 : decode prog_14_method_23_code 289 = .ok (.putfield 174, 3) := by decide +kernel
theorem dR_next_292 : decode prog_14_method_23_code 292 = .ok (.aload_n 0, 1) := by decide +kernel
theorem dR_next_293 : decode prog_14_method_23_code 293 = .ok (.iload_n 1, 1) := by decide +kernel
theorem dR_next_294 : decode prog_14_method_23_code 294 = .ok (.putfield 199, 3) := by decide +kernel
theorem dR_next_297 : decode prog_14_method_23_code 297 = .ok (.aload_n 0, 1) := by decide +kernel
theorem dR_next_298 : decode prog_14_method_23_code 298 = .ok (.aload_n 0, 1) := by decide +kernel
theorem dR_next_299 : decode prog_14_method_23_code 299 = .ok (.iload_n 1, 1) := by decide +kernel
theorem dR_next_300 : decode prog_14_method_23_code 300 = .ok (.invokevirtual 202, 3) := by decide +kernel
theorem dR_next_303 : decode prog_14_method_23_code 303 = .ok (.ifCond .eq 7, 3) := by decide +kernel
theorem dR_next_306 : decode prog_14_method_23_code 306 = .ok (.iconst 3, 1) := by decide +kernel
theorem dR_next_307 : decode prog_14_method_23_code 307 = .ok (.goto 4, 3) := by decide +kernel
theorem dR_next_310 : decode prog_14_method_23_code 310 = .ok (.iconst 4, 1) := by decide +kernel
theorem dR_next_311 : decode prog_14_method_23_code 311 = .ok (.putfield 183, 3) := by decide +kernel
theorem dR_next_314 : decode prog_14_method_23_code 314 = .ok (.return_, 1) := by decide +kernel
theorem t_R_next {d : Nat} {σ : SG} {Q : Int → SG → Prop} (h : (∀ σ1, σ1 = up σ 161 15 (σ 161 16) → L (d + 1) M_R_next 8 [vA 161, vU] [] σ1 Q)) : Tri (d + 1) M_R_next [vA 161] σ Q :=
  Tri_intro rfl (Nat.le_of_ble_eq_true rfl) (ls := [vA 161, vU]) rfl (fun hok => L_aload_n dR_next_0 rfl (L_aload_n dR_next_1 rfl (L_getf fw_R_174 rfl dR_next_2 ⟨ob_161, L_putfN fp_R_177 rfl rfl (fun _ => ⟨rfl, rfl⟩) dR_next_5 ⟨ob_161, fun σ1 e1 => (h σ1 e1)⟩⟩)))
theorem s_R_next_8 {d : Nat} {σ : SG} {Q : Int → SG → Prop} (h : (σ 161 9 ≤ σ 161 15 → L (d + 1) M_R_next 58 [vA 161, vU] [] σ Q) ∧ (σ 161 15 < σ 161 9 → Tri d M_R_look2 [vA 161, vI (σ 161 15)] σ (fun r2 σ2 => (r2 = 10 → (∀ σ4, σ4 = up σ2 161 15 (w32 ((σ2 161 15) + 1)) → L (d + 1) M_R_next 8 [vA 161, vU] [] σ4 Q)) ∧ (r2 ≠ 10 → Tri d M_R_look2 [vA 161, vI (σ2 161 15)] σ2 (fun r5 σ5 => (r5 ≠ 32 → L (d + 1) M_R_next 58 [vA 161, vU] [] σ5 Q) ∧ (r5 = 32 → (∀ σ7, σ7 = up σ5 161 15 (w32 ((σ5 161 15) + 1)) → L (d + 1) M_R_next 8 [vA 161, vU] [] σ7 Q))))))) : L (d + 1) M_R_next 8 [vA 161, vU] [] σ Q :=
  L_aload_n dR_next_8 rfl (L_getf fw_R_177 rfl dR_next_9 ⟨ob_161, L_aload_n dR_next_12 rfl (L_getf fw_R_171 rfl dR_next_13 ⟨ob_161, L_icmp_ge dR_next_16 (by decide) ⟨fun c1 => (h.1 c1), fun c1 => L_aload_n dR_next_19 rfl (L_aload_n dR_next_20 rfl (L_getf fw_R_177 rfl dR_next_21 ⟨ob_161, L_callVI rfl cv_R_look2 (As := [vI (σ 161 15)]) rfl (tk8 0 rfl rfl) rfl (Nat.le_of_ble_eq_true rfl) dR_next_24 ⟨ob_161, Tri.mono (h.2 c1) (fun r2 σ2 q2 => L_bipush dR_next_27 bp_10 in_10 (L_icmp_eq dR_next_29 (by decide) ⟨fun c3 => L_aload_n dR_next_45 rfl (L_dup dR_next_46 n21 (L_getf fw_R_177 rfl dR_next_47 ⟨ob_161, L_iconst dR_next_50 in_1 (L_iadd dR_next_51 (L_putfN fp_R_177 rfl rfl (fun _ => ⟨rfl, rfl⟩) dR_next_52 ⟨ob_161, fun σ4 e4 => L_goto dR_next_55 (by decide) ((q2.1 c3) σ4 e4)⟩))⟩)), fun c3 => L_aload_n dR_next_32 rfl (L_aload_n dR_next_33 rfl (L_getf fw_R_177 rfl dR_next_34 ⟨ob_161, L_callVI rfl cv_R_look2 (As := [vI (σ2 161 15)]) rfl (tk8 0 rfl rfl) rfl (Nat.le_of_ble_eq_true rfl) dR_next_37 ⟨ob_161, Tri.mono (q2.2 c3) (fun r5 σ5 q5 => L_bipush dR_next_40 bp_32 in_32 (L_icmp_ne dR_next_42 (by decide) ⟨fun c6 => (q5.1 c6), fun c6 => L_aload_n dR_next_45 rfl (L_dup dR_next_46 n21 (L_getf fw_R_177 rfl dR_next_47 ⟨ob_161, L_iconst dR_next_50 in_1 (L_iadd dR_next_51 (L_putfN fp_R_177 rfl rfl (fun _ => ⟨rfl, rfl⟩) dR_next_52 ⟨ob_161, fun σ7 e7 => L_goto dR_next_55 (by decide) ((q5.2 c6) σ7 e7)⟩))⟩))⟩))⟩⟩))⟩))⟩⟩))⟩⟩)⟩)
theorem s_R_next_58 {d : Nat} {σ : SG} {Q : Int → SG → Prop} (h : (∀ σ1, σ1 = up σ 161 16 (σ 161 15) → (σ1 161 15 < σ1 161 9 → Tri d M_R_look2 [vA 161, vI (σ1 161 15)] σ1 (fun r3 σ3 => Tri d M_R_isLetter [vI r3] σ3 (fun r4 σ4 => (r4 = 0 → Tri d M_R_isDigit [vI r3] σ4 (fun r6 σ6 => (r6 = 0 → (∀ σ8, σ8 = up σ6 161 16 (w32 ((σ6 161 15) + 1)) → (∀ σ9, σ9 = up σ8 161 17 r3 → Tri d M_R_isSignByte [vA 161, vI r3] σ9 (fun r10 σ10 => (r10 = 0 → (∀ σ12, σ12 = up σ10 161 14 4 → Q 0 σ12)) ∧ (r10 ≠ 0 → (∀ σ13, σ13 = up σ10 161 14 3 → Q 0 σ13)))))) ∧ (r6 ≠ 0 → (∀ σ14, σ14 = up σ6 161 17 0 → L (d + 1) M_R_next 194 [vA 161, vU] [] σ14 Q)))) ∧ (r4 ≠ 0 → (∀ σ15, σ15 = up σ4 161 14 1 → (∀ σ16, σ16 = up σ15 161 18 0 → L (d + 1) M_R_next 109 [vA 161, vU] [] σ16 Q)))))) ∧ (σ1 161 9 ≤ σ1 161 15 → (∀ σ17, σ17 = up σ1 161 14 0 → Q 0 σ17)))) : L (d + 1) M_R_next 58 [vA 161, vU] [] σ Q :=
  L_aload_n dR_next_58 rfl (L_aload_n dR_next_59 rfl (L_getf fw_R_177 rfl dR_next_60 ⟨ob_161, L_putfN fp_R_174 rfl rfl (fun _ => ⟨rfl, rfl⟩) dR_next_63 ⟨ob_161, fun σ1 e1 => L_aload_n dR_next_66 rfl (L_getf fw_R_177 rfl dR_next_67 ⟨ob_161, L_aload_n dR_next_70 rfl (L_getf fw_R_171 rfl dR_next_71 ⟨ob_161, L_icmp_lt dR_next_74 (by decide) ⟨fun c2 => L_aload_n dR_next_83 rfl (L_aload_n dR_next_84 rfl (L_getf fw_R_177 rfl dR_next_85 ⟨ob_161, L_callVI rfl cv_R_look2 (As := [vI (σ1 161 15)]) rfl (tk8 0 rfl rfl) rfl (Nat.le_of_ble_eq_true rfl) dR_next_88 ⟨ob_161, Tri.mono ((h σ1 e1).1 c2) (fun r3 σ3 q3 => L_istore_n dR_next_91 (by decide) (L_iload_n dR_next_92 rfl (L_callSI rfl cs_R_isLetter (As := [vI r3]) rfl (tk8 4 rfl rfl) rfl (Nat.le_of_ble_eq_true rfl) dR_next_93 (Tri.mono q3 (fun r4 σ4 q4 => L_if_eq dR_next_96 (by decide) ⟨fun c5 => L_iload_n dR_next_182 rfl (L_callSI rfl cs_R_isDigit (As := [vI r3]) rfl (tk8 9 rfl rfl) rfl (Nat.le_of_ble_eq_true rfl) dR_next_183 (Tri.mono (q4.1 c5) (fun r6 σ6 q6 => L_if_eq dR_next_186 (by decide) ⟨fun c7 => L_aload_n dR_next_282 rfl (L_aload_n dR_next_283 rfl (L_getf fw_R_177 rfl dR_next_284 ⟨ob_161, L_iconst dR_next_287 in_1 (L_iadd dR_next_288 (L_putfN fp_R_174 rfl rfl (fun _ => ⟨rfl, rfl⟩) dR_next_289 ⟨ob_161, fun σ8 e8 => L_aload_n dR_next_292 rfl (L_iload_n dR_next_293 rfl (L_putfN fp_R_199 rfl rfl (fun _ => ⟨rfl, rfl⟩) dR_next_294 ⟨ob_161, fun σ9 e9 => L_aload_n dR_next_297 rfl (L_aload_n dR_next_298 rfl (L_iload_n dR_next_299 rfl (L_callVI rfl cv_R_isSignByte (As := [vI r3]) rfl (tk8 12 rfl rfl) rfl (Nat.le_of_ble_eq_true rfl) dR_next_300 ⟨ob_161, Tri.mono (((q6.1 c7) σ8 e8) σ9 e9) (fun r10 σ10 q10 => L_if_eq dR_next_303 (by decide) ⟨fun c11 => L_iconst dR_next_310 in_4 (L_putfN fp_R_183 rfl rfl (fun _ => ⟨rfl, rfl⟩) dR_next_311 ⟨ob_161, fun σ12 e12 => L_return rfl dR_next_314 ((q10.1 c11) σ12 e12)⟩), fun c11 => L_iconst dR_next_306 in_3 (L_goto dR_next_307 (by decide) (L_putfN fp_R_183 rfl rfl (fun _ => ⟨rfl, rfl⟩) dR_next_311 ⟨ob_161, fun σ13 e13 => L_return rfl dR_next_314 ((q10.2 c11) σ13 e13)⟩))⟩)⟩)))⟩))⟩))⟩)), fun c7 => L_aload_n dR_next_189 rfl (L_iconst dR_next_190 in_0 (L_putfN fp_R_199 rfl rfl (fun _ => ⟨rfl, rfl⟩) dR_next_191 ⟨ob_161, fun σ14 e14 => L_weak [true, false] ((q6.2 c7) σ14 e14)⟩))⟩))), fun c5 => L_aload_n dR_next_99 rfl (L_iconst dR_next_100 in_1 (L_putfN fp_R_183 rfl rfl (fun _ => ⟨rfl, rfl⟩) dR_next_101 ⟨ob_161, fun σ15 e15 => L_aload_n dR_next_104 rfl (L_lconst (x := 0) dR_next_105 rfl inJ_0 (L_putfN fp_R_189 rfl rfl (fun _ => ⟨rfl, rfl⟩) dR_next_106 ⟨ob_161, fun σ16 e16 => L_weak [true, false] (((q4.2 c5) σ15 e15) σ16 e16)⟩))⟩))⟩)))))⟩⟩)), fun c2 => L_aload_n dR_next_77 rfl (L_iconst dR_next_78 in_0 (L_putfN fp_R_183 rfl rfl (fun _ => ⟨rfl, rfl⟩) dR_next_79 ⟨ob_161, fun σ17 e17 => L_return rfl dR_next_82 (((h σ1 e1).2 c2) σ17 e17)⟩))⟩⟩)⟩)⟩⟩))
theorem s_R_next_194 {d : Nat} {σ : SG} {Q : Int → SG → Prop} (h : Tri d M_R_look2 [vA 161, vI (σ 161 16)] σ (fun r1 σ1 => Tri d M_R_isDigit [vI r1] σ1 (fun r2 σ2 => (r2 = 0 → (w32 ((σ2 161 16) - (σ2 161 15)) ≤ 4 → (∀ σ5, σ5 = up σ2 161 14 2 → Q 0 σ5)) ∧ (4 < w32 ((σ2 161 16) - (σ2 161 15)) → (∀ σ6, σ6 = up σ2 161 14 4 → Q 0 σ6))) ∧ (r2 ≠ 0 → (4 ≤ w32 ((σ2 161 16) - (σ2 161 15)) → (∀ σ8, σ8 = up σ2 161 16 (w32 ((σ2 161 16) + 1)) → L (d + 1) M_R_next 194 [vA 161, vU] [] σ8 Q)) ∧ (w32 ((σ2 161 16) - (σ2 161 15)) < 4 → Tri d M_R_look2 [vA 161, vI (σ2 161 16)] σ2 (fun r9 σ9 => (∀ σ10, σ10 = up σ9 161 17 (w32 ((w32 ((w32 (10 * (σ2 161 17))) + r9)) - 48)) → (∀ σ11, σ11 = up σ10 161 16 (w32 ((σ10 161 16) + 1)) → L (d + 1) M_R_next 194 [vA 161, vU] [] σ11 Q)))))))) : L (d + 1) M_R_next 194 [vA 161, vU] [] σ Q :=
  L_aload_n dR_next_194 rfl (L_aload_n dR_next_195 rfl (L_getf fw_R_174 rfl dR_next_196 ⟨ob_161, L_callVI rfl cv_R_look2 (As := [vI (σ 161 16)]) rfl (tk8 0 rfl rfl) rfl (Nat.le_of_ble_eq_true rfl) dR_next_199 ⟨ob_161, Tri.mono h (fun r1 σ1 q1 => L_callSI rfl cs_R_isDigit (As := [vI r1]) rfl (tk8 9 rfl rfl) rfl (Nat.le_of_ble_eq_true rfl) dR_next_202 (Tri.mono q1 (fun r2 σ2 q2 => L_if_eq dR_next_205 (by decide) ⟨fun c3 => L_aload_n dR_next_257 rfl (L_aload_n dR_next_258 rfl (L_getf fw_R_174 rfl dR_next_259 ⟨ob_161, L_aload_n dR_next_262 rfl (L_getf fw_R_177 rfl dR_next_263 ⟨ob_161, L_isub dR_next_266 (L_iconst dR_next_267 in_4 (L_icmp_le dR_next_268 (by decide) ⟨fun c4 => L_iconst dR_next_275 in_2 (L_putfN fp_R_183 rfl rfl (fun _ => ⟨rfl, rfl⟩) dR_next_276 ⟨ob_161, fun σ5 e5 => L_goto dR_next_279 (by decide) (L_return rfl dR_next_314 (((q2.1 c3).1 c4) σ5 e5))⟩), fun c4 => L_iconst dR_next_271 in_4 (L_goto dR_next_272 (by decide) (L_putfN fp_R_183 rfl rfl (fun _ => ⟨rfl, rfl⟩) dR_next_276 ⟨ob_161, fun σ6 e6 => L_goto dR_next_279 (by decide) (L_return rfl dR_next_314 (((q2.1 c3).2 c4) σ6 e6))⟩))⟩))⟩)⟩)), fun c3 => L_aload_n dR_next_208 rfl (L_getf fw_R_174 rfl dR_next_209 ⟨ob_161, L_aload_n dR_next_212 rfl (L_getf fw_R_177 rfl dR_next_213 ⟨ob_161, L_isub dR_next_216 (L_iconst dR_next_217 in_4 (L_icmp_ge dR_next_218 (by decide) ⟨fun c7 => L_aload_n dR_next_244 rfl (L_dup dR_next_245 n21 (L_getf fw_R_174 rfl dR_next_246 ⟨ob_161, L_iconst dR_next_249 in_1 (L_iadd dR_next_250 (L_putfN fp_R_174 rfl rfl (fun _ => ⟨rfl, rfl⟩) dR_next_251 ⟨ob_161, fun σ8 e8 => L_goto dR_next_254 (by decide) (((q2.2 c3).1 c7) σ8 e8)⟩))⟩)), fun c7 => L_aload_n dR_next_221 rfl (L_bipush dR_next_222 bp_10 in_10 (L_aload_n dR_next_224 rfl (L_getf fw_R_199 rfl dR_next_225 ⟨ob_161, L_imul dR_next_228 (L_aload_n dR_next_229 rfl (L_aload_n dR_next_230 rfl (L_getf fw_R_174 rfl dR_next_231 ⟨ob_161, L_callVI rfl cv_R_look2 (As := [vI (σ2 161 16)]) rfl (tk8 0 rfl rfl) rfl (Nat.le_of_ble_eq_true rfl) dR_next_234 ⟨ob_161, Tri.mono ((q2.2 c3).2 c7) (fun r9 σ9 q9 => L_iadd dR_next_237 (L_bipush dR_next_238 bp_48 in_48 (L_isub dR_next_240 (L_putfN fp_R_199 rfl rfl (fun _ => ⟨rfl, rfl⟩) dR_next_241 ⟨ob_161, fun σ10 e10 => L_aload_n dR_next_244 rfl (L_dup dR_next_245 n21 (L_getf fw_R_174 rfl dR_next_246 ⟨ob_161, L_iconst dR_next_249 in_1 (L_iadd dR_next_250 (L_putfN fp_R_174 rfl rfl (fun _ => ⟨rfl, rfl⟩) dR_next_251 ⟨ob_161, fun σ11 e11 => L_goto dR_next_254 (by decide) ((q9 σ10 e10) σ11 e11)⟩))⟩))⟩))))⟩⟩)))⟩)))⟩))⟩)⟩)⟩)))⟩⟩))
theorem s_R_next_109 {d : Nat} {σ : SG} {Q : Int → SG → Prop} (h : Tri d M_R_look2 [vA 161, vI (σ 161 16)] σ (fun r1 σ1 => Tri d M_R_isLetter [vI r1] σ1 (fun r2 σ2 => (r2 = 0 → Q 0 σ2) ∧ (r2 ≠ 0 → (9 ≤ w32 ((σ2 161 16) - (σ2 161 15)) → (∀ σ5, σ5 = up σ2 161 18 (-1) → (∀ σ6, σ6 = up σ5 161 16 (w32 ((σ5 161 16) + 1)) → L (d + 1) M_R_next 109 [vA 161, vU] [] σ6 Q))) ∧ (w32 ((σ2 161 16) - (σ2 161 15)) < 9 → Tri d M_R_look2 [vA 161, vI (σ2 161 16)] σ2 (fun r7 σ7 => (∀ σ8, σ8 = up σ7 161 18 (w64 ((w64 ((w64 ((σ2 161 18) * 32)) + r7)) - 96)) → (∀ σ9, σ9 = up σ8 161 16 (w32 ((σ8 161 16) + 1)) → L (d + 1) M_R_next 109 [vA 161, vU] [] σ9 Q)))))))) : L (d + 1) M_R_next 109 [vA 161, vU] [] σ Q :=
  L_aload_n dR_next_109 rfl (L_aload_n dR_next_110 rfl (L_getf fw_R_174 rfl dR_next_111 ⟨ob_161, L_callVI rfl cv_R_look2 (As := [vI (σ 161 16)]) rfl (tk8 0 rfl rfl) rfl (Nat.le_of_ble_eq_true rfl) dR_next_114 ⟨ob_161, Tri.mono h (fun r1 σ1 q1 => L_callSI rfl cs_R_isLetter (As := [vI r1]) rfl (tk8 4 rfl rfl) rfl (Nat.le_of_ble_eq_true rfl) dR_next_117 (Tri.mono q1 (fun r2 σ2 q2 => L_if_eq dR_next_120 (by decide) ⟨fun c3 => L_return rfl dR_next_314 (q2.1 c3), fun c3 => L_aload_n dR_next_123 rfl (L_aload_n dR_next_124 rfl (L_getf fw_R_174 rfl dR_next_125 ⟨ob_161, L_aload_n dR_next_128 rfl (L_getf fw_R_177 rfl dR_next_129 ⟨ob_161, L_isub dR_next_132 (L_bipush dR_next_133 bp_9 in_9 (L_icmp_ge dR_next_135 (by decide) ⟨fun c4 => L_ldc2 (x := (-1)) (tk7 211 rfl rfl) rfl inJ_m1 dR_next_163 (L_putfN fp_R_189 rfl rfl (fun _ => ⟨rfl, rfl⟩) dR_next_166 ⟨ob_161, fun σ5 e5 => L_aload_n dR_next_169 rfl (L_dup dR_next_170 n21 (L_getf fw_R_174 rfl dR_next_171 ⟨ob_161, L_iconst dR_next_174 in_1 (L_iadd dR_next_175 (L_putfN fp_R_174 rfl rfl (fun _ => ⟨rfl, rfl⟩) dR_next_176 ⟨ob_161, fun σ6 e6 => L_goto dR_next_179 (by decide) ((((q2.2 c3).1 c4) σ5 e5) σ6 e6)⟩))⟩))⟩), fun c4 => L_aload_n dR_next_138 rfl (L_getf fw_R_189 rfl dR_next_139 ⟨ob_161, L_ldc2 (x := 32) (tk8 7 rfl rfl) rfl inJ_32 dR_next_142 (L_lmul dR_next_145 (L_aload_n dR_next_146 rfl (L_aload_n dR_next_147 rfl (L_getf fw_R_174 rfl dR_next_148 ⟨ob_161, L_callVI rfl cv_R_look2 (As := [vI (σ2 161 16)]) rfl (tk8 0 rfl rfl) rfl (Nat.le_of_ble_eq_true rfl) dR_next_151 ⟨ob_161, Tri.mono ((q2.2 c3).2 c4) (fun r7 σ7 q7 => L_i2l dR_next_154 (L_ladd dR_next_155 (L_ldc2 (x := 96) (tk8 8 rfl rfl) rfl inJ_96 dR_next_156 (L_lsub dR_next_159 (L_goto dR_next_160 (by decide) (L_putfN fp_R_189 rfl rfl (fun _ => ⟨rfl, rfl⟩) dR_next_166 ⟨ob_161, fun σ8 e8 => L_aload_n dR_next_169 rfl (L_dup dR_next_170 n21 (L_getf fw_R_174 rfl dR_next_171 ⟨ob_161, L_iconst dR_next_174 in_1 (L_iadd dR_next_175 (L_putfN fp_R_174 rfl rfl (fun _ => ⟨rfl, rfl⟩) dR_next_176 ⟨ob_161, fun σ9 e9 => L_goto dR_next_179 (by decide) ((q7 σ8 e8) σ9 e9)⟩))⟩))⟩))))))⟩⟩))))⟩)⟩))⟩)⟩))⟩)))⟩⟩))
theorem dR_isSign_0 : decode prog_14_method_24_code 0 = .ok (.aload_n 0, 1) := by decide +kernel
theorem dR_isSign_1 : decode prog_14_method_24_code 1 = .ok (.getfield 183, 3) := by decide +kernel
theorem dR_isSign_4 : decode prog_14_method_24_code 4 = .ok (.iconst 3, 1) := by decide +kernel
theorem dR_isSign_5 : decode prog_14_method_24_code 5 = .ok (.if_icmp .ne 15, 3) := by decide +kernel
theorem dR_isSign_8 : decode prog_14_method_24_code 8 = .ok (.aload_n 0, 1) := by decide +kernel
theorem dR_isSign_9 : decode prog_14_method_24_code 9 = .ok (.getfield 199, 3) := by decide +kernel
theorem dR_isSign_12 : decode prog_14_method_24_code 12 = .ok (.iload_n 1, 1) := by decide +kernel
theorem dR_isSign_13 : decode prog_14_method_24_code 13 = .ok (.if_icmp .ne 7, 3) := by decide +kernel
theorem dR_isSign_16 : decode prog_14_method_24_code 16 = .ok (.iconst 1, 1) := by decide +kernel
theorem dR_isSign_17 : decode prog_14_method_24_code 17 = .ok (.goto 4, 3) := by decide +kernel
theorem dR_isSign_20 : decode prog_14_method_24_code 20 = .ok (.iconst 0, 1) := by decide +kernel
theorem dR_isSign_21 : decode prog_14_method_24_code 21 = .ok (.ireturn, 1) := by decide +kernel
theorem t_R_isSign {d : Nat} {x1 : Int} {σ : SG} {Q : Int → SG → Prop} (h : inI x1 → ((σ 161 14 ≠ 3 → Q 0 σ) ∧ (σ 161 14 = 3 → (σ 161 17 ≠ x1 → Q 0 σ) ∧ (σ 161 17 = x1 → Q 1 σ)))) : Tri (d + 1) M_R_isSign [vA 161, vI x1] σ Q :=
  Tri_intro rfl (Nat.le_of_ble_eq_true rfl) (ls := [vA 161, vI x1]) rfl (fun hok => L_aload_n dR_isSign_0 rfl (L_getf fw_R_183 rfl dR_isSign_1 ⟨ob_161, L_iconst dR_isSign_4 in_3 (L_icmp_ne dR_isSign_5 (by decide) ⟨fun c1 => L_iconst dR_isSign_20 in_0 (L_zreturn0 rfl dR_isSign_21 ((h (hok _ (List.mem_of_getElem? (i := 1) rfl))).1 c1)), fun c1 => L_aload_n dR_isSign_8 rfl (L_getf fw_R_199 rfl dR_isSign_9 ⟨ob_161, L_iload_n dR_isSign_12 rfl (L_icmp_ne dR_isSign_13 (by decide) ⟨fun c2 => L_iconst dR_isSign_20 in_0 (L_zreturn0 rfl dR_isSign_21 (((h (hok _ (List.mem_of_getElem? (i := 1) rfl))).2 c1).1 c2)), fun c2 => L_iconst dR_isSign_16 in_1 (L_goto dR_isSign_17 (by decide) (L_zreturn1 rfl dR_isSign_21 (((h (hok _ (List.mem_of_getElem? (i := 1) rfl))).2 c1).2 c2)))⟩)⟩)⟩)⟩))
theorem dR_spelled_0 : decode prog_14_method_25_code 0 = .ok (.iload_n 0, 1) := by decide +kernel
theorem dR_spelled_1 : decode prog_14_method_25_code 1 = .ok (.i2l, 1) := by decide +kernel
theorem dR_spelled_2 : decode prog_14_method_25_code 2 = .ok (.ldc2_w 194, 3) := by decide +kernel
theorem dR_spelled_5 : decode prog_14_method_25_code 5 = .ok (.lsub, 1) := by decide +kernel
theorem dR_spelled_6 : decode prog_14_method_25_code 6 = .ok (.ldc2_w 192, 3) := by decide +kernel
theorem dR_spelled_9 : decode prog_14_method_25_code 9 = .ok (.lmul, 1) := by decide +kernel
theorem dR_spelled_10 : decode prog_14_method_25_code 10 = .ok (.iload_n 1, 1) := by decide +kernel
theorem dR_spelled_11 : decode prog_14_method_25_code 11 = .ok (.i2l, 1) := by decide +kernel
theorem dR_spelled_12 : decode prog_14_method_25_code 12 = .ok (.ladd, 1) := by decide +kernel
theorem dR_spelled_13 : decode prog_14_method_25_code 13 = .ok (.ldc2_w 194, 3) := by decide +kernel
theorem dR_spelled_16 : decode prog_14_method_25_code 16 = .ok (.lsub, 1) := by decide +kernel
theorem dR_spelled_17 : decode prog_14_method_25_code 17 = .ok (.lstore 6, 2) := by decide +kernel
theorem dR_spelled_19 : decode prog_14_method_25_code 19 = .ok (.iload_n 2, 1) := by decide +kernel
theorem dR_spelled_20 : decode prog_14_method_25_code 20 = .ok (.ifCond .le 19, 3) := by decide +kernel
theorem dR_spelled_23 : decode prog_14_method_25_code 23 = .ok (.lload 6, 2) := by decide +kernel
theorem dR_spelled_25 : decode prog_14_method_25_code 25 = .ok (.ldc2_w 192, 3) := by decide +kernel
theorem dR_spelled_28 : decode prog_14_method_25_code 28 = .ok (.lmul, 1) := by decide +kernel
theorem dR_spelled_29 : decode prog_14_method_25_code 29 = .ok (.iload_n 2, 1) := by decide +kernel
theorem dR_spelled_30 : decode prog_14_method_25_code 30 = .ok (.i2l, 1) := by decide +kernel
theorem dR_spelled_31 : decode prog_14_method_25_code 31 = .ok (.ladd, 1) := by decide +kernel
theorem dR_spelled_32 : decode prog_14_method_25_code 32 = .ok (.ldc2_w 194, 3) := by decide +kernel
theorem dR_spelled_35 : decode prog_14_method_25_code 35 = .ok (.lsub, 1) := by decide +kernel
theorem dR_spelled_36 : decode prog_14_method_25_code 36 = .ok (.goto 5, 3) := by decide +kernel
theorem dR_spelled_39 : decode prog_14_method_25_code 39 = .ok (.lload 6, 2) := by decide +kernel
theorem dR_spelled_41 : decode prog_14_method_25_code 41 = .ok (.lstore 6, 2) := by decide +kernel
theorem dR_spelled_43 : decode prog_14_method_25_code 43 = .ok (.iload_n 3, 1) := by decide +kernel
theorem dR_spelled_44 : decode prog_14_method_25_code 44 = .ok (.ifCond .le 19, 3) := by decide +kernel
theorem dR_spelled_47 : decode prog_14_method_25_code 47 = .ok (.lload 6, 2) := by decide +kernel
theorem dR_spelled_49 : decode prog_14_method_25_code 49 = .ok (.ldc2_w 192, 3) := by decide +kernel
theorem dR_spelled_52 : decode prog_14_method_25_code 52 = .ok (.lmul, 1) := by decide +kernel
theorem dR_spelled_53 : decode prog_14_method_25_code 53 = .ok (.iload_n 3, 1) := by decide +kernel
theorem dR_spelled_54 : decode prog_14_method_25_code 54 = .ok (.i2l, 1) := by decide +kernel
theorem dR_spelled_55 : decode prog_14_method_25_code 55 = .ok (.ladd, 1) := by decide +kernel
theorem dR_spelled_56 : decode prog_14_method_25_code 56 = .ok (.ldc2_w 194, 3) := by decide +kernel
theorem dR_spelled_59 : decode prog_14_method_25_code 59 = .ok (.lsub, 1) := by decide +kernel
theorem dR_spelled_60 : decode prog_14_method_25_code 60 = .ok (.goto 5, 3) := by decide +kernel
theorem dR_spelled_63 : decode prog_14_method_25_code 63 = .ok (.lload 6, 2) := by decide +kernel
theorem dR_spelled_65 : decode prog_14_method_25_code 65 = .ok (.lstore 6, 2) := by decide +kernel
theorem dR_spelled_67 : decode prog_14_method_25_code 67 = .ok (.iload 4, 2) := by decide +kernel
theorem dR_spelled_69 : decode prog_14_method_25_code 69 = .ok (.ifCond .le 20, 3) := by decide +kernel
theorem dR_spelled_72 : decode prog_14_method_25_code 72 = .ok (.lload 6, 2) := by decide +kernel
theorem dR_spelled_74 : decode prog_14_method_25_code 74 = .ok (.ldc2_w 192, 3) := by decide +kernel
theorem dR_spelled_77 : decode prog_14_method_25_code 77 = .ok (.lmul, 1) := by decide +kernel
theorem dR_spelled_78 : decode prog_14_method_25_code 78 = .ok (.iload 4, 2) := by decide +kernel
theorem dR_spelled_80 : decode prog_14_method_25_code 80 = .ok (.i2l, 1) := by decide +kernel
theorem dR_spelled_81 : decode prog_14_method_25_code 81 = .ok (.ladd, 1) := by decide +kernel
theorem dR_spelled_82 : decode prog_14_method_25_code 82 = .ok (.ldc2_w 194, 3) := by decide +kernel
theorem dR_spelled_85 : decode prog_14_method_25_code 85 = .ok (.lsub, 1) := by decide +kernel
theorem dR_spelled_86 : decode prog_14_method_25_code 86 = .ok (.goto 5, 3) := by decide +kernel
theorem dR_spelled_89 : decode prog_14_method_25_code 89 = .ok (.lload 6, 2) := by decide +kernel
theorem dR_spelled_91 : decode prog_14_method_25_code 91 = .ok (.lstore 6, 2) := by decide +kernel
theorem dR_spelled_93 : decode prog_14_method_25_code 93 = .ok (.iload 5, 2) := by decide +kernel
theorem dR_spelled_95 : decode prog_14_method_25_code 95 = .ok (.ifCond .le 20, 3) := by decide +kernel
theorem dR_spelled_98 : decode prog_14_method_25_code 98 = .ok (.lload 6, 2) := by decide +kernel
theorem dR_spelled_100 : decode prog_14_method_25_code 100 = .ok (.ldc2_w 192, 3) := by decide +kernel
theorem dR_spelled_103 : decode prog_14_method_25_code 103 = .ok (.lmul, 1) := by decide +kernel
theorem dR_spelled_104 : decode prog_14_method_25_code 104 = .ok (.iload 5, 2) := by decide +kernel
theorem dR_spelled_106 : decode prog_14_method_25_code 106 = .ok (.i2l, 1) := by decide +kernel
theorem dR_spelled_107 : decode prog_14_method_25_code 107 = .ok (.ladd, 1) := by decide +kernel
theorem dR_spelled_108 : decode prog_14_method_25_code 108 = .ok (.ldc2_w 194, 3) := by decide +kernel
theorem dR_spelled_111 : decode prog_14_method_25_code 111 = .ok (.lsub, 1) := by decide +kernel
theorem dR_spelled_112 : decode prog_14_method_25_code 112 = .ok (.goto 5, 3) := by decide +kernel
theorem dR_spelled_115 : decode prog_14_method_25_code 115 = .ok (.lload 6, 2) := by decide +kernel
theorem dR_spelled_117 : decode prog_14_method_25_code 117 = .ok (.lreturn, 1) := by decide +kernel
theorem t_R_spelled {d : Nat} {x0 x1 x2 x3 x4 x5 : Int} {σ : SG} {Q : Int → SG → Prop} (h : inI x0 → inI x1 → inI x2 → inI x3 → inI x4 → inI x5 → ((x2 ≤ 0 → L (d + 1) M_R_spelled 41 [vU, vU, vU, vI x3, vI x4, vI x5, vU, vU] [vJ (w64 ((w64 ((w64 ((w64 (x0 - 96)) * 32)) + x1)) - 96))] σ Q) ∧ (0 < x2 → L (d + 1) M_R_spelled 41 [vU, vU, vU, vI x3, vI x4, vI x5, vU, vU] [vJ (w64 ((w64 ((w64 ((w64 ((w64 ((w64 ((w64 (x0 - 96)) * 32)) + x1)) - 96)) * 32)) + x2)) - 96))] σ Q))) : Tri (d + 1) M_R_spelled [vI x0, vI x1, vI x2, vI x3, vI x4, vI x5] σ Q :=
  Tri_intro rfl (Nat.le_of_ble_eq_true rfl) (ls := [vI x0, vI x1, vI x2, vI x3, vI x4, vI x5, vU, vU]) rfl (fun hok => L_iload_n dR_spelled_0 rfl (L_i2l dR_spelled_1 (L_ldc2 (x := 96) (tk8 8 rfl rfl) rfl inJ_96 dR_spelled_2 (L_lsub dR_spelled_5 (L_ldc2 (x := 32) (tk8 7 rfl rfl) rfl inJ_32 dR_spelled_6 (L_lmul dR_spelled_9 (L_iload_n dR_spelled_10 rfl (L_i2l dR_spelled_11 (L_ladd dR_spelled_12 (L_ldc2 (x := 96) (tk8 8 rfl rfl) rfl inJ_96 dR_spelled_13 (L_lsub dR_spelled_16 (L_lstore dR_spelled_17 (by decide) (L_iload_n dR_spelled_19 rfl (L_if_le dR_spelled_20 (by decide) ⟨fun c1 => L_lload dR_spelled_39 rfl (L_weak [false, false, false, true, true, true, false, true] ((h (hok _ (List.mem_of_getElem? (i := 0) rfl)) (hok _ (List.mem_of_getElem? (i := 1) rfl)) (hok _ (List.mem_of_getElem? (i := 2) rfl)) (hok _ (List.mem_of_getElem? (i := 3) rfl)) (hok _ (List.mem_of_getElem? (i := 4) rfl)) (hok _ (List.mem_of_getElem? (i := 5) rfl))).1 c1)), fun c1 => L_lload dR_spelled_23 rfl (L_ldc2 (x := 32) (tk8 7 rfl rfl) rfl inJ_32 dR_spelled_25 (L_lmul dR_spelled_28 (L_iload_n dR_spelled_29 rfl (L_i2l dR_spelled_30 (L_ladd dR_spelled_31 (L_ldc2 (x := 96) (tk8 8 rfl rfl) rfl inJ_96 dR_spelled_32 (L_lsub dR_spelled_35 (L_goto dR_spelled_36 (by decide) (L_weak [false, false, false, true, true, true, false, true] ((h (hok _ (List.mem_of_getElem? (i := 0) rfl)) (hok _ (List.mem_of_getElem? (i := 1) rfl)) (hok _ (List.mem_of_getElem? (i := 2) rfl)) (hok _ (List.mem_of_getElem? (i := 3) rfl)) (hok _ (List.mem_of_getElem? (i := 4) rfl)) (hok _ (List.mem_of_getElem? (i := 5) rfl))).2 c1))))))))))⟩))))))))))))))
theorem s_R_spelled_41 {d : Nat} {x3 x4 x5 y0 : Int} {σ : SG} {Q : Int → SG → Prop} (h : (x3 ≤ 0 → L (d + 1) M_R_spelled 65 [vU, vU, vU, vU, vI x4, vI x5, vU, vU] [vJ y0] σ Q) ∧ (0 < x3 → L (d + 1) M_R_spelled 65 [vU, vU, vU, vU, vI x4, vI x5, vU, vU] [vJ (w64 ((w64 ((w64 (y0 * 32)) + x3)) - 96))] σ Q)) : L (d + 1) M_R_spelled 41 [vU, vU, vU, vI x3, vI x4, vI x5, vU, vU] [vJ y0] σ Q :=
  L_lstore dR_spelled_41 (by decide) (L_iload_n dR_spelled_43 rfl (L_if_le dR_spelled_44 (by decide) ⟨fun c1 => L_lload dR_spelled_63 rfl (L_weak [true, true, true, false, true, true, false, true] (h.1 c1)), fun c1 => L_lload dR_spelled_47 rfl (L_ldc2 (x := 32) (tk8 7 rfl rfl) rfl inJ_32 dR_spelled_49 (L_lmul dR_spelled_52 (L_iload_n dR_spelled_53 rfl (L_i2l dR_spelled_54 (L_ladd dR_spelled_55 (L_ldc2 (x := 96) (tk8 8 rfl rfl) rfl inJ_96 dR_spelled_56 (L_lsub dR_spelled_59 (L_goto dR_spelled_60 (by decide) (L_weak [true, true, true, false, true, true, false, true] (h.2 c1))))))))))⟩))
theorem s_R_spelled_65 {d : Nat} {x4 x5 y0 : Int} {σ : SG} {Q : Int → SG → Prop} (h : (x4 ≤ 0 → L (d + 1) M_R_spelled 91 [vU, vU, vU, vU, vU, vI x5, vU, vU] [vJ y0] σ Q) ∧ (0 < x4 → L (d + 1) M_R_spelled 91 [vU, vU, vU, vU, vU, vI x5, vU, vU] [vJ (w64 ((w64 ((w64 (y0 * 32)) + x4)) - 96))] σ Q)) : L (d + 1) M_R_spelled 65 [vU, vU, vU, vU, vI x4, vI x5, vU, vU] [vJ y0] σ Q :=
  L_lstore dR_spelled_65 (by decide) (L_iload dR_spelled_67 rfl (L_if_le dR_spelled_69 (by decide) ⟨fun c1 => L_lload dR_spelled_89 rfl (L_weak [true, true, true, true, false, true, false, true] (h.1 c1)), fun c1 => L_lload dR_spelled_72 rfl (L_ldc2 (x := 32) (tk8 7 rfl rfl) rfl inJ_32 dR_spelled_74 (L_lmul dR_spelled_77 (L_iload dR_spelled_78 rfl (L_i2l dR_spelled_80 (L_ladd dR_spelled_81 (L_ldc2 (x := 96) (tk8 8 rfl rfl) rfl inJ_96 dR_spelled_82 (L_lsub dR_spelled_85 (L_goto dR_spelled_86 (by decide) (L_weak [true, true, true, true, false, true, false, true] (h.2 c1))))))))))⟩))
theorem s_R_spelled_91 {d : Nat} {x5 y0 : Int} {σ : SG} {Q : Int → SG → Prop} (h : (x5 ≤ 0 → Q y0 σ) ∧ (0 < x5 → Q (w64 ((w64 ((w64 (y0 * 32)) + x5)) - 96)) σ)) : L (d + 1) M_R_spelled 91 [vU, vU, vU, vU, vU, vI x5, vU, vU] [vJ y0] σ Q :=
  L_lstore dR_spelled_91 (by decide) (L_iload dR_spelled_93 rfl (L_if_le dR_spelled_95 (by decide) ⟨fun c1 => L_lload dR_spelled_115 rfl (L_lreturn rfl dR_spelled_117 (h.1 c1)), fun c1 => L_lload dR_spelled_98 rfl (L_ldc2 (x := 32) (tk8 7 rfl rfl) rfl inJ_32 dR_spelled_100 (L_lmul dR_spelled_103 (L_iload dR_spelled_104 rfl (L_i2l dR_spelled_106 (L_ladd dR_spelled_107 (L_ldc2 (x := 96) (tk8 8 rfl rfl) rfl inJ_96 dR_spelled_108 (L_lsub dR_spelled_111 (L_goto dR_spelled_112 (by decide) (L_lreturn rfl dR_spelled_117 (h.2 c1))))))))))⟩))
theorem dR_longer_0 : decode prog_14_method_26_code 0 = .ok (.lload_n 0, 1) := by decide +kernel
theorem dR_longer_1 : decode prog_14_method_26_code 1 = .ok (.ldc2_w 192, 3) := by decide +kernel
theorem dR_longer_4 : decode prog_14_method_26_code 4 = .ok (.lmul, 1) := by decide +kernel
theorem dR_longer_5 : decode prog_14_method_26_code 5 = .ok (.iload_n 2, 1) := by decide +kernel
theorem dR_longer_6 : decode prog_14_method_26_code 6 = .ok (.i2l, 1) := by decide +kernel
theorem dR_longer_7 : decode prog_14_method_26_code 7 = .ok (.ladd, 1) := by decide +kernel
theorem dR_longer_8 : decode prog_14_method_26_code 8 = .ok (.ldc2_w 194, 3) := by decide +kernel
theorem dR_longer_11 : decode prog_14_method_26_code 11 = .ok (.lsub, 1) := by decide +kernel
theorem dR_longer_12 : decode prog_14_method_26_code 12 = .ok (.lstore 5, 2) := by decide +kernel
theorem dR_longer_14 : decode prog_14_method_26_code 14 = .ok (.iload_n 3, 1) := by decide +kernel
theorem dR_longer_15 : decode prog_14_method_26_code 15 = .ok (.ifCond .le 19, 3) := by decide +kernel
theorem dR_longer_18 : decode prog_14_method_26_code 18 = .ok (.lload 5, 2) := by decide +kernel
theorem dR_longer_20 : decode prog_14_method_26_code 20 = .ok (.ldc2_w 192, 3) := by decide +kernel
theorem dR_longer_23 : decode prog_14_method_26_code 23 = .ok (.lmul, 1) := by decide +kernel
theorem dR_longer_24 : decode prog_14_method_26_code 24 = .ok (.iload_n 3, 1) := by decide +kernel
theorem dR_longer_25 : decode prog_14_method_26_code 25 = .ok (.i2l, 1) := by decide +kernel
theorem dR_longer_26 : decode prog_14_method_26_code 26 = .ok (.ladd, 1) := by decide +kernel
theorem dR_longer_27 : decode prog_14_method_26_code 27 = .ok (.ldc2_w 194, 3) := by decide +kernel
theorem dR_longer_30 : decode prog_14_method_26_code 30 = .ok (.lsub, 1) := by decide +kernel
theorem dR_longer_31 : decode prog_14_method_26_code 31 = .ok (.goto 5, 3) := by decide +kernel
theorem dR_longer_34 : decode prog_14_method_26_code 34 = .ok (.lload 5, 2) := by decide +kernel
theorem dR_longer_36 : decode prog_14_method_26_code 36 = .ok (.lstore 5, 2) := by decide +kernel
theorem dR_longer_38 : decode prog_14_method_26_code 38 = .ok (.iload 4, 2) := by decide +kernel
theorem dR_longer_40 : decode prog_14_method_26_code 40 = .ok (.ifCond .le 20, 3) := by decide +kernel
theorem dR_longer_43 : decode prog_14_method_26_code 43 = .ok (.lload 5, 2) := by decide +kernel
theorem dR_longer_45 : decode prog_14_method_26_code 45 = .ok (.ldc2_w 192, 3) := by decide +kernel
theorem dR_longer_48 : decode prog_14_method_26_code 48 = .ok (.lmul, 1) := by decide +kernel
theorem dR_longer_49 : decode prog_14_method_26_code 49 = .ok (.iload 4, 2) := by decide +kernel
theorem dR_longer_51 : decode prog_14_method_26_code 51 = .ok (.i2l, 1) := by decide +kernel
theorem dR_longer_52 : decode prog_14_method_26_code 52 = .ok (.ladd, 1) := by decide +kernel
theorem dR_longer_53 : decode prog_14_method_26_code 53 = .ok (.ldc2_w 194, 3) := by decide +kernel
theorem dR_longer_56 : decode prog_14_method_26_code 56 = .ok (.lsub, 1) := by decide +kernel
theorem dR_longer_57 : decode prog_14_method_26_code 57 = .ok (.goto 5, 3) := by decide +kernel
theorem dR_longer_60 : decode prog_14_method_26_code 60 = .ok (.lload 5, 2) := by decide +kernel
theorem dR_longer_62 : decode prog_14_method_26_code 62 = .ok (.lreturn, 1) := by decide +kernel
theorem t_R_longer {d : Nat} {x0 x2 x3 x4 : Int} {σ : SG} {Q : Int → SG → Prop} (h : inJ x0 → inI x2 → inI x3 → inI x4 → ((x3 ≤ 0 → L (d + 1) M_R_longer 36 [vU, vU, vU, vU, vI x4, vU, vU] [vJ (w64 ((w64 ((w64 (x0 * 32)) + x2)) - 96))] σ Q) ∧ (0 < x3 → L (d + 1) M_R_longer 36 [vU, vU, vU, vU, vI x4, vU, vU] [vJ (w64 ((w64 ((w64 ((w64 ((w64 ((w64 (x0 * 32)) + x2)) - 96)) * 32)) + x3)) - 96))] σ Q))) : Tri (d + 1) M_R_longer [vJ x0, vI x2, vI x3, vI x4] σ Q :=
  Tri_intro rfl (Nat.le_of_ble_eq_true rfl) (ls := [vJ x0, vU, vI x2, vI x3, vI x4, vU, vU]) rfl (fun hok => L_lload_n dR_longer_0 rfl (L_ldc2 (x := 32) (tk8 7 rfl rfl) rfl inJ_32 dR_longer_1 (L_lmul dR_longer_4 (L_iload_n dR_longer_5 rfl (L_i2l dR_longer_6 (L_ladd dR_longer_7 (L_ldc2 (x := 96) (tk8 8 rfl rfl) rfl inJ_96 dR_longer_8 (L_lsub dR_longer_11 (L_lstore dR_longer_12 (by decide) (L_iload_n dR_longer_14 rfl (L_if_le dR_longer_15 (by decide) ⟨fun c1 => L_lload dR_longer_34 rfl (L_weak [false, true, false, false, true, false, true] ((h (hok _ (List.mem_of_getElem? (i := 0) rfl)) (hok _ (List.mem_of_getElem? (i := 1) rfl)) (hok _ (List.mem_of_getElem? (i := 2) rfl)) (hok _ (List.mem_of_getElem? (i := 3) rfl))).1 c1)), fun c1 => L_lload dR_longer_18 rfl (L_ldc2 (x := 32) (tk8 7 rfl rfl) rfl inJ_32 dR_longer_20 (L_lmul dR_longer_23 (L_iload_n dR_longer_24 rfl (L_i2l dR_longer_25 (L_ladd dR_longer_26 (L_ldc2 (x := 96) (tk8 8 rfl rfl) rfl inJ_96 dR_longer_27 (L_lsub dR_longer_30 (L_goto dR_longer_31 (by decide) (L_weak [false, true, false, false, true, false, true] ((h (hok _ (List.mem_of_getElem? (i := 0) rfl)) (hok _ (List.mem_of_getElem? (i := 1) rfl)) (hok _ (List.mem_of_getElem? (i := 2) rfl)) (hok _ (List.mem_of_getElem? (i := 3) rfl))).2 c1))))))))))⟩)))))))))))
theorem s_R_longer_36 {d : Nat} {x4 y0 : Int} {σ : SG} {Q : Int → SG → Prop} (h : (x4 ≤ 0 → Q y0 σ) ∧ (0 < x4 → Q (w64 ((w64 ((w64 (y0 * 32)) + x4)) - 96)) σ)) : L (d + 1) M_R_longer 36 [vU, vU, vU, vU, vI x4, vU, vU] [vJ y0] σ Q :=
  L_lstore dR_longer_36 (by decide) (L_iload dR_longer_38 rfl (L_if_le dR_longer_40 (by decide) ⟨fun c1 => L_lload dR_longer_60 rfl (L_lreturn rfl dR_longer_62 (h.1 c1)), fun c1 => L_lload dR_longer_43 rfl (L_ldc2 (x := 32) (tk8 7 rfl rfl) rfl inJ_32 dR_longer_45 (L_lmul dR_longer_48 (L_iload dR_longer_49 rfl (L_i2l dR_longer_51 (L_ladd dR_longer_52 (L_ldc2 (x := 96) (tk8 8 rfl rfl) rfl inJ_96 dR_longer_53 (L_lsub dR_longer_56 (L_goto dR_longer_57 (by decide) (L_lreturn rfl dR_longer_62 (h.2 c1))))))))))⟩))
theorem dR_isWord_0 : decode prog_14_method_27_code 0 = .ok (.aload_n 0, 1) := by decide +kernel
theorem dR_isWord_1 : decode prog_14_method_27_code 1 = .ok (.getfield 183, 3) := by decide +kernel
theorem dR_isWord_4 : decode prog_14_method_27_code 4 = .ok (.iconst 1, 1) := by decide +kernel
theorem dR_isWord_5 : decode prog_14_method_27_code 5 = .ok (.if_icmp .ne 16, 3) := by decide +kernel
theorem dR_isWord_8 : decode prog_14_method_27_code 8 = .ok (.aload_n 0, 1) := by decide +kernel
theorem dR_isWord_9 : decode prog_14_method_27_code 9 = .ok (.getfield 189, 3) := by decide +kernel
theorem dR_isWord_12 : decode prog_14_method_27_code 12 = .ok (.lload_n 1, 1) := by decide +kernel
theorem dR_isWord_13 : decode prog_14_method_27_code 13 = .ok (.lcmp, 1) := by decide +kernel
theorem dR_isWord_14 : decode prog_14_method_27_code 14 = .ok (.ifCond .ne 7, 3) := by decide +kernel
theorem dR_isWord_17 : decode prog_14_method_27_code 17 = .ok (.iconst 1, 1) := by decide +kernel
theorem dR_isWord_18 : decode prog_14_method_27_code 18 = .ok (.goto 4, 3) := by decide +kernel
theorem dR_isWord_21 : decode prog_14_method_27_code 21 = .ok (.iconst 0, 1) := by decide +kernel
theorem dR_isWord_22 : decode prog_14_method_27_code 22 = .ok (.ireturn, 1) := by decide +kernel
theorem t_R_isWord {d : Nat} {x1 : Int} {σ : SG} {Q : Int → SG → Prop} (h : inJ x1 → ((σ 161 14 ≠ 1 → Q 0 σ) ∧ (σ 161 14 = 1 → (cmp3 (σ 161 18) x1 ≠ 0 → Q 0 σ) ∧ (cmp3 (σ 161 18) x1 = 0 → Q 1 σ)))) : Tri (d + 1) M_R_isWord [vA 161, vJ x1] σ Q :=
  Tri_intro rfl (Nat.le_of_ble_eq_true rfl) (ls := [vA 161, vJ x1, vU]) rfl (fun hok => L_aload_n dR_isWord_0 rfl (L_getf fw_R_183 rfl dR_isWord_1 ⟨ob_161, L_iconst dR_isWord_4 in_1 (L_icmp_ne dR_isWord_5 (by decide) ⟨fun c1 => L_iconst dR_isWord_21 in_0 (L_zreturn0 rfl dR_isWord_22 ((h (hok _ (List.mem_of_getElem? (i := 1) rfl))).1 c1)), fun c1 => L_aload_n dR_isWord_8 rfl (L_getf fw_R_189 rfl dR_isWord_9 ⟨ob_161, L_lload_n dR_isWord_12 rfl (L_lcmp dR_isWord_13 (L_if_ne dR_isWord_14 (by decide) ⟨fun c2 => L_iconst dR_isWord_21 in_0 (L_zreturn0 rfl dR_isWord_22 (((h (hok _ (List.mem_of_getElem? (i := 1) rfl))).2 c1).1 c2)), fun c2 => L_iconst dR_isWord_17 in_1 (L_goto dR_isWord_18 (by decide) (L_zreturn1 rfl dR_isWord_22 (((h (hok _ (List.mem_of_getElem? (i := 1) rfl))).2 c1).2 c2)))⟩))⟩)⟩)⟩))
theorem dR_isPrime_0 : decode prog_14_method_28_code 0 = .ok (.aload_n 0, 1) := by decide +kernel
theorem dR_isPrime_1 : decode prog_14_method_28_code 1 = .ok (.bipush 112, 2) := by decide +kernel
theorem dR_isPrime_3 : decode prog_14_method_28_code 3 = .ok (.bipush 114, 2) := by decide +kernel
theorem dR_isPrime_5 : decode prog_14_method_28_code 5 = .ok (.bipush 105, 2) := by decide +kernel
theorem dR_isPrime_7 : decode prog_14_method_28_code 7 = .ok (.bipush 109, 2) := by decide +kernel
theorem dR_isPrime_9 : decode prog_14_method_28_code 9 = .ok (.bipush 101, 2) := by decide +kernel
theorem dR_isPrime_11 : decode prog_14_method_28_code 11 = .ok (.iconst 0, 1) := by decide +kernel
theorem dR_isPrime_12 : decode prog_14_method_28_code 12 = .ok (.invokestatic 205, 3) := by decide +kernel
theorem dR_isPrime_15 : decode prog_14_method_28_code 15 = .ok (.invokevirtual 209, 3) := by decide +kernel
theorem dR_isPrime_18 : decode prog_14_method_28_code 18 = .ok (.ireturn, 1) := by decide +kernel
theorem t_R_isPrime {d : Nat} {σ : SG} {Q : Int → SG → Prop} (h : Tri d M_R_spelled [vI 112, vI 114, vI 105, vI 109, vI 101, vI 0] σ (fun r1 σ1 => Tri d M_R_isWord [vA 161, vJ r1] σ1 (fun r2 σ2 => (r2 = 0 ∨ r2 = 1) ∧ Q r2 σ2))) : Tri (d + 1) M_R_isPrime [vA 161] σ Q :=
  Tri_intro rfl (Nat.le_of_ble_eq_true rfl) (ls := [vA 161]) rfl (fun hok => L_aload_n dR_isPrime_0 rfl (L_bipush dR_isPrime_1 bp_112 in_112 (L_bipush dR_isPrime_3 bp_114 in_114 (L_bipush dR_isPrime_5 bp_105 in_105 (L_bipush dR_isPrime_7 bp_109 in_109 (L_bipush dR_isPrime_9 bp_101 in_101 (L_iconst dR_isPrime_11 in_0 (L_callSJ rfl cs_R_spelled (As := [vI 112, vI 114, vI 105, vI 109, vI 101, vI 0]) rfl (tk8 20 rfl rfl) rfl (Nat.le_of_ble_eq_true rfl) dR_isPrime_12 (Tri.mono (h) (fun r1 σ1 q1 => L_callVI rfl cv_R_isWord (As := [vJ r1]) rfl (tk8 23 rfl rfl) rfl (Nat.le_of_ble_eq_true rfl) dR_isPrime_15 ⟨ob_161, Tri.mono q1 (fun r2 σ2 q2 => L_zreturn rfl dR_isPrime_18 q2)⟩))))))))))
theorem dR_isSizeWord_0 : decode prog_14_method_29_code 0 = .ok (.aload_n 0, 1) := by decide +kernel
theorem dR_isSizeWord_1 : decode prog_14_method_29_code 1 = .ok (.bipush 115, 2) := by decide +kernel
theorem dR_isSizeWord_3 : decode prog_14_method_29_code 3 = .ok (.bipush 105, 2) := by decide +kernel
theorem dR_isSizeWord_5 : decode prog_14_method_29_code 5 = .ok (.bipush 122, 2) := by decide +kernel
theorem dR_isSizeWord_7 : decode prog_14_method_29_code 7 = .ok (.bipush 101, 2) := by decide +kernel
theorem dR_isSizeWord_9 : decode prog_14_method_29_code 9 = .ok (.iconst 0, 1) := by decide +kernel
theorem dR_isSizeWord_10 : decode prog_14_method_29_code 10 = .ok (.iconst 0, 1) := by decide +kernel
theorem dR_isSizeWord_11 : decode prog_14_method_29_code 11 = .ok (.invokestatic 205, 3) := by decide +kernel
theorem dR_isSizeWord_14 : decode prog_14_method_29_code 14 = .ok (.invokevirtual 209, 3) := by decide +kernel
theorem dR_isSizeWord_17 : decode prog_14_method_29_code 17 = .ok (.ireturn, 1) := by decide +kernel
theorem t_R_isSizeWord {d : Nat} {σ : SG} {Q : Int → SG → Prop} (h : Tri d M_R_spelled [vI 115, vI 105, vI 122, vI 101, vI 0, vI 0] σ (fun r1 σ1 => Tri d M_R_isWord [vA 161, vJ r1] σ1 (fun r2 σ2 => (r2 = 0 ∨ r2 = 1) ∧ Q r2 σ2))) : Tri (d + 1) M_R_isSizeWord [vA 161] σ Q :=
  Tri_intro rfl (Nat.le_of_ble_eq_true rfl) (ls := [vA 161]) rfl (fun hok => L_aload_n dR_isSizeWord_0 rfl (L_bipush dR_isSizeWord_1 bp_115 in_115 (L_bipush dR_isSizeWord_3 bp_105 in_105 (L_bipush dR_isSizeWord_5 bp_122 in_122 (L_bipush dR_isSizeWord_7 bp_101 in_101 (L_iconst dR_isSizeWord_9 in_0 (L_iconst dR_isSizeWord_10 in_0 (L_callSJ rfl cs_R_spelled (As := [vI 115, vI 105, vI 122, vI 101, vI 0, vI 0]) rfl (tk8 20 rfl rfl) rfl (Nat.le_of_ble_eq_true rfl) dR_isSizeWord_11 (Tri.mono (h) (fun r1 σ1 q1 => L_callVI rfl cv_R_isWord (As := [vJ r1]) rfl (tk8 23 rfl rfl) rfl (Nat.le_of_ble_eq_true rfl) dR_isSizeWord_14 ⟨ob_161, Tri.mono q1 (fun r2 σ2 q2 => L_zreturn rfl dR_isSizeWord_17 q2)⟩))))))))))
theorem dR_isBracket_0 : decode prog_14_method_30_code 0 = .ok (.aload_n 0, 1) := by decide +kernel
theorem dR_isBracket_1 : decode prog_14_method_30_code 1 = .ok (.bipush 98, 2) := by decide +kernel
theorem dR_isBracket_3 : decode prog_14_method_30_code 3 = .ok (.bipush 114, 2) := by decide +kernel
theorem dR_isBracket_5 : decode prog_14_method_30_code 5 = .ok (.bipush 97, 2) := by decide +kernel
theorem dR_isBracket_7 : decode prog_14_method_30_code 7 = .ok (.bipush 99, 2) := by decide +kernel
theorem dR_isBracket_9 : decode prog_14_method_30_code 9 = .ok (.bipush 107, 2) := by decide +kernel
theorem dR_isBracket_11 : decode prog_14_method_30_code 11 = .ok (.bipush 101, 2) := by decide +kernel
theorem dR_isBracket_13 : decode prog_14_method_30_code 13 = .ok (.invokestatic 205, 3) := by decide +kernel
theorem dR_isBracket_16 : decode prog_14_method_30_code 16 = .ok (.bipush 116, 2) := by decide +kernel
theorem dR_isBracket_18 : decode prog_14_method_30_code 18 = .ok (.iconst 0, 1) := by decide +kernel
theorem dR_isBracket_19 : decode prog_14_method_30_code 19 = .ok (.iconst 0, 1) := by decide +kernel
theorem dR_isBracket_20 : decode prog_14_method_30_code 20 = .ok (.invokestatic 213, 3) := by decide +kernel
theorem dR_isBracket_23 : decode prog_14_method_30_code 23 = .ok (.invokevirtual 209, 3) := by decide +kernel
theorem dR_isBracket_26 : decode prog_14_method_30_code 26 = .ok (.ireturn, 1) := by decide +kernel
theorem t_R_isBracket {d : Nat} {σ : SG} {Q : Int → SG → Prop} (h : Tri d M_R_spelled [vI 98, vI 114, vI 97, vI 99, vI 107, vI 101] σ (fun r1 σ1 => Tri d M_R_longer [vJ r1, vI 116, vI 0, vI 0] σ1 (fun r2 σ2 => Tri d M_R_isWord [vA 161, vJ r2] σ2 (fun r3 σ3 => (r3 = 0 ∨ r3 = 1) ∧ Q r3 σ3)))) : Tri (d + 1) M_R_isBracket [vA 161] σ Q :=
  Tri_intro rfl (Nat.le_of_ble_eq_true rfl) (ls := [vA 161]) rfl (fun hok => L_aload_n dR_isBracket_0 rfl (L_bipush dR_isBracket_1 bp_98 in_98 (L_bipush dR_isBracket_3 bp_114 in_114 (L_bipush dR_isBracket_5 bp_97 in_97 (L_bipush dR_isBracket_7 bp_99 in_99 (L_bipush dR_isBracket_9 bp_107 in_107 (L_bipush dR_isBracket_11 bp_101 in_101 (L_callSJ rfl cs_R_spelled (As := [vI 98, vI 114, vI 97, vI 99, vI 107, vI 101]) rfl (tk8 20 rfl rfl) rfl (Nat.le_of_ble_eq_true rfl) dR_isBracket_13 (Tri.mono (h) (fun r1 σ1 q1 => L_bipush dR_isBracket_16 bp_116 in_116 (L_iconst dR_isBracket_18 in_0 (L_iconst dR_isBracket_19 in_0 (L_callSJ rfl cs_R_longer (As := [vJ r1, vI 116, vI 0, vI 0]) rfl (tk8 68 rfl rfl) rfl (Nat.le_of_ble_eq_true rfl) dR_isBracket_20 (Tri.mono q1 (fun r2 σ2 q2 => L_callVI rfl cv_R_isWord (As := [vJ r2]) rfl (tk8 23 rfl rfl) rfl (Nat.le_of_ble_eq_true rfl) dR_isBracket_23 ⟨ob_161, Tri.mono q2 (fun r3 σ3 q3 => L_zreturn rfl dR_isBracket_26 q3)⟩)))))))))))))))
theorem dR_isGives_0 : decode prog_14_method_31_code 0 = .ok (.aload_n 0, 1) := by decide +kernel
theorem dR_isGives_1 : decode prog_14_method_31_code 1 = .ok (.bipush 103, 2) := by decide +kernel
theorem dR_isGives_3 : decode prog_14_method_31_code 3 = .ok (.bipush 105, 2) := by decide +kernel
theorem dR_isGives_5 : decode prog_14_method_31_code 5 = .ok (.bipush 118, 2) := by decide +kernel
theorem dR_isGives_7 : decode prog_14_method_31_code 7 = .ok (.bipush 101, 2) := by decide +kernel
theorem dR_isGives_9 : decode prog_14_method_31_code 9 = .ok (.bipush 115, 2) := by decide +kernel
theorem dR_isGives_11 : decode prog_14_method_31_code 11 = .ok (.iconst 0, 1) := by decide +kernel
theorem dR_isGives_12 : decode prog_14_method_31_code 12 = .ok (.invokestatic 205, 3) := by decide +kernel
theorem dR_isGives_15 : decode prog_14_method_31_code 15 = .ok (.invokevirtual 209, 3) := by decide +kernel
theorem dR_isGives_18 : decode prog_14_method_31_code 18 = .ok (.ireturn, 1) := by decide +kernel
theorem t_R_isGives {d : Nat} {σ : SG} {Q : Int → SG → Prop} (h : Tri d M_R_spelled [vI 103, vI 105, vI 118, vI 101, vI 115, vI 0] σ (fun r1 σ1 => Tri d M_R_isWord [vA 161, vJ r1] σ1 (fun r2 σ2 => (r2 = 0 ∨ r2 = 1) ∧ Q r2 σ2))) : Tri (d + 1) M_R_isGives [vA 161] σ Q :=
  Tri_intro rfl (Nat.le_of_ble_eq_true rfl) (ls := [vA 161]) rfl (fun hok => L_aload_n dR_isGives_0 rfl (L_bipush dR_isGives_1 bp_103 in_103 (L_bipush dR_isGives_3 bp_105 in_105 (L_bipush dR_isGives_5 bp_118 in_118 (L_bipush dR_isGives_7 bp_101 in_101 (L_bipush dR_isGives_9 bp_115 in_115 (L_iconst dR_isGives_11 in_0 (L_callSJ rfl cs_R_spelled (As := [vI 103, vI 105, vI 118, vI 101, vI 115, vI 0]) rfl (tk8 20 rfl rfl) rfl (Nat.le_of_ble_eq_true rfl) dR_isGives_12 (Tri.mono (h) (fun r1 σ1 q1 => L_callVI rfl cv_R_isWord (As := [vJ r1]) rfl (tk8 23 rfl rfl) rfl (Nat.le_of_ble_eq_true rfl) dR_isGives_15 ⟨ob_161, Tri.mono q1 (fun r2 σ2 q2 => L_zreturn rfl dR_isGives_18 q2)⟩))))))))))
theorem dR_isLess_0 : decode prog_14_method_32_code 0 = .ok (.aload_n 0, 1) := by decide +kernel
theorem dR_isLess_1 : decode prog_14_method_32_code 1 = .ok (.bipush 108, 2) := by decide +kernel
theorem dR_isLess_3 : decode prog_14_method_32_code 3 = .ok (.bipush 101, 2) := by decide +kernel
theorem dR_isLess_5 : decode prog_14_method_32_code 5 = .ok (.bipush 115, 2) := by decide +kernel
theorem dR_isLess_7 : decode prog_14_method_32_code 7 = .ok (.bipush 115, 2) := by decide +kernel
theorem dR_isLess_9 : decode prog_14_method_32_code 9 = .ok (.iconst 0, 1) := by decide +kernel
theorem dR_isLess_10 : decode prog_14_method_32_code 10 = .ok (.iconst 0, 1) := by decide +kernel
theorem dR_isLess_11 : decode prog_14_method_32_code 11 = .ok (.invokestatic 205, 3) := by decide +kernel
theorem dR_isLess_14 : decode prog_14_method_32_code 14 = .ok (.invokevirtual 209, 3) := by decide +kernel
theorem dR_isLess_17 : decode prog_14_method_32_code 17 = .ok (.ireturn, 1) := by decide +kernel
theorem t_R_isLess {d : Nat} {σ : SG} {Q : Int → SG → Prop} (h : Tri d M_R_spelled [vI 108, vI 101, vI 115, vI 115, vI 0, vI 0] σ (fun r1 σ1 => Tri d M_R_isWord [vA 161, vJ r1] σ1 (fun r2 σ2 => (r2 = 0 ∨ r2 = 1) ∧ Q r2 σ2))) : Tri (d + 1) M_R_isLess [vA 161] σ Q :=
  Tri_intro rfl (Nat.le_of_ble_eq_true rfl) (ls := [vA 161]) rfl (fun hok => L_aload_n dR_isLess_0 rfl (L_bipush dR_isLess_1 bp_108 in_108 (L_bipush dR_isLess_3 bp_101 in_101 (L_bipush dR_isLess_5 bp_115 in_115 (L_bipush dR_isLess_7 bp_115 in_115 (L_iconst dR_isLess_9 in_0 (L_iconst dR_isLess_10 in_0 (L_callSJ rfl cs_R_spelled (As := [vI 108, vI 101, vI 115, vI 115, vI 0, vI 0]) rfl (tk8 20 rfl rfl) rfl (Nat.le_of_ble_eq_true rfl) dR_isLess_11 (Tri.mono (h) (fun r1 σ1 q1 => L_callVI rfl cv_R_isWord (As := [vJ r1]) rfl (tk8 23 rfl rfl) rfl (Nat.le_of_ble_eq_true rfl) dR_isLess_14 ⟨ob_161, Tri.mono q1 (fun r2 σ2 q2 => L_zreturn rfl dR_isLess_17 q2)⟩))))))))))
theorem dR_isOf_0 : decode prog_14_method_33_code 0 = .ok (.aload_n 0, 1) := by decide +kernel
theorem dR_isOf_1 : decode prog_14_method_33_code 1 = .ok (.bipush 111, 2) := by decide +kernel
theorem dR_isOf_3 : decode prog_14_method_33_code 3 = .ok (.bipush 102, 2) := by decide +kernel
theorem dR_isOf_5 : decode prog_14_method_33_code 5 = .ok (.iconst 0, 1) := by decide +kernel
theorem dR_isOf_6 : decode prog_14_method_33_code 6 = .ok (.iconst 0, 1) := by decide +kernel
theorem dR_isOf_7 : decode prog_14_method_33_code 7 = .ok (.iconst 0, 1) := by decide +kernel
theorem dR_isOf_8 : decode prog_14_method_33_code 8 = .ok (.iconst 0, 1) := by decide +kernel
theorem dR_isOf_9 : decode prog_14_method_33_code 9 = .ok (.invokestatic 205, 3) := by decide +kernel
theorem dR_isOf_12 : decode prog_14_method_33_code 12 = .ok (.invokevirtual 209, 3) := by decide +kernel
theorem dR_isOf_15 : decode prog_14_method_33_code 15 = .ok (.ireturn, 1) := by decide +kernel
theorem t_R_isOf {d : Nat} {σ : SG} {Q : Int → SG → Prop} (h : Tri d M_R_spelled [vI 111, vI 102, vI 0, vI 0, vI 0, vI 0] σ (fun r1 σ1 => Tri d M_R_isWord [vA 161, vJ r1] σ1 (fun r2 σ2 => (r2 = 0 ∨ r2 = 1) ∧ Q r2 σ2))) : Tri (d + 1) M_R_isOf [vA 161] σ Q :=
  Tri_intro rfl (Nat.le_of_ble_eq_true rfl) (ls := [vA 161]) rfl (fun hok => L_aload_n dR_isOf_0 rfl (L_bipush dR_isOf_1 bp_111 in_111 (L_bipush dR_isOf_3 bp_102 in_102 (L_iconst dR_isOf_5 in_0 (L_iconst dR_isOf_6 in_0 (L_iconst dR_isOf_7 in_0 (L_iconst dR_isOf_8 in_0 (L_callSJ rfl cs_R_spelled (As := [vI 111, vI 102, vI 0, vI 0, vI 0, vI 0]) rfl (tk8 20 rfl rfl) rfl (Nat.le_of_ble_eq_true rfl) dR_isOf_9 (Tri.mono (h) (fun r1 σ1 q1 => L_callVI rfl cv_R_isWord (As := [vJ r1]) rfl (tk8 23 rfl rfl) rfl (Nat.le_of_ble_eq_true rfl) dR_isOf_12 ⟨ob_161, Tri.mono q1 (fun r2 σ2 q2 => L_zreturn rfl dR_isOf_15 q2)⟩))))))))))
theorem dR_stepWord_0 : decode prog_14_method_34_code 0 = .ok (.aload_n 0, 1) := by decide +kernel
theorem dR_stepWord_1 : decode prog_14_method_34_code 1 = .ok (.bipush 115, 2) := by decide +kernel
theorem dR_stepWord_3 : decode prog_14_method_34_code 3 = .ok (.bipush 119, 2) := by decide +kernel
theorem dR_stepWord_5 : decode prog_14_method_34_code 5 = .ok (.bipush 97, 2) := by decide +kernel
theorem dR_stepWord_7 : decode prog_14_method_34_code 7 = .ok (.bipush 112, 2) := by decide +kernel
theorem dR_stepWord_9 : decode prog_14_method_34_code 9 = .ok (.iconst 0, 1) := by decide +kernel
theorem dR_stepWord_10 : decode prog_14_method_34_code 10 = .ok (.iconst 0, 1) := by decide +kernel
theorem dR_stepWord_11 : decode prog_14_method_34_code 11 = .ok (.invokestatic 205, 3) := by decide +kernel
theorem dR_stepWord_14 : decode prog_14_method_34_code 14 = .ok (.invokevirtual 209, 3) := by decide +kernel
theorem dR_stepWord_17 : decode prog_14_method_34_code 17 = .ok (.ifCond .eq 5, 3) := by decide +kernel
theorem dR_stepWord_20 : decode prog_14_method_34_code 20 = .ok (.iconst 0, 1) := by decide +kernel
theorem dR_stepWord_21 : decode prog_14_method_34_code 21 = .ok (.ireturn, 1) := by decide +kernel
theorem dR_stepWord_22 : decode prog_14_method_34_code 22 = .ok (.aload_n 0, 1) := by decide +kernel
theorem dR_stepWord_23 : decode prog_14_method_34_code 23 = .ok (.bipush 115, 2) := by decide +kernel
theorem dR_stepWord_25 : decode prog_14_method_34_code 25 = .ok (.bipush 99, 2) := by decide +kernel
theorem dR_stepWord_27 : decode prog_14_method_34_code 27 = .ok (.bipush 97, 2) := by decide +kernel
theorem dR_stepWord_29 : decode prog_14_method_34_code 29 = .ok (.bipush 108, 2) := by decide +kernel
theorem dR_stepWord_31 : decode prog_14_method_34_code 31 = .ok (.bipush 101, 2) := by decide +kernel
theorem dR_stepWord_33 : decode prog_14_method_34_code 33 = .ok (.iconst 0, 1) := by decide +kernel
theorem dR_stepWord_34 : decode prog_14_method_34_code 34 = .ok (.invokestatic 205, 3) := by decide +kernel
theorem dR_stepWord_37 : decode prog_14_method_34_code 37 = .ok (.invokevirtual 209, 3) := by decide +kernel
theorem dR_stepWord_40 : decode prog_14_method_34_code 40 = .ok (.ifCond .eq 5, 3) := by decide +kernel
theorem dR_stepWord_43 : decode prog_14_method_34_code 43 = .ok (.iconst 1, 1) := by decide +kernel
theorem dR_stepWord_44 : decode prog_14_method_34_code 44 = .ok (.ireturn, 1) := by decide +kernel
theorem dR_stepWord_45 : decode prog_14_method_34_code 45 = .ok (.aload_n 0, 1) := by decide +kernel
theorem dR_stepWord_46 : decode prog_14_method_34_code 46 = .ok (.bipush 97, 2) := by decide +kernel
theorem dR_stepWord_48 : decode prog_14_method_34_code 48 = .ok (.bipush 100, 2) := by decide +kernel
theorem dR_stepWord_50 : decode prog_14_method_34_code 50 = .ok (.bipush 100, 2) := by decide +kernel
theorem dR_stepWord_52 : decode prog_14_method_34_code 52 = .ok (.iconst 0, 1) := by decide +kernel
theorem dR_stepWord_53 : decode prog_14_method_34_code 53 = .ok (.iconst 0, 1) := by decide +kernel
theorem dR_stepWord_54 : decode prog_14_method_34_code 54 = .ok (.iconst 0, 1) := by decide +kernel
theorem dR_stepWord_55 : decode prog_14_method_34_code 55 = .ok (.invokestatic 205, 3) := by decide +kernel
theorem dR_stepWord_58 : decode prog_14_method_34_code 58 = .ok (.invokevirtual 209, 3) := by decide +kernel
theorem dR_stepWord_61 : decode prog_14_method_34_code 61 = .ok (.ifCond .eq 5, 3) := by decide +kernel
theorem dR_stepWord_64 : decode prog_14_method_34_code 64 = .ok (.iconst 2, 1) := by decide +kernel
theorem dR_stepWord_65 : decode prog_14_method_34_code 65 = .ok (.ireturn, 1) := by decide +kernel
theorem dR_stepWord_66 : decode prog_14_method_34_code 66 = .ok (.aload_n 0, 1) := by decide +kernel
theorem dR_stepWord_67 : decode prog_14_method_34_code 67 = .ok (.bipush 107, 2) := by decide +kernel
theorem dR_stepWord_69 : decode prog_14_method_34_code 69 = .ok (.bipush 101, 2) := by decide +kernel
theorem dR_stepWord_71 : decode prog_14_method_34_code 71 = .ok (.bipush 101, 2) := by decide +kernel
theorem dR_stepWord_73 : decode prog_14_method_34_code 73 = .ok (.bipush 112, 2) := by decide +kernel
theorem dR_stepWord_75 : decode prog_14_method_34_code 75 = .ok (.iconst 0, 1) := by decide +kernel
theorem dR_stepWord_76 : decode prog_14_method_34_code 76 = .ok (.iconst 0, 1) := by decide +kernel
theorem dR_stepWord_77 : decode prog_14_method_34_code 77 = .ok (.invokestatic 205, 3) := by decide +kernel
theorem dR_stepWord_80 : decode prog_14_method_34_code 80 = .ok (.invokevirtual 209, 3) := by decide +kernel
theorem dR_stepWord_83 : decode prog_14_method_34_code 83 = .ok (.ifCond .eq 5, 3) := by decide +kernel
theorem dR_stepWord_86 : decode prog_14_method_34_code 86 = .ok (.iconst 3, 1) := by decide +kernel
theorem dR_stepWord_87 : decode prog_14_method_34_code 87 = .ok (.ireturn, 1) := by decide +kernel
theorem dR_stepWord_88 : decode prog_14_method_34_code 88 = .ok (.aload_n 0, 1) := by decide +kernel
theorem dR_stepWord_89 : decode prog_14_method_34_code 89 = .ok (.bipush 116, 2) := by decide +kernel
theorem dR_stepWord_91 : decode prog_14_method_34_code 91 = .ok (.bipush 97, 2) := by decide +kernel
theorem dR_stepWord_93 : decode prog_14_method_34_code 93 = .ok (.bipush 107, 2) := by decide +kernel
theorem dR_stepWord_95 : decode prog_14_method_34_code 95 = .ok (.bipush 101, 2) := by decide +kernel
theorem dR_stepWord_97 : decode prog_14_method_34_code 97 = .ok (.iconst 0, 1) := by decide +kernel
theorem dR_stepWord_98 : decode prog_14_method_34_code 98 = .ok (.iconst 0, 1) := by decide +kernel
theorem dR_stepWord_99 : decode prog_14_method_34_code 99 = .ok (.invokestatic 205, 3) := by decide +kernel
theorem dR_stepWord_102 : decode prog_14_method_34_code 102 = .ok (.invokevirtual 209, 3) := by decide +kernel
theorem dR_stepWord_105 : decode prog_14_method_34_code 105 = .ok (.ifCond .eq 5, 3) := by decide +kernel
theorem dR_stepWord_108 : decode prog_14_method_34_code 108 = .ok (.iconst 4, 1) := by decide +kernel
theorem dR_stepWord_109 : decode prog_14_method_34_code 109 = .ok (.ireturn, 1) := by decide +kernel
theorem dR_stepWord_110 : decode prog_14_method_34_code 110 = .ok (.aload_n 0, 1) := by decide +kernel
theorem dR_stepWord_111 : decode prog_14_method_34_code 111 = .ok (.bipush 115, 2) := by decide +kernel
theorem dR_stepWord_113 : decode prog_14_method_34_code 113 = .ok (.bipush 117, 2) := by decide +kernel
theorem dR_stepWord_115 : decode prog_14_method_34_code 115 = .ok (.bipush 109, 2) := by decide +kernel
theorem dR_stepWord_117 : decode prog_14_method_34_code 117 = .ok (.iconst 0, 1) := by decide +kernel
theorem dR_stepWord_118 : decode prog_14_method_34_code 118 = .ok (.iconst 0, 1) := by decide +kernel
theorem dR_stepWord_119 : decode prog_14_method_34_code 119 = .ok (.iconst 0, 1) := by decide +kernel
theorem dR_stepWord_120 : decode prog_14_method_34_code 120 = .ok (.invokestatic 205, 3) := by decide +kernel
theorem dR_stepWord_123 : decode prog_14_method_34_code 123 = .ok (.invokevirtual 209, 3) := by decide +kernel
theorem dR_stepWord_126 : decode prog_14_method_34_code 126 = .ok (.ifCond .eq 5, 3) := by decide +kernel
theorem dR_stepWord_129 : decode prog_14_method_34_code 129 = .ok (.iconst 5, 1) := by decide +kernel
theorem dR_stepWord_130 : decode prog_14_method_34_code 130 = .ok (.ireturn, 1) := by decide +kernel
theorem dR_stepWord_131 : decode prog_14_method_34_code 131 = .ok (.aload_n 0, 1) := by decide +kernel
theorem dR_stepWord_132 : decode prog_14_method_34_code 132 = .ok (.bipush 119, 2) := by decide +kernel
theorem dR_stepWord_134 : decode prog_14_method_34_code 134 = .ok (.bipush 104, 2) := by decide +kernel
theorem dR_stepWord_136 : decode prog_14_method_34_code 136 = .ok (.bipush 101, 2) := by decide +kernel
theorem dR_stepWord_138 : decode prog_14_method_34_code 138 = .ok (.bipush 110, 2) := by decide +kernel
theorem dR_stepWord_140 : decode prog_14_method_34_code 140 = .ok (.iconst 0, 1) := by decide +kernel
theorem dR_stepWord_141 : decode prog_14_method_34_code 141 = .ok (.iconst 0, 1) := by decide +kernel
theorem dR_stepWord_142 : decode prog_14_method_34_code 142 = .ok (.invokestatic 205, 3) := by decide +kernel
theorem dR_stepWord_145 : decode prog_14_method_34_code 145 = .ok (.invokevirtual 209, 3) := by decide +kernel
theorem dR_stepWord_148 : decode prog_14_method_34_code 148 = .ok (.ifCond .eq 6, 3) := by decide +kernel
theorem dR_stepWord_151 : decode prog_14_method_34_code 151 = .ok (.bipush 6, 2) := by decide +kernel
theorem dR_stepWord_153 : decode prog_14_method_34_code 153 = .ok (.ireturn, 1) := by decide +kernel
theorem dR_stepWord_154 : decode prog_14_method_34_code 154 = .ok (.aload_n 0, 1) := by decide +kernel
theorem dR_stepWord_155 : decode prog_14_method_34_code 155 = .ok (.bipush 108, 2) := by decide +kernel
theorem dR_stepWord_157 : decode prog_14_method_34_code 157 = .ok (.bipush 111, 2) := by decide +kernel
theorem dR_stepWord_159 : decode prog_14_method_34_code 159 = .ok (.bipush 111, 2) := by decide +kernel
theorem dR_stepWord_161 : decode prog_14_method_34_code 161 = .ok (.bipush 112, 2) := by decide +kernel
theorem dR_stepWord_163 : decode prog_14_method_34_code 163 = .ok (.iconst 0, 1) := by decide +kernel
theorem dR_stepWord_164 : decode prog_14_method_34_code 164 = .ok (.iconst 0, 1) := by decide +kernel
theorem dR_stepWord_165 : decode prog_14_method_34_code 165 = .ok (.invokestatic 205, 3) := by decide +kernel
theorem dR_stepWord_168 : decode prog_14_method_34_code 168 = .ok (.invokevirtual 209, 3) := by decide +kernel
theorem dR_stepWord_171 : decode prog_14_method_34_code 171 = .ok (.ifCond .eq 6, 3) := by decide +kernel
theorem dR_stepWord_174 : decode prog_14_method_34_code 174 = .ok (.bipush 7, 2) := by decide +kernel
theorem dR_stepWord_176 : decode prog_14_method_34_code 176 = .ok (.ireturn, 1) := by decide +kernel
theorem dR_stepWord_177 : decode prog_14_method_34_code 177 = .ok (.aload_n 0, 1) := by decide +kernel
theorem dR_stepWord_178 : decode prog_14_method_34_code 178 = .ok (.bipush 115, 2) := by decide +kernel
theorem dR_stepWord_180 : decode prog_14_method_34_code 180 = .ok (.bipush 116, 2) := by decide +kernel
theorem dR_stepWord_182 : decode prog_14_method_34_code 182 = .ok (.bipush 111, 2) := by decide +kernel
theorem dR_stepWord_184 : decode prog_14_method_34_code 184 = .ok (.bipush 112, 2) := by decide +kernel
theorem dR_stepWord_186 : decode prog_14_method_34_code 186 = .ok (.iconst 0, 1) := by decide +kernel
theorem dR_stepWord_187 : decode prog_14_method_34_code 187 = .ok (.iconst 0, 1) := by decide +kernel
theorem dR_stepWord_188 : decode prog_14_method_34_code 188 = .ok (.invokestatic 205, 3) := by decide +kernel
theorem dR_stepWord_191 : decode prog_14_method_34_code 191 = .ok (.invokevirtual 209, 3) := by decide +kernel
theorem dR_stepWord_194 : decode prog_14_method_34_code 194 = .ok (.ifCond .eq 8, 3) := by decide +kernel
theorem dR_stepWord_197 : decode prog_14_method_34_code 197 = .ok (.bipush 8, 2) := by decide +kernel
theorem dR_stepWord_199 : decode prog_14_method_34_code 199 = .ok (.goto 4, 3) := by decide +kernel
theorem dR_stepWord_202 : decode prog_14_method_34_code 202 = .ok (.iconst (-1), 1) := by decide +kernel
theorem dR_stepWord_203 : decode prog_14_method_34_code 203 = .ok (.ireturn, 1) := by decide +kernel
theorem t_R_stepWord {d : Nat} {σ : SG} {Q : Int → SG → Prop} (h : Tri d M_R_spelled [vI 115, vI 119, vI 97, vI 112, vI 0, vI 0] σ (fun r1 σ1 => Tri d M_R_isWord [vA 161, vJ r1] σ1 (fun r2 σ2 => (r2 = 0 → Tri d M_R_spelled [vI 115, vI 99, vI 97, vI 108, vI 101, vI 0] σ2 (fun r4 σ4 => Tri d M_R_isWord [vA 161, vJ r4] σ4 (fun r5 σ5 => (r5 = 0 → Tri d M_R_spelled [vI 97, vI 100, vI 100, vI 0, vI 0, vI 0] σ5 (fun r7 σ7 => Tri d M_R_isWord [vA 161, vJ r7] σ7 (fun r8 σ8 => (r8 = 0 → Tri d M_R_spelled [vI 107, vI 101, vI 101, vI 112, vI 0, vI 0] σ8 (fun r10 σ10 => Tri d M_R_isWord [vA 161, vJ r10] σ10 (fun r11 σ11 => (r11 = 0 → Tri d M_R_spelled [vI 116, vI 97, vI 107, vI 101, vI 0, vI 0] σ11 (fun r13 σ13 => Tri d M_R_isWord [vA 161, vJ r13] σ13 (fun r14 σ14 => (r14 = 0 → Tri d M_R_spelled [vI 115, vI 117, vI 109, vI 0, vI 0, vI 0] σ14 (fun r16 σ16 => Tri d M_R_isWord [vA 161, vJ r16] σ16 (fun r17 σ17 => (r17 = 0 → Tri d M_R_spelled [vI 119, vI 104, vI 101, vI 110, vI 0, vI 0] σ17 (fun r19 σ19 => Tri d M_R_isWord [vA 161, vJ r19] σ19 (fun r20 σ20 => (r20 = 0 → Tri d M_R_spelled [vI 108, vI 111, vI 111, vI 112, vI 0, vI 0] σ20 (fun r22 σ22 => Tri d M_R_isWord [vA 161, vJ r22] σ22 (fun r23 σ23 => (r23 = 0 → Tri d M_R_spelled [vI 115, vI 116, vI 111, vI 112, vI 0, vI 0] σ23 (fun r25 σ25 => Tri d M_R_isWord [vA 161, vJ r25] σ25 (fun r26 σ26 => (r26 = 0 → Q (-1) σ26) ∧ (r26 ≠ 0 → Q 8 σ26)))) ∧ (r23 ≠ 0 → Q 7 σ23)))) ∧ (r20 ≠ 0 → Q 6 σ20)))) ∧ (r17 ≠ 0 → Q 5 σ17)))) ∧ (r14 ≠ 0 → Q 4 σ14)))) ∧ (r11 ≠ 0 → Q 3 σ11)))) ∧ (r8 ≠ 0 → Q 2 σ8)))) ∧ (r5 ≠ 0 → Q 1 σ5)))) ∧ (r2 ≠ 0 → Q 0 σ2)))) : Tri (d + 1) M_R_stepWord [vA 161] σ Q :=
  Tri_intro rfl (Nat.le_of_ble_eq_true rfl) (ls := [vA 161]) rfl (fun hok => L_aload_n dR_stepWord_0 rfl (L_bipush dR_stepWord_1 bp_115 in_115 (L_bipush dR_stepWord_3 bp_119 in_119 (L_bipush dR_stepWord_5 bp_97 in_97 (L_bipush dR_stepWord_7 bp_112 in_112 (L_iconst dR_stepWord_9 in_0 (L_iconst dR_stepWord_10 in_0 (L_callSJ rfl cs_R_spelled (As := [vI 115, vI 119, vI 97, vI 112, vI 0, vI 0]) rfl (tk8 20 rfl rfl) rfl (Nat.le_of_ble_eq_true rfl) dR_stepWord_11 (Tri.mono (h) (fun r1 σ1 q1 => L_callVI rfl cv_R_isWord (As := [vJ r1]) rfl (tk8 23 rfl rfl) rfl (Nat.le_of_ble_eq_true rfl) dR_stepWord_14 ⟨ob_161, Tri.mono q1 (fun r2 σ2 q2 => L_if_eq dR_stepWord_17 (by decide) ⟨fun c3 => L_aload_n dR_stepWord_22 rfl (L_bipush dR_stepWord_23 bp_115 in_115 (L_bipush dR_stepWord_25 bp_99 in_99 (L_bipush dR_stepWord_27 bp_97 in_97 (L_bipush dR_stepWord_29 bp_108 in_108 (L_bipush dR_stepWord_31 bp_101 in_101 (L_iconst dR_stepWord_33 in_0 (L_callSJ rfl cs_R_spelled (As := [vI 115, vI 99, vI 97, vI 108, vI 101, vI 0]) rfl (tk8 20 rfl rfl) rfl (Nat.le_of_ble_eq_true rfl) dR_stepWord_34 (Tri.mono (q2.1 c3) (fun r4 σ4 q4 => L_callVI rfl cv_R_isWord (As := [vJ r4]) rfl (tk8 23 rfl rfl) rfl (Nat.le_of_ble_eq_true rfl) dR_stepWord_37 ⟨ob_161, Tri.mono q4 (fun r5 σ5 q5 => L_if_eq dR_stepWord_40 (by decide) ⟨fun c6 => L_aload_n dR_stepWord_45 rfl (L_bipush dR_stepWord_46 bp_97 in_97 (L_bipush dR_stepWord_48 bp_100 in_100 (L_bipush dR_stepWord_50 bp_100 in_100 (L_iconst dR_stepWord_52 in_0 (L_iconst dR_stepWord_53 in_0 (L_iconst dR_stepWord_54 in_0 (L_callSJ rfl cs_R_spelled (As := [vI 97, vI 100, vI 100, vI 0, vI 0, vI 0]) rfl (tk8 20 rfl rfl) rfl (Nat.le_of_ble_eq_true rfl) dR_stepWord_55 (Tri.mono (q5.1 c6) (fun r7 σ7 q7 => L_callVI rfl cv_R_isWord (As := [vJ r7]) rfl (tk8 23 rfl rfl) rfl (Nat.le_of_ble_eq_true rfl) dR_stepWord_58 ⟨ob_161, Tri.mono q7 (fun r8 σ8 q8 => L_if_eq dR_stepWord_61 (by decide) ⟨fun c9 => L_aload_n dR_stepWord_66 rfl (L_bipush dR_stepWord_67 bp_107 in_107 (L_bipush dR_stepWord_69 bp_101 in_101 (L_bipush dR_stepWord_71 bp_101 in_101 (L_bipush dR_stepWord_73 bp_112 in_112 (L_iconst dR_stepWord_75 in_0 (L_iconst dR_stepWord_76 in_0 (L_callSJ rfl cs_R_spelled (As := [vI 107, vI 101, vI 101, vI 112, vI 0, vI 0]) rfl (tk8 20 rfl rfl) rfl (Nat.le_of_ble_eq_true rfl) dR_stepWord_77 (Tri.mono (q8.1 c9) (fun r10 σ10 q10 => L_callVI rfl cv_R_isWord (As := [vJ r10]) rfl (tk8 23 rfl rfl) rfl (Nat.le_of_ble_eq_true rfl) dR_stepWord_80 ⟨ob_161, Tri.mono q10 (fun r11 σ11 q11 => L_if_eq dR_stepWord_83 (by decide) ⟨fun c12 => L_aload_n dR_stepWord_88 rfl (L_bipush dR_stepWord_89 bp_116 in_116 (L_bipush dR_stepWord_91 bp_97 in_97 (L_bipush dR_stepWord_93 bp_107 in_107 (L_bipush dR_stepWord_95 bp_101 in_101 (L_iconst dR_stepWord_97 in_0 (L_iconst dR_stepWord_98 in_0 (L_callSJ rfl cs_R_spelled (As := [vI 116, vI 97, vI 107, vI 101, vI 0, vI 0]) rfl (tk8 20 rfl rfl) rfl (Nat.le_of_ble_eq_true rfl) dR_stepWord_99 (Tri.mono (q11.1 c12) (fun r13 σ13 q13 => L_callVI rfl cv_R_isWord (As := [vJ r13]) rfl (tk8 23 rfl rfl) rfl (Nat.le_of_ble_eq_true rfl) dR_stepWord_102 ⟨ob_161, Tri.mono q13 (fun r14 σ14 q14 => L_if_eq dR_stepWord_105 (by decide) ⟨fun c15 => L_aload_n dR_stepWord_110 rfl (L_bipush dR_stepWord_111 bp_115 in_115 (L_bipush dR_stepWord_113 bp_117 in_117 (L_bipush dR_stepWord_115 bp_109 in_109 (L_iconst dR_stepWord_117 in_0 (L_iconst dR_stepWord_118 in_0 (L_iconst dR_stepWord_119 in_0 (L_callSJ rfl cs_R_spelled (As := [vI 115, vI 117, vI 109, vI 0, vI 0, vI 0]) rfl (tk8 20 rfl rfl) rfl (Nat.le_of_ble_eq_true rfl) dR_stepWord_120 (Tri.mono (q14.1 c15) (fun r16 σ16 q16 => L_callVI rfl cv_R_isWord (As := [vJ r16]) rfl (tk8 23 rfl rfl) rfl (Nat.le_of_ble_eq_true rfl) dR_stepWord_123 ⟨ob_161, Tri.mono q16 (fun r17 σ17 q17 => L_if_eq dR_stepWord_126 (by decide) ⟨fun c18 => L_aload_n dR_stepWord_131 rfl (L_bipush dR_stepWord_132 bp_119 in_119 (L_bipush dR_stepWord_134 bp_104 in_104 (L_bipush dR_stepWord_136 bp_101 in_101 (L_bipush dR_stepWord_138 bp_110 in_110 (L_iconst dR_stepWord_140 in_0 (L_iconst dR_stepWord_141 in_0 (L_callSJ rfl cs_R_spelled (As := [vI 119, vI 104, vI 101, vI 110, vI 0, vI 0]) rfl (tk8 20 rfl rfl) rfl (Nat.le_of_ble_eq_true rfl) dR_stepWord_142 (Tri.mono (q17.1 c18) (fun r19 σ19 q19 => L_callVI rfl cv_R_isWord (As := [vJ r19]) rfl (tk8 23 rfl rfl) rfl (Nat.le_of_ble_eq_true rfl) dR_stepWord_145 ⟨ob_161, Tri.mono q19 (fun r20 σ20 q20 => L_if_eq dR_stepWord_148 (by decide) ⟨fun c21 => L_aload_n dR_stepWord_154 rfl (L_bipush dR_stepWord_155 bp_108 in_108 (L_bipush dR_stepWord_157 bp_111 in_111 (L_bipush dR_stepWord_159 bp_111 in_111 (L_bipush dR_stepWord_161 bp_112 in_112 (L_iconst dR_stepWord_163 in_0 (L_iconst dR_stepWord_164 in_0 (L_callSJ rfl cs_R_spelled (As := [vI 108, vI 111, vI 111, vI 112, vI 0, vI 0]) rfl (tk8 20 rfl rfl) rfl (Nat.le_of_ble_eq_true rfl) dR_stepWord_165 (Tri.mono (q20.1 c21) (fun r22 σ22 q22 => L_callVI rfl cv_R_isWord (As := [vJ r22]) rfl (tk8 23 rfl rfl) rfl (Nat.le_of_ble_eq_true rfl) dR_stepWord_168 ⟨ob_161, Tri.mono q22 (fun r23 σ23 q23 => L_if_eq dR_stepWord_171 (by decide) ⟨fun c24 => L_aload_n dR_stepWord_177 rfl (L_bipush dR_stepWord_178 bp_115 in_115 (L_bipush dR_stepWord_180 bp_116 in_116 (L_bipush dR_stepWord_182 bp_111 in_111 (L_bipush dR_stepWord_184 bp_112 in_112 (L_iconst dR_stepWord_186 in_0 (L_iconst dR_stepWord_187 in_0 (L_callSJ rfl cs_R_spelled (As := [vI 115, vI 116, vI 111, vI 112, vI 0, vI 0]) rfl (tk8 20 rfl rfl) rfl (Nat.le_of_ble_eq_true rfl) dR_stepWord_188 (Tri.mono (q23.1 c24) (fun r25 σ25 q25 => L_callVI rfl cv_R_isWord (As := [vJ r25]) rfl (tk8 23 rfl rfl) rfl (Nat.le_of_ble_eq_true rfl) dR_stepWord_191 ⟨ob_161, Tri.mono q25 (fun r26 σ26 q26 => L_if_eq dR_stepWord_194 (by decide) ⟨fun c27 => L_iconst dR_stepWord_202 in_m1 (L_ireturn rfl dR_stepWord_203 (q26.1 c27)), fun c27 => L_bipush dR_stepWord_197 bp_8 in_8 (L_goto dR_stepWord_199 (by decide) (L_ireturn rfl dR_stepWord_203 (q26.2 c27)))⟩)⟩))))))))), fun c24 => L_bipush dR_stepWord_174 bp_7 in_7 (L_ireturn rfl dR_stepWord_176 (q23.2 c24))⟩)⟩))))))))), fun c21 => L_bipush dR_stepWord_151 bp_6 in_6 (L_ireturn rfl dR_stepWord_153 (q20.2 c21))⟩)⟩))))))))), fun c18 => L_iconst dR_stepWord_129 in_5 (L_ireturn rfl dR_stepWord_130 (q17.2 c18))⟩)⟩))))))))), fun c15 => L_iconst dR_stepWord_108 in_4 (L_ireturn rfl dR_stepWord_109 (q14.2 c15))⟩)⟩))))))))), fun c12 => L_iconst dR_stepWord_86 in_3 (L_ireturn rfl dR_stepWord_87 (q11.2 c12))⟩)⟩))))))))), fun c9 => L_iconst dR_stepWord_64 in_2 (L_ireturn rfl dR_stepWord_65 (q8.2 c9))⟩)⟩))))))))), fun c6 => L_iconst dR_stepWord_43 in_1 (L_ireturn rfl dR_stepWord_44 (q5.2 c6))⟩)⟩))))))))), fun c3 => L_iconst dR_stepWord_20 in_0 (L_ireturn rfl dR_stepWord_21 (q2.2 c3))⟩)⟩))))))))))
theorem dR_testWord_0 : decode prog_14_method_35_code 0 = .ok (.aload_n 0, 1) := by decide +kernel
theorem dR_testWord_1 : decode prog_14_method_35_code 1 = .ok (.bipush 108, 2) := by decide +kernel
theorem dR_testWord_3 : decode prog_14_method_35_code 3 = .ok (.bipush 97, 2) := by decide +kernel
theorem dR_testWord_5 : decode prog_14_method_35_code 5 = .ok (.bipush 119, 2) := by decide +kernel
theorem dR_testWord_7 : decode prog_14_method_35_code 7 = .ok (.bipush 102, 2) := by decide +kernel
theorem dR_testWord_9 : decode prog_14_method_35_code 9 = .ok (.bipush 117, 2) := by decide +kernel
theorem dR_testWord_11 : decode prog_14_method_35_code 11 = .ok (.bipush 108, 2) := by decide +kernel
theorem dR_testWord_13 : decode prog_14_method_35_code 13 = .ok (.invokestatic 205, 3) := by decide +kernel
theorem dR_testWord_16 : decode prog_14_method_35_code 16 = .ok (.invokevirtual 209, 3) := by decide +kernel
theorem dR_testWord_19 : decode prog_14_method_35_code 19 = .ok (.ifCond .eq 5, 3) := by decide +kernel
theorem dR_testWord_22 : decode prog_14_method_35_code 22 = .ok (.iconst 0, 1) := by decide +kernel
theorem dR_testWord_23 : decode prog_14_method_35_code 23 = .ok (.ireturn, 1) := by decide +kernel
theorem dR_testWord_24 : decode prog_14_method_35_code 24 = .ok (.aload_n 0, 1) := by decide +kernel
theorem dR_testWord_25 : decode prog_14_method_35_code 25 = .ok (.bipush 97, 2) := by decide +kernel
theorem dR_testWord_27 : decode prog_14_method_35_code 27 = .ok (.bipush 98, 2) := by decide +kernel
theorem dR_testWord_29 : decode prog_14_method_35_code 29 = .ok (.bipush 101, 2) := by decide +kernel
theorem dR_testWord_31 : decode prog_14_method_35_code 31 = .ok (.bipush 108, 2) := by decide +kernel
theorem dR_testWord_33 : decode prog_14_method_35_code 33 = .ok (.bipush 105, 2) := by decide +kernel
theorem dR_testWord_35 : decode prog_14_method_35_code 35 = .ok (.bipush 97, 2) := by decide +kernel
theorem dR_testWord_37 : decode prog_14_method_35_code 37 = .ok (.invokestatic 205, 3) := by decide +kernel
theorem dR_testWord_40 : decode prog_14_method_35_code 40 = .ok (.bipush 110, 2) := by decide +kernel
theorem dR_testWord_42 : decode prog_14_method_35_code 42 = .ok (.iconst 0, 1) := by decide +kernel
theorem dR_testWord_43 : decode prog_14_method_35_code 43 = .ok (.iconst 0, 1) := by decide +kernel
theorem dR_testWord_44 : decode prog_14_method_35_code 44 = .ok (.invokestatic 213, 3) := by decide +kernel
theorem dR_testWord_47 : decode prog_14_method_35_code 47 = .ok (.invokevirtual 209, 3) := by decide +kernel
theorem dR_testWord_50 : decode prog_14_method_35_code 50 = .ok (.ifCond .eq 5, 3) := by decide +kernel
theorem dR_testWord_53 : decode prog_14_method_35_code 53 = .ok (.iconst 1, 1) := by decide +kernel
theorem dR_testWord_54 : decode prog_14_method_35_code 54 = .ok (.ireturn, 1) := by decide +kernel
theorem dR_testWord_55 : decode prog_14_method_35_code 55 = .ok (.aload_n 0, 1) := by decide +kernel
theorem dR_testWord_56 : decode prog_14_method_35_code 56 = .ok (.bipush 110, 2) := by decide +kernel
theorem dR_testWord_58 : decode prog_14_method_35_code 58 = .ok (.bipush 105, 2) := by decide +kernel
theorem dR_testWord_60 : decode prog_14_method_35_code 60 = .ok (.bipush 108, 2) := by decide +kernel
theorem dR_testWord_62 : decode prog_14_method_35_code 62 = .ok (.bipush 112, 2) := by decide +kernel
theorem dR_testWord_64 : decode prog_14_method_35_code 64 = .ok (.bipush 111, 2) := by decide +kernel
theorem dR_testWord_66 : decode prog_14_method_35_code 66 = .ok (.bipush 116, 2) := by decide +kernel
theorem dR_testWord_68 : decode prog_14_method_35_code 68 = .ok (.invokestatic 205, 3) := by decide +kernel
theorem dR_testWord_71 : decode prog_14_method_35_code 71 = .ok (.bipush 101, 2) := by decide +kernel
theorem dR_testWord_73 : decode prog_14_method_35_code 73 = .ok (.bipush 110, 2) := by decide +kernel
theorem dR_testWord_75 : decode prog_14_method_35_code 75 = .ok (.bipush 116, 2) := by decide +kernel
theorem dR_testWord_77 : decode prog_14_method_35_code 77 = .ok (.invokestatic 213, 3) := by decide +kernel
theorem dR_testWord_80 : decode prog_14_method_35_code 80 = .ok (.invokevirtual 209, 3) := by decide +kernel
theorem dR_testWord_83 : decode prog_14_method_35_code 83 = .ok (.ifCond .eq 5, 3) := by decide +kernel
theorem dR_testWord_86 : decode prog_14_method_35_code 86 = .ok (.iconst 2, 1) := by decide +kernel
theorem dR_testWord_87 : decode prog_14_method_35_code 87 = .ok (.ireturn, 1) := by decide +kernel
theorem dR_testWord_88 : decode prog_14_method_35_code 88 = .ok (.aload_n 0, 1) := by decide +kernel
theorem dR_testWord_89 : decode prog_14_method_35_code 89 = .ok (.bipush 115, 2) := by decide +kernel
theorem dR_testWord_91 : decode prog_14_method_35_code 91 = .ok (.bipush 111, 2) := by decide +kernel
theorem dR_testWord_93 : decode prog_14_method_35_code 93 = .ok (.bipush 108, 2) := by decide +kernel
theorem dR_testWord_95 : decode prog_14_method_35_code 95 = .ok (.bipush 118, 2) := by decide +kernel
theorem dR_testWord_97 : decode prog_14_method_35_code 97 = .ok (.bipush 97, 2) := by decide +kernel
theorem dR_testWord_99 : decode prog_14_method_35_code 99 = .ok (.bipush 98, 2) := by decide +kernel
theorem dR_testWord_101 : decode prog_14_method_35_code 101 = .ok (.invokestatic 205, 3) := by decide +kernel
theorem dR_testWord_104 : decode prog_14_method_35_code 104 = .ok (.bipush 108, 2) := by decide +kernel
theorem dR_testWord_106 : decode prog_14_method_35_code 106 = .ok (.bipush 101, 2) := by decide +kernel
theorem dR_testWord_108 : decode prog_14_method_35_code 108 = .ok (.iconst 0, 1) := by decide +kernel
theorem dR_testWord_109 : decode prog_14_method_35_code 109 = .ok (.invokestatic 213, 3) := by decide +kernel
theorem dR_testWord_112 : decode prog_14_method_35_code 112 = .ok (.invokevirtual 209, 3) := by decide +kernel
theorem dR_testWord_115 : decode prog_14_method_35_code 115 = .ok (.ifCond .eq 5, 3) := by decide +kernel
theorem dR_testWord_118 : decode prog_14_method_35_code 118 = .ok (.iconst 3, 1) := by decide +kernel
theorem dR_testWord_119 : decode prog_14_method_35_code 119 = .ok (.ireturn, 1) := by decide +kernel
theorem dR_testWord_120 : decode prog_14_method_35_code 120 = .ok (.aload_n 0, 1) := by decide +kernel
theorem dR_testWord_121 : decode prog_14_method_35_code 121 = .ok (.bipush 100, 2) := by decide +kernel
theorem dR_testWord_123 : decode prog_14_method_35_code 123 = .ok (.bipush 101, 2) := by decide +kernel
theorem dR_testWord_125 : decode prog_14_method_35_code 125 = .ok (.bipush 114, 2) := by decide +kernel
theorem dR_testWord_127 : decode prog_14_method_35_code 127 = .ok (.bipush 105, 2) := by decide +kernel
theorem dR_testWord_129 : decode prog_14_method_35_code 129 = .ok (.bipush 118, 2) := by decide +kernel
theorem dR_testWord_131 : decode prog_14_method_35_code 131 = .ok (.bipush 101, 2) := by decide +kernel
theorem dR_testWord_133 : decode prog_14_method_35_code 133 = .ok (.invokestatic 205, 3) := by decide +kernel
theorem dR_testWord_136 : decode prog_14_method_35_code 136 = .ok (.bipush 100, 2) := by decide +kernel
theorem dR_testWord_138 : decode prog_14_method_35_code 138 = .ok (.iconst 0, 1) := by decide +kernel
theorem dR_testWord_139 : decode prog_14_method_35_code 139 = .ok (.iconst 0, 1) := by decide +kernel
theorem dR_testWord_140 : decode prog_14_method_35_code 140 = .ok (.invokestatic 213, 3) := by decide +kernel
theorem dR_testWord_143 : decode prog_14_method_35_code 143 = .ok (.invokevirtual 209, 3) := by decide +kernel
theorem dR_testWord_146 : decode prog_14_method_35_code 146 = .ok (.ifCond .eq 5, 3) := by decide +kernel
theorem dR_testWord_149 : decode prog_14_method_35_code 149 = .ok (.iconst 4, 1) := by decide +kernel
theorem dR_testWord_150 : decode prog_14_method_35_code 150 = .ok (.ireturn, 1) := by decide +kernel
theorem dR_testWord_151 : decode prog_14_method_35_code 151 = .ok (.aload_n 0, 1) := by decide +kernel
theorem dR_testWord_152 : decode prog_14_method_35_code 152 = .ok (.invokevirtual 217, 3) := by decide +kernel
theorem dR_testWord_155 : decode prog_14_method_35_code 155 = .ok (.ifCond .eq 5, 3) := by decide +kernel
theorem dR_testWord_158 : decode prog_14_method_35_code 158 = .ok (.iconst 5, 1) := by decide +kernel
theorem dR_testWord_159 : decode prog_14_method_35_code 159 = .ok (.ireturn, 1) := by decide +kernel
theorem dR_testWord_160 : decode prog_14_method_35_code 160 = .ok (.aload_n 0, 1) := by decide +kernel
theorem dR_testWord_161 : decode prog_14_method_35_code 161 = .ok (.bipush 115, 2) := by decide +kernel
theorem dR_testWord_163 : decode prog_14_method_35_code 163 = .ok (.bipush 97, 2) := by decide +kernel
theorem dR_testWord_165 : decode prog_14_method_35_code 165 = .ok (.bipush 109, 2) := by decide +kernel
theorem dR_testWord_167 : decode prog_14_method_35_code 167 = .ok (.bipush 101, 2) := by decide +kernel
theorem dR_testWord_169 : decode prog_14_method_35_code 169 = .ok (.iconst 0, 1) := by decide +kernel
theorem dR_testWord_170 : decode prog_14_method_35_code 170 = .ok (.iconst 0, 1) := by decide +kernel
theorem dR_testWord_171 : decode prog_14_method_35_code 171 = .ok (.invokestatic 205, 3) := by decide +kernel
theorem dR_testWord_174 : decode prog_14_method_35_code 174 = .ok (.invokevirtual 209, 3) := by decide +kernel
theorem dR_testWord_177 : decode prog_14_method_35_code 177 = .ok (.ifCond .eq 8, 3) := by decide +kernel
theorem dR_testWord_180 : decode prog_14_method_35_code 180 = .ok (.bipush 6, 2) := by decide +kernel
theorem dR_testWord_182 : decode prog_14_method_35_code 182 = .ok (.goto 4, 3) := by decide +kernel
theorem dR_testWord_185 : decode prog_14_method_35_code 185 = .ok (.iconst (-1), 1) := by decide +kernel
theorem dR_testWord_186 : decode prog_14_method_35_code 186 = .ok (.ireturn, 1) := by decide +kernel
theorem t_R_testWord {d : Nat} {σ : SG} {Q : Int → SG → Prop} (h : Tri d M_R_spelled [vI 108, vI 97, vI 119, vI 102, vI 117, vI 108] σ (fun r1 σ1 => Tri d M_R_isWord [vA 161, vJ r1] σ1 (fun r2 σ2 => (r2 = 0 → Tri d M_R_spelled [vI 97, vI 98, vI 101, vI 108, vI 105, vI 97] σ2 (fun r4 σ4 => Tri d M_R_longer [vJ r4, vI 110, vI 0, vI 0] σ4 (fun r5 σ5 => Tri d M_R_isWord [vA 161, vJ r5] σ5 (fun r6 σ6 => (r6 = 0 → Tri d M_R_spelled [vI 110, vI 105, vI 108, vI 112, vI 111, vI 116] σ6 (fun r8 σ8 => Tri d M_R_longer [vJ r8, vI 101, vI 110, vI 116] σ8 (fun r9 σ9 => Tri d M_R_isWord [vA 161, vJ r9] σ9 (fun r10 σ10 => (r10 = 0 → Tri d M_R_spelled [vI 115, vI 111, vI 108, vI 118, vI 97, vI 98] σ10 (fun r12 σ12 => Tri d M_R_longer [vJ r12, vI 108, vI 101, vI 0] σ12 (fun r13 σ13 => Tri d M_R_isWord [vA 161, vJ r13] σ13 (fun r14 σ14 => (r14 = 0 → Tri d M_R_spelled [vI 100, vI 101, vI 114, vI 105, vI 118, vI 101] σ14 (fun r16 σ16 => Tri d M_R_longer [vJ r16, vI 100, vI 0, vI 0] σ16 (fun r17 σ17 => Tri d M_R_isWord [vA 161, vJ r17] σ17 (fun r18 σ18 => (r18 = 0 → Tri d M_R_isSizeWord [vA 161] σ18 (fun r20 σ20 => (r20 = 0 → Tri d M_R_spelled [vI 115, vI 97, vI 109, vI 101, vI 0, vI 0] σ20 (fun r22 σ22 => Tri d M_R_isWord [vA 161, vJ r22] σ22 (fun r23 σ23 => (r23 = 0 → Q (-1) σ23) ∧ (r23 ≠ 0 → Q 6 σ23)))) ∧ (r20 ≠ 0 → Q 5 σ20))) ∧ (r18 ≠ 0 → Q 4 σ18))))) ∧ (r14 ≠ 0 → Q 3 σ14))))) ∧ (r10 ≠ 0 → Q 2 σ10))))) ∧ (r6 ≠ 0 → Q 1 σ6))))) ∧ (r2 ≠ 0 → Q 0 σ2)))) : Tri (d + 1) M_R_testWord [vA 161] σ Q :=
  Tri_intro rfl (Nat.le_of_ble_eq_true rfl) (ls := [vA 161]) rfl (fun hok => L_aload_n dR_testWord_0 rfl (L_bipush dR_testWord_1 bp_108 in_108 (L_bipush dR_testWord_3 bp_97 in_97 (L_bipush dR_testWord_5 bp_119 in_119 (L_bipush dR_testWord_7 bp_102 in_102 (L_bipush dR_testWord_9 bp_117 in_117 (L_bipush dR_testWord_11 bp_108 in_108 (L_callSJ rfl cs_R_spelled (As := [vI 108, vI 97, vI 119, vI 102, vI 117, vI 108]) rfl (tk8 20 rfl rfl) rfl (Nat.le_of_ble_eq_true rfl) dR_testWord_13 (Tri.mono (h) (fun r1 σ1 q1 => L_callVI rfl cv_R_isWord (As := [vJ r1]) rfl (tk8 23 rfl rfl) rfl (Nat.le_of_ble_eq_true rfl) dR_testWord_16 ⟨ob_161, Tri.mono q1 (fun r2 σ2 q2 => L_if_eq dR_testWord_19 (by decide) ⟨fun c3 => L_aload_n dR_testWord_24 rfl (L_bipush dR_testWord_25 bp_97 in_97 (L_bipush dR_testWord_27 bp_98 in_98 (L_bipush dR_testWord_29 bp_101 in_101 (L_bipush dR_testWord_31 bp_108 in_108 (L_bipush dR_testWord_33 bp_105 in_105 (L_bipush dR_testWord_35 bp_97 in_97 (L_callSJ rfl cs_R_spelled (As := [vI 97, vI 98, vI 101, vI 108, vI 105, vI 97]) rfl (tk8 20 rfl rfl) rfl (Nat.le_of_ble_eq_true rfl) dR_testWord_37 (Tri.mono (q2.1 c3) (fun r4 σ4 q4 => L_bipush dR_testWord_40 bp_110 in_110 (L_iconst dR_testWord_42 in_0 (L_iconst dR_testWord_43 in_0 (L_callSJ rfl cs_R_longer (As := [vJ r4, vI 110, vI 0, vI 0]) rfl (tk8 68 rfl rfl) rfl (Nat.le_of_ble_eq_true rfl) dR_testWord_44 (Tri.mono q4 (fun r5 σ5 q5 => L_callVI rfl cv_R_isWord (As := [vJ r5]) rfl (tk8 23 rfl rfl) rfl (Nat.le_of_ble_eq_true rfl) dR_testWord_47 ⟨ob_161, Tri.mono q5 (fun r6 σ6 q6 => L_if_eq dR_testWord_50 (by decide) ⟨fun c7 => L_aload_n dR_testWord_55 rfl (L_bipush dR_testWord_56 bp_110 in_110 (L_bipush dR_testWord_58 bp_105 in_105 (L_bipush dR_testWord_60 bp_108 in_108 (L_bipush dR_testWord_62 bp_112 in_112 (L_bipush dR_testWord_64 bp_111 in_111 (L_bipush dR_testWord_66 bp_116 in_116 (L_callSJ rfl cs_R_spelled (As := [vI 110, vI 105, vI 108, vI 112, vI 111, vI 116]) rfl (tk8 20 rfl rfl) rfl (Nat.le_of_ble_eq_true rfl) dR_testWord_68 (Tri.mono (q6.1 c7) (fun r8 σ8 q8 => L_bipush dR_testWord_71 bp_101 in_101 (L_bipush dR_testWord_73 bp_110 in_110 (L_bipush dR_testWord_75 bp_116 in_116 (L_callSJ rfl cs_R_longer (As := [vJ r8, vI 101, vI 110, vI 116]) rfl (tk8 68 rfl rfl) rfl (Nat.le_of_ble_eq_true rfl) dR_testWord_77 (Tri.mono q8 (fun r9 σ9 q9 => L_callVI rfl cv_R_isWord (As := [vJ r9]) rfl (tk8 23 rfl rfl) rfl (Nat.le_of_ble_eq_true rfl) dR_testWord_80 ⟨ob_161, Tri.mono q9 (fun r10 σ10 q10 => L_if_eq dR_testWord_83 (by decide) ⟨fun c11 => L_aload_n dR_testWord_88 rfl (L_bipush dR_testWord_89 bp_115 in_115 (L_bipush dR_testWord_91 bp_111 in_111 (L_bipush dR_testWord_93 bp_108 in_108 (L_bipush dR_testWord_95 bp_118 in_118 (L_bipush dR_testWord_97 bp_97 in_97 (L_bipush dR_testWord_99 bp_98 in_98 (L_callSJ rfl cs_R_spelled (As := [vI 115, vI 111, vI 108, vI 118, vI 97, vI 98]) rfl (tk8 20 rfl rfl) rfl (Nat.le_of_ble_eq_true rfl) dR_testWord_101 (Tri.mono (q10.1 c11) (fun r12 σ12 q12 => L_bipush dR_testWord_104 bp_108 in_108 (L_bipush dR_testWord_106 bp_101 in_101 (L_iconst dR_testWord_108 in_0 (L_callSJ rfl cs_R_longer (As := [vJ r12, vI 108, vI 101, vI 0]) rfl (tk8 68 rfl rfl) rfl (Nat.le_of_ble_eq_true rfl) dR_testWord_109 (Tri.mono q12 (fun r13 σ13 q13 => L_callVI rfl cv_R_isWord (As := [vJ r13]) rfl (tk8 23 rfl rfl) rfl (Nat.le_of_ble_eq_true rfl) dR_testWord_112 ⟨ob_161, Tri.mono q13 (fun r14 σ14 q14 => L_if_eq dR_testWord_115 (by decide) ⟨fun c15 => L_aload_n dR_testWord_120 rfl (L_bipush dR_testWord_121 bp_100 in_100 (L_bipush dR_testWord_123 bp_101 in_101 (L_bipush dR_testWord_125 bp_114 in_114 (L_bipush dR_testWord_127 bp_105 in_105 (L_bipush dR_testWord_129 bp_118 in_118 (L_bipush dR_testWord_131 bp_101 in_101 (L_callSJ rfl cs_R_spelled (As := [vI 100, vI 101, vI 114, vI 105, vI 118, vI 101]) rfl (tk8 20 rfl rfl) rfl (Nat.le_of_ble_eq_true rfl) dR_testWord_133 (Tri.mono (q14.1 c15) (fun r16 σ16 q16 => L_bipush dR_testWord_136 bp_100 in_100 (L_iconst dR_testWord_138 in_0 (L_iconst dR_testWord_139 in_0 (L_callSJ rfl cs_R_longer (As := [vJ r16, vI 100, vI 0, vI 0]) rfl (tk8 68 rfl rfl) rfl (Nat.le_of_ble_eq_true rfl) dR_testWord_140 (Tri.mono q16 (fun r17 σ17 q17 => L_callVI rfl cv_R_isWord (As := [vJ r17]) rfl (tk8 23 rfl rfl) rfl (Nat.le_of_ble_eq_true rfl) dR_testWord_143 ⟨ob_161, Tri.mono q17 (fun r18 σ18 q18 => L_if_eq dR_testWord_146 (by decide) ⟨fun c19 => L_aload_n dR_testWord_151 rfl (L_callVI rfl cv_R_isSizeWord (As := []) rfl (tk8 54 rfl rfl) rfl (Nat.le_of_ble_eq_true rfl) dR_testWord_152 ⟨ob_161, Tri.mono (q18.1 c19) (fun r20 σ20 q20 => L_if_eq dR_testWord_155 (by decide) ⟨fun c21 => L_aload_n dR_testWord_160 rfl (L_bipush dR_testWord_161 bp_115 in_115 (L_bipush dR_testWord_163 bp_97 in_97 (L_bipush dR_testWord_165 bp_109 in_109 (L_bipush dR_testWord_167 bp_101 in_101 (L_iconst dR_testWord_169 in_0 (L_iconst dR_testWord_170 in_0 (L_callSJ rfl cs_R_spelled (As := [vI 115, vI 97, vI 109, vI 101, vI 0, vI 0]) rfl (tk8 20 rfl rfl) rfl (Nat.le_of_ble_eq_true rfl) dR_testWord_171 (Tri.mono (q20.1 c21) (fun r22 σ22 q22 => L_callVI rfl cv_R_isWord (As := [vJ r22]) rfl (tk8 23 rfl rfl) rfl (Nat.le_of_ble_eq_true rfl) dR_testWord_174 ⟨ob_161, Tri.mono q22 (fun r23 σ23 q23 => L_if_eq dR_testWord_177 (by decide) ⟨fun c24 => L_iconst dR_testWord_185 in_m1 (L_ireturn rfl dR_testWord_186 (q23.1 c24)), fun c24 => L_bipush dR_testWord_180 bp_6 in_6 (L_goto dR_testWord_182 (by decide) (L_ireturn rfl dR_testWord_186 (q23.2 c24)))⟩)⟩))))))))), fun c21 => L_iconst dR_testWord_158 in_5 (L_ireturn rfl dR_testWord_159 (q20.2 c21))⟩)⟩), fun c19 => L_iconst dR_testWord_149 in_4 (L_ireturn rfl dR_testWord_150 (q18.2 c19))⟩)⟩)))))))))))))), fun c15 => L_iconst dR_testWord_118 in_3 (L_ireturn rfl dR_testWord_119 (q14.2 c15))⟩)⟩)))))))))))))), fun c11 => L_iconst dR_testWord_86 in_2 (L_ireturn rfl dR_testWord_87 (q10.2 c11))⟩)⟩)))))))))))))), fun c7 => L_iconst dR_testWord_53 in_1 (L_ireturn rfl dR_testWord_54 (q6.2 c7))⟩)⟩)))))))))))))), fun c3 => L_iconst dR_testWord_22 in_0 (L_ireturn rfl dR_testWord_23 (q2.2 c3))⟩)⟩))))))))))
theorem dR_isBy_0 : decode prog_14_method_36_code 0 = .ok (.aload_n 0, 1) := by decide +kernel
theorem dR_isBy_1 : decode prog_14_method_36_code 1 = .ok (.bipush 98, 2) := by decide +kernel
theorem dR_isBy_3 : decode prog_14_method_36_code 3 = .ok (.bipush 121, 2) := by decide +kernel
theorem dR_isBy_5 : decode prog_14_method_36_code 5 = .ok (.iconst 0, 1) := by decide +kernel
theorem dR_isBy_6 : decode prog_14_method_36_code 6 = .ok (.iconst 0, 1) := by decide +kernel
theorem dR_isBy_7 : decode prog_14_method_36_code 7 = .ok (.iconst 0, 1) := by decide +kernel
theorem dR_isBy_8 : decode prog_14_method_36_code 8 = .ok (.iconst 0, 1) := by decide +kernel
theorem dR_isBy_9 : decode prog_14_method_36_code 9 = .ok (.invokestatic 205, 3) := by decide +kernel
theorem dR_isBy_12 : decode prog_14_method_36_code 12 = .ok (.invokevirtual 209, 3) := by decide +kernel
theorem dR_isBy_15 : decode prog_14_method_36_code 15 = .ok (.ireturn, 1) := by decide +kernel
theorem t_R_isBy {d : Nat} {σ : SG} {Q : Int → SG → Prop} (h : Tri d M_R_spelled [vI 98, vI 121, vI 0, vI 0, vI 0, vI 0] σ (fun r1 σ1 => Tri d M_R_isWord [vA 161, vJ r1] σ1 (fun r2 σ2 => (r2 = 0 ∨ r2 = 1) ∧ Q r2 σ2))) : Tri (d + 1) M_R_isBy [vA 161] σ Q :=
  Tri_intro rfl (Nat.le_of_ble_eq_true rfl) (ls := [vA 161]) rfl (fun hok => L_aload_n dR_isBy_0 rfl (L_bipush dR_isBy_1 bp_98 in_98 (L_bipush dR_isBy_3 bp_121 in_121 (L_iconst dR_isBy_5 in_0 (L_iconst dR_isBy_6 in_0 (L_iconst dR_isBy_7 in_0 (L_iconst dR_isBy_8 in_0 (L_callSJ rfl cs_R_spelled (As := [vI 98, vI 121, vI 0, vI 0, vI 0, vI 0]) rfl (tk8 20 rfl rfl) rfl (Nat.le_of_ble_eq_true rfl) dR_isBy_9 (Tri.mono (h) (fun r1 σ1 q1 => L_callVI rfl cv_R_isWord (As := [vJ r1]) rfl (tk8 23 rfl rfl) rfl (Nat.le_of_ble_eq_true rfl) dR_isBy_12 ⟨ob_161, Tri.mono q1 (fun r2 σ2 q2 => L_zreturn rfl dR_isBy_15 q2)⟩))))))))))
theorem dR_isTo_0 : decode prog_14_method_37_code 0 = .ok (.aload_n 0, 1) := by decide +kernel
theorem dR_isTo_1 : decode prog_14_method_37_code 1 = .ok (.bipush 116, 2) := by decide +kernel
theorem dR_isTo_3 : decode prog_14_method_37_code 3 = .ok (.bipush 111, 2) := by decide +kernel
theorem dR_isTo_5 : decode prog_14_method_37_code 5 = .ok (.iconst 0, 1) := by decide +kernel
theorem dR_isTo_6 : decode prog_14_method_37_code 6 = .ok (.iconst 0, 1) := by decide +kernel
theorem dR_isTo_7 : decode prog_14_method_37_code 7 = .ok (.iconst 0, 1) := by decide +kernel
theorem dR_isTo_8 : decode prog_14_method_37_code 8 = .ok (.iconst 0, 1) := by decide +kernel
theorem dR_isTo_9 : decode prog_14_method_37_code 9 = .ok (.invokestatic 205, 3) := by decide +kernel
theorem dR_isTo_12 : decode prog_14_method_37_code 12 = .ok (.invokevirtual 209, 3) := by decide +kernel
theorem dR_isTo_15 : decode prog_14_method_37_code 15 = .ok (.ireturn, 1) := by decide +kernel
theorem t_R_isTo {d : Nat} {σ : SG} {Q : Int → SG → Prop} (h : Tri d M_R_spelled [vI 116, vI 111, vI 0, vI 0, vI 0, vI 0] σ (fun r1 σ1 => Tri d M_R_isWord [vA 161, vJ r1] σ1 (fun r2 σ2 => (r2 = 0 ∨ r2 = 1) ∧ Q r2 σ2))) : Tri (d + 1) M_R_isTo [vA 161] σ Q :=
  Tri_intro rfl (Nat.le_of_ble_eq_true rfl) (ls := [vA 161]) rfl (fun hok => L_aload_n dR_isTo_0 rfl (L_bipush dR_isTo_1 bp_116 in_116 (L_bipush dR_isTo_3 bp_111 in_111 (L_iconst dR_isTo_5 in_0 (L_iconst dR_isTo_6 in_0 (L_iconst dR_isTo_7 in_0 (L_iconst dR_isTo_8 in_0 (L_callSJ rfl cs_R_spelled (As := [vI 116, vI 111, vI 0, vI 0, vI 0, vI 0]) rfl (tk8 20 rfl rfl) rfl (Nat.le_of_ble_eq_true rfl) dR_isTo_9 (Tri.mono (h) (fun r1 σ1 q1 => L_callVI rfl cv_R_isWord (As := [vJ r1]) rfl (tk8 23 rfl rfl) rfl (Nat.le_of_ble_eq_true rfl) dR_isTo_12 ⟨ob_161, Tri.mono q1 (fun r2 σ2 q2 => L_zreturn rfl dR_isTo_15 q2)⟩))))))))))
theorem dR_isEnd_0 : decode prog_14_method_38_code 0 = .ok (.aload_n 0, 1) := by decide +kernel
theorem dR_isEnd_1 : decode prog_14_method_38_code 1 = .ok (.bipush 101, 2) := by decide +kernel
theorem dR_isEnd_3 : decode prog_14_method_38_code 3 = .ok (.bipush 110, 2) := by decide +kernel
theorem dR_isEnd_5 : decode prog_14_method_38_code 5 = .ok (.bipush 100, 2) := by decide +kernel
theorem dR_isEnd_7 : decode prog_14_method_38_code 7 = .ok (.iconst 0, 1) := by decide +kernel
theorem dR_isEnd_8 : decode prog_14_method_38_code 8 = .ok (.iconst 0, 1) := by decide +kernel
theorem dR_isEnd_9 : decode prog_14_method_38_code 9 = .ok (.iconst 0, 1) := by decide +kernel
theorem dR_isEnd_10 : decode prog_14_method_38_code 10 = .ok (.invokestatic 205, 3) := by decide +kernel
theorem dR_isEnd_13 : decode prog_14_method_38_code 13 = .ok (.invokevirtual 209, 3) := by decide +kernel
theorem dR_isEnd_16 : decode prog_14_method_38_code 16 = .ok (.ireturn, 1) := by decide +kernel
theorem t_R_isEnd {d : Nat} {σ : SG} {Q : Int → SG → Prop} (h : Tri d M_R_spelled [vI 101, vI 110, vI 100, vI 0, vI 0, vI 0] σ (fun r1 σ1 => Tri d M_R_isWord [vA 161, vJ r1] σ1 (fun r2 σ2 => (r2 = 0 ∨ r2 = 1) ∧ Q r2 σ2))) : Tri (d + 1) M_R_isEnd [vA 161] σ Q :=
  Tri_intro rfl (Nat.le_of_ble_eq_true rfl) (ls := [vA 161]) rfl (fun hok => L_aload_n dR_isEnd_0 rfl (L_bipush dR_isEnd_1 bp_101 in_101 (L_bipush dR_isEnd_3 bp_110 in_110 (L_bipush dR_isEnd_5 bp_100 in_100 (L_iconst dR_isEnd_7 in_0 (L_iconst dR_isEnd_8 in_0 (L_iconst dR_isEnd_9 in_0 (L_callSJ rfl cs_R_spelled (As := [vI 101, vI 110, vI 100, vI 0, vI 0, vI 0]) rfl (tk8 20 rfl rfl) rfl (Nat.le_of_ble_eq_true rfl) dR_isEnd_10 (Tri.mono (h) (fun r1 σ1 q1 => L_callVI rfl cv_R_isWord (As := [vJ r1]) rfl (tk8 23 rfl rfl) rfl (Nat.le_of_ble_eq_true rfl) dR_isEnd_13 ⟨ob_161, Tri.mono q1 (fun r2 σ2 q2 => L_zreturn rfl dR_isEnd_16 q2)⟩))))))))))
theorem dR_fail_0 : decode prog_14_method_39_code 0 = .ok (.aload_n 0, 1) := by decide +kernel
theorem dR_fail_1 : decode prog_14_method_39_code 1 = .ok (.getfield 221, 3) := by decide +kernel
theorem dR_fail_4 : decode prog_14_method_39_code 4 = .ok (.ifCond .le 4, 3) := by decide +kernel
theorem dR_fail_7 : decode prog_14_method_39_code 7 = .ok (.return_, 1) := by decide +kernel
theorem dR_fail_8 : decode prog_14_method_39_code 8 = .ok (.aload_n 0, 1) := by decide +kernel
theorem dR_fail_9 : decode prog_14_method_39_code 9 = .ok (.iload_n 1, 1) := by decide +kernel
theorem dR_fail_10 : decode prog_14_method_39_code 10 = .ok (.putfield 221, 3) := by decide +kernel
theorem dR_fail_13 : decode prog_14_method_39_code 13 = .ok (.aload_n 0, 1) := by decide +kernel
theorem dR_fail_14 : decode prog_14_method_39_code 14 = .ok (.iload_n 2, 1) := by decide +kernel
theorem dR_fail_15 : decode prog_14_method_39_code 15 = .ok (.putfield 224, 3) := by decide +kernel
theorem dR_fail_18 : decode prog_14_method_39_code 18 = .ok (.return_, 1) := by decide +kernel
theorem t_R_fail {d : Nat} {x1 x2 : Int} {σ : SG} {Q : Int → SG → Prop} (h : inI x1 → inI x2 → ((σ 161 12 ≤ 0 → (∀ σ2, σ2 = up σ 161 12 x1 → (∀ σ3, σ3 = up σ2 161 13 x2 → Q 0 σ3))) ∧ (0 < σ 161 12 → Q 0 σ))) : Tri (d + 1) M_R_fail [vA 161, vI x1, vI x2] σ Q :=
  Tri_intro rfl (Nat.le_of_ble_eq_true rfl) (ls := [vA 161, vI x1, vI x2]) rfl (fun hok => L_aload_n dR_fail_0 rfl (L_getf fw_R_221 rfl dR_fail_1 ⟨ob_161, L_if_le dR_fail_4 (by decide) ⟨fun c1 => L_aload_n dR_fail_8 rfl (L_iload_n dR_fail_9 rfl (L_putfN fp_R_221 rfl rfl (fun _ => ⟨rfl, rfl⟩) dR_fail_10 ⟨ob_161, fun σ2 e2 => L_aload_n dR_fail_13 rfl (L_iload_n dR_fail_14 rfl (L_putfN fp_R_224 rfl rfl (fun _ => ⟨rfl, rfl⟩) dR_fail_15 ⟨ob_161, fun σ3 e3 => L_return rfl dR_fail_18 ((((h (hok _ (List.mem_of_getElem? (i := 1) rfl)) (hok _ (List.mem_of_getElem? (i := 2) rfl))).1 c1) σ2 e2) σ3 e3)⟩))⟩)), fun c1 => L_return rfl dR_fail_7 ((h (hok _ (List.mem_of_getElem? (i := 1) rfl)) (hok _ (List.mem_of_getElem? (i := 2) rfl))).2 c1)⟩⟩))
theorem dR_wrong_0 : decode prog_14_method_40_code 0 = .ok (.aload_n 0, 1) := by decide +kernel
theorem dR_wrong_1 : decode prog_14_method_40_code 1 = .ok (.aload_n 0, 1) := by decide +kernel
theorem dR_wrong_2 : decode prog_14_method_40_code 2 = .ok (.getfield 183, 3) := by decide +kernel
theorem dR_wrong_5 : decode prog_14_method_40_code 5 = .ok (.iconst 4, 1) := by decide +kernel
theorem dR_wrong_6 : decode prog_14_method_40_code 6 = .ok (.if_icmp .ne 7, 3) := by decide +kernel
theorem dR_wrong_9 : decode prog_14_method_40_code 9 = .ok (.iconst 1, 1) := by decide +kernel
theorem dR_wrong_10 : decode prog_14_method_40_code 10 = .ok (.goto 4, 3) := by decide +kernel
theorem dR_wrong_13 : decode prog_14_method_40_code 13 = .ok (.iconst 2, 1) := by decide +kernel
theorem dR_wrong_14 : decode prog_14_method_40_code 14 = .ok (.aload_n 0, 1) := by decide +kernel
theorem dR_wrong_15 : decode prog_14_method_40_code 15 = .ok (.getfield 177, 3) := by decide +kernel
theorem dR_wrong_18 : decode prog_14_method_40_code 18 = .ok (.invokevirtual 227, 3) := by decide +kernel
theorem dR_wrong_21 : decode prog_14_method_40_code 21 = .ok (.return_, 1) := by decide +kernel
theorem t_R_wrong {d : Nat} {σ : SG} {Q : Int → SG → Prop} (h : (σ 161 14 ≠ 4 → Tri d M_R_fail [vA 161, vI 2, vI (σ 161 15)] σ (fun r2 σ2 => Q 0 σ2)) ∧ (σ 161 14 = 4 → Tri d M_R_fail [vA 161, vI 1, vI (σ 161 15)] σ (fun r3 σ3 => Q 0 σ3))) : Tri (d + 1) M_R_wrong [vA 161] σ Q :=
  Tri_intro rfl (Nat.le_of_ble_eq_true rfl) (ls := [vA 161]) rfl (fun hok => L_aload_n dR_wrong_0 rfl (L_aload_n dR_wrong_1 rfl (L_getf fw_R_183 rfl dR_wrong_2 ⟨ob_161, L_iconst dR_wrong_5 in_4 (L_icmp_ne dR_wrong_6 (by decide) ⟨fun c1 => L_iconst dR_wrong_13 in_2 (L_aload_n dR_wrong_14 rfl (L_getf fw_R_177 rfl dR_wrong_15 ⟨ob_161, L_callVV rfl cv_R_fail (As := [vI 2, vI (σ 161 15)]) rfl (tk8 35 rfl rfl) rfl (Nat.le_of_ble_eq_true rfl) dR_wrong_18 ⟨ob_161, Tri.mono (h.1 c1) (fun r2 σ2 q2 => L_return rfl dR_wrong_21 q2)⟩⟩)), fun c1 => L_iconst dR_wrong_9 in_1 (L_goto dR_wrong_10 (by decide) (L_aload_n dR_wrong_14 rfl (L_getf fw_R_177 rfl dR_wrong_15 ⟨ob_161, L_callVV rfl cv_R_fail (As := [vI 1, vI (σ 161 15)]) rfl (tk8 35 rfl rfl) rfl (Nat.le_of_ble_eq_true rfl) dR_wrong_18 ⟨ob_161, Tri.mono (h.2 c1) (fun r3 σ3 q3 => L_return rfl dR_wrong_21 q3)⟩⟩)))⟩)⟩)))
theorem dR_must_0 : decode prog_14_method_41_code 0 = .ok (.aload_n 0, 1) := by decide +kernel
theorem dR_must_1 : decode prog_14_method_41_code 1 = .ok (.getfield 221, 3) := by decide +kernel
theorem dR_must_4 : decode prog_14_method_41_code 4 = .ok (.ifCond .le 4, 3) := by decide +kernel
theorem dR_must_7 : decode prog_14_method_41_code 7 = .ok (.return_, 1) := by decide +kernel
theorem dR_must_8 : decode prog_14_method_41_code 8 = .ok (.iload_n 1, 1) := by decide +kernel
theorem dR_must_9 : decode prog_14_method_41_code 9 = .ok (.ifCond .eq 10, 3) := by decide +kernel
theorem dR_must_12 : decode prog_14_method_41_code 12 = .ok (.aload_n 0, 1) := by decide +kernel
theorem dR_must_13 : decode prog_14_method_41_code 13 = .ok (.invokevirtual 231, 3) := by decide +kernel
theorem dR_must_16 : decode prog_14_method_41_code 16 = .ok (.goto 7, 3) := by decide +kernel
theorem dR_must_19 : decode prog_14_method_41_code 19 = .ok (.aload_n 0, 1) := by decide +kernel
theorem dR_must_20 : decode prog_14_method_41_code 20 = .ok (.invokevirtual 234, 3) := by decide +kernel
theorem dR_must_23 : decode prog_14_method_41_code 23 = .ok (.return_, 1) := by decide +kernel
theorem t_R_must {d : Nat} {x1 : Int} {σ : SG} {Q : Int → SG → Prop} (h : inI x1 → ((σ 161 12 ≤ 0 → (x1 = 0 → Tri d M_R_wrong [vA 161] σ (fun r3 σ3 => Q 0 σ3)) ∧ (x1 ≠ 0 → Tri d M_R_next [vA 161] σ (fun r4 σ4 => Q 0 σ4))) ∧ (0 < σ 161 12 → Q 0 σ))) : Tri (d + 1) M_R_must [vA 161, vI x1] σ Q :=
  Tri_intro rfl (Nat.le_of_ble_eq_true rfl) (ls := [vA 161, vI x1]) rfl (fun hok => L_aload_n dR_must_0 rfl (L_getf fw_R_221 rfl dR_must_1 ⟨ob_161, L_if_le dR_must_4 (by decide) ⟨fun c1 => L_iload_n dR_must_8 rfl (L_if_eq dR_must_9 (by decide) ⟨fun c2 => L_aload_n dR_must_19 rfl (L_callVV rfl cv_R_wrong (As := []) rfl (tk8 31 rfl rfl) rfl (Nat.le_of_ble_eq_true rfl) dR_must_20 ⟨ob_161, Tri.mono (((h (hok _ (List.mem_of_getElem? (i := 1) rfl))).1 c1).1 c2) (fun r3 σ3 q3 => L_return rfl dR_must_23 q3)⟩), fun c2 => L_aload_n dR_must_12 rfl (L_callVV rfl cv_R_next (As := []) rfl (tk7 236 rfl rfl) rfl (Nat.le_of_ble_eq_true rfl) dR_must_13 ⟨ob_161, Tri.mono (((h (hok _ (List.mem_of_getElem? (i := 1) rfl))).1 c1).2 c2) (fun r4 σ4 q4 => L_goto dR_must_16 (by decide) (L_return rfl dR_must_23 q4))⟩)⟩), fun c1 => L_return rfl dR_must_7 ((h (hok _ (List.mem_of_getElem? (i := 1) rfl))).2 c1)⟩⟩))
theorem dR_count_0 : decode prog_14_method_42_code 0 = .ok (.aload_n 0, 1) := by decide +kernel
theorem dR_count_1 : decode prog_14_method_42_code 1 = .ok (.getfield 221, 3) := by decide +kernel
theorem dR_count_4 : decode prog_14_method_42_code 4 = .ok (.ifCond .ne 15, 3) := by decide +kernel
theorem dR_count_7 : decode prog_14_method_42_code 7 = .ok (.aload_n 0, 1) := by decide +kernel
theorem dR_count_8 : decode prog_14_method_42_code 8 = .ok (.getfield 183, 3) := by decide +kernel
theorem dR_count_11 : decode prog_14_method_42_code 11 = .ok (.iconst 2, 1) := by decide +kernel
theorem dR_count_12 : decode prog_14_method_42_code 12 = .ok (.if_icmp .eq 7, 3) := by decide +kernel
theorem dR_count_15 : decode prog_14_method_42_code 15 = .ok (.aload_n 0, 1) := by decide +kernel
theorem dR_count_16 : decode prog_14_method_42_code 16 = .ok (.invokevirtual 234, 3) := by decide +kernel
theorem dR_count_19 : decode prog_14_method_42_code 19 = .ok (.aload_n 0, 1) := by decide +kernel
theorem dR_count_20 : decode prog_14_method_42_code 20 = .ok (.getfield 221, 3) := by decide +kernel
theorem dR_count_23 : decode prog_14_method_42_code 23 = .ok (.ifCond .ne 27, 3) := by decide +kernel
theorem dR_count_26 : decode prog_14_method_42_code 26 = .ok (.aload_n 0, 1) := by decide +kernel
theorem dR_count_27 : decode prog_14_method_42_code 27 = .ok (.getfield 199, 3) := by decide +kernel
theorem dR_count_30 : decode prog_14_method_42_code 30 = .ok (.i2l, 1) := by decide +kernel
theorem dR_count_31 : decode prog_14_method_42_code 31 = .ok (.iload_n 1, 1) := by decide +kernel
theorem dR_count_32 : decode prog_14_method_42_code 32 = .ok (.i2l, 1) := by decide +kernel
theorem dR_count_33 : decode prog_14_method_42_code 33 = .ok (.iload_n 2, 1) := by decide +kernel
theorem dR_count_34 : decode prog_14_method_42_code 34 = .ok (.i2l, 1) := by decide +kernel
theorem dR_count_35 : decode prog_14_method_42_code 35 = .ok (.invokestatic 167, 3) := by decide +kernel
theorem dR_count_38 : decode prog_14_method_42_code 38 = .ok (.ifCond .ne 12, 3) := by decide +kernel
theorem dR_count_41 : decode prog_14_method_42_code 41 = .ok (.aload_n 0, 1) := by decide +kernel
theorem dR_count_42 : decode prog_14_method_42_code 42 = .ok (.iconst 4, 1) := by decide +kernel
theorem dR_count_43 : decode prog_14_method_42_code 43 = .ok (.aload_n 0, 1) := by decide +kernel
theorem dR_count_44 : decode prog_14_method_42_code 44 = .ok (.getfield 177, 3) := by decide +kernel
theorem dR_count_47 : decode prog_14_method_42_code 47 = .ok (.invokevirtual 227, 3) := by decide +kernel
theorem dR_count_50 : decode prog_14_method_42_code 50 = .ok (.aload_n 0, 1) := by decide +kernel
theorem dR_count_51 : decode prog_14_method_42_code 51 = .ok (.getfield 221, 3) := by decide +kernel
theorem dR_count_54 : decode prog_14_method_42_code 54 = .ok (.ifCond .le 5, 3) := by decide +kernel
theorem dR_count_57 : decode prog_14_method_42_code 57 = .ok (.iconst 0, 1) := by decide +kernel
theorem dR_count_58 : decode prog_14_method_42_code 58 = .ok (.ireturn, 1) := by decide +kernel
theorem dR_count_59 : decode prog_14_method_42_code 59 = .ok (.aload_n 0, 1) := by decide +kernel
theorem dR_count_60 : decode prog_14_method_42_code 60 = .ok (.getfield 199, 3) := by decide +kernel
theorem dR_count_63 : decode prog_14_method_42_code 63 = .ok (.istore_n 3, 1) := by decide +kernel
theorem dR_count_64 : decode prog_14_method_42_code 64 = .ok (.aload_n 0, 1) := by decide +kernel
theorem dR_count_65 : decode prog_14_method_42_code 65 = .ok (.invokevirtual 231, 3) := by decide +kernel
theorem dR_count_68 : decode prog_14_method_42_code 68 = .ok (.iload_n 3, 1) := by decide +kernel
theorem dR_count_69 : decode prog_14_method_42_code 69 = .ok (.ireturn, 1) := by decide +kernel
theorem t_R_count {d : Nat} {x1 x2 : Int} {σ : SG} {Q : Int → SG → Prop} (h : inI x1 → inI x2 → ((σ 161 12 ≠ 0 → L (d + 1) M_R_count 19 [vA 161, vI x1, vI x2, vU] [] σ Q) ∧ (σ 161 12 = 0 → (σ 161 14 = 2 → L (d + 1) M_R_count 19 [vA 161, vI x1, vI x2, vU] [] σ Q) ∧ (σ 161 14 ≠ 2 → Tri d M_R_wrong [vA 161] σ (fun r3 σ3 => L (d + 1) M_R_count 19 [vA 161, vI x1, vI x2, vU] [] σ3 Q))))) : Tri (d + 1) M_R_count [vA 161, vI x1, vI x2] σ Q :=
  Tri_intro rfl (Nat.le_of_ble_eq_true rfl) (ls := [vA 161, vI x1, vI x2, vU]) rfl (fun hok => L_aload_n dR_count_0 rfl (L_getf fw_R_221 rfl dR_count_1 ⟨ob_161, L_if_ne dR_count_4 (by decide) ⟨fun c1 => ((h (hok _ (List.mem_of_getElem? (i := 1) rfl)) (hok _ (List.mem_of_getElem? (i := 2) rfl))).1 c1), fun c1 => L_aload_n dR_count_7 rfl (L_getf fw_R_183 rfl dR_count_8 ⟨ob_161, L_iconst dR_count_11 in_2 (L_icmp_eq dR_count_12 (by decide) ⟨fun c2 => (((h (hok _ (List.mem_of_getElem? (i := 1) rfl)) (hok _ (List.mem_of_getElem? (i := 2) rfl))).2 c1).1 c2), fun c2 => L_aload_n dR_count_15 rfl (L_callVV rfl cv_R_wrong (As := []) rfl (tk8 31 rfl rfl) rfl (Nat.le_of_ble_eq_true rfl) dR_count_16 ⟨ob_161, Tri.mono (((h (hok _ (List.mem_of_getElem? (i := 1) rfl)) (hok _ (List.mem_of_getElem? (i := 2) rfl))).2 c1).2 c2) (fun r3 σ3 q3 => q3)⟩)⟩)⟩)⟩⟩))
theorem s_R_count_19 {d : Nat} {x1 x2 : Int} {σ : SG} {Q : Int → SG → Prop} (h : (σ 161 12 ≠ 0 → (σ 161 12 ≤ 0 → Tri d M_R_next [vA 161] σ (fun r3 σ3 => Q (σ 161 17) σ3)) ∧ (0 < σ 161 12 → Q 0 σ)) ∧ (σ 161 12 = 0 → Tri d M_R_isIn [vJ (σ 161 17), vJ x1, vJ x2] σ (fun r4 σ4 => (r4 ≠ 0 → (σ4 161 12 ≤ 0 → Tri d M_R_next [vA 161] σ4 (fun r7 σ7 => Q (σ4 161 17) σ7)) ∧ (0 < σ4 161 12 → Q 0 σ4)) ∧ (r4 = 0 → Tri d M_R_fail [vA 161, vI 4, vI (σ4 161 15)] σ4 (fun r8 σ8 => (σ8 161 12 ≤ 0 → Tri d M_R_next [vA 161] σ8 (fun r10 σ10 => Q (σ8 161 17) σ10)) ∧ (0 < σ8 161 12 → Q 0 σ8)))))) : L (d + 1) M_R_count 19 [vA 161, vI x1, vI x2, vU] [] σ Q :=
  L_aload_n dR_count_19 rfl (L_getf fw_R_221 rfl dR_count_20 ⟨ob_161, L_if_ne dR_count_23 (by decide) ⟨fun c1 => L_aload_n dR_count_50 rfl (L_getf fw_R_221 rfl dR_count_51 ⟨ob_161, L_if_le dR_count_54 (by decide) ⟨fun c2 => L_aload_n dR_count_59 rfl (L_getf fw_R_199 rfl dR_count_60 ⟨ob_161, L_istore_n dR_count_63 (by decide) (L_aload_n dR_count_64 rfl (L_callVV rfl cv_R_next (As := []) rfl (tk7 236 rfl rfl) rfl (Nat.le_of_ble_eq_true rfl) dR_count_65 ⟨ob_161, Tri.mono ((h.1 c1).1 c2) (fun r3 σ3 q3 => L_iload_n dR_count_68 rfl (L_ireturn rfl dR_count_69 q3))⟩))⟩), fun c2 => L_iconst dR_count_57 in_0 (L_ireturn rfl dR_count_58 ((h.1 c1).2 c2))⟩⟩), fun c1 => L_aload_n dR_count_26 rfl (L_getf fw_R_199 rfl dR_count_27 ⟨ob_161, L_i2l dR_count_30 (L_iload_n dR_count_31 rfl (L_i2l dR_count_32 (L_iload_n dR_count_33 rfl (L_i2l dR_count_34 (L_callSI rfl cs_R_isIn (As := [vJ (σ 161 17), vJ x1, vJ x2]) rfl (tk8 47 rfl rfl) rfl (Nat.le_of_ble_eq_true rfl) dR_count_35 (Tri.mono (h.2 c1) (fun r4 σ4 q4 => L_if_ne dR_count_38 (by decide) ⟨fun c5 => L_aload_n dR_count_50 rfl (L_getf fw_R_221 rfl dR_count_51 ⟨ob_161, L_if_le dR_count_54 (by decide) ⟨fun c6 => L_aload_n dR_count_59 rfl (L_getf fw_R_199 rfl dR_count_60 ⟨ob_161, L_istore_n dR_count_63 (by decide) (L_aload_n dR_count_64 rfl (L_callVV rfl cv_R_next (As := []) rfl (tk7 236 rfl rfl) rfl (Nat.le_of_ble_eq_true rfl) dR_count_65 ⟨ob_161, Tri.mono ((q4.1 c5).1 c6) (fun r7 σ7 q7 => L_iload_n dR_count_68 rfl (L_ireturn rfl dR_count_69 q7))⟩))⟩), fun c6 => L_iconst dR_count_57 in_0 (L_ireturn rfl dR_count_58 ((q4.1 c5).2 c6))⟩⟩), fun c5 => L_aload_n dR_count_41 rfl (L_iconst dR_count_42 in_4 (L_aload_n dR_count_43 rfl (L_getf fw_R_177 rfl dR_count_44 ⟨ob_161, L_callVV rfl cv_R_fail (As := [vI 4, vI (σ4 161 15)]) rfl (tk8 35 rfl rfl) rfl (Nat.le_of_ble_eq_true rfl) dR_count_47 ⟨ob_161, Tri.mono (q4.2 c5) (fun r8 σ8 q8 => L_aload_n dR_count_50 rfl (L_getf fw_R_221 rfl dR_count_51 ⟨ob_161, L_if_le dR_count_54 (by decide) ⟨fun c9 => L_aload_n dR_count_59 rfl (L_getf fw_R_199 rfl dR_count_60 ⟨ob_161, L_istore_n dR_count_63 (by decide) (L_aload_n dR_count_64 rfl (L_callVV rfl cv_R_next (As := []) rfl (tk7 236 rfl rfl) rfl (Nat.le_of_ble_eq_true rfl) dR_count_65 ⟨ob_161, Tri.mono (q8.1 c9) (fun r10 σ10 q10 => L_iload_n dR_count_68 rfl (L_ireturn rfl dR_count_69 q10))⟩))⟩), fun c9 => L_iconst dR_count_57 in_0 (L_ireturn rfl dR_count_58 (q8.2 c9))⟩⟩))⟩⟩)))⟩)))))))⟩)⟩⟩)
theorem dR_feed_0 : decode prog_14_method_43_code 0 = .ok (.aload_n 0, 1) := by decide +kernel
theorem dR_feed_1 : decode prog_14_method_43_code 1 = .ok (.iconst 0, 1) := by decide +kernel
theorem dR_feed_2 : decode prog_14_method_43_code 2 = .ok (.putfield 132, 3) := by decide +kernel
theorem dR_feed_5 : decode prog_14_method_43_code 5 = .ok (.aload_n 0, 1) := by decide +kernel
theorem dR_feed_6 : decode prog_14_method_43_code 6 = .ok (.getfield 237, 3) := by decide +kernel
theorem dR_feed_9 : decode prog_14_method_43_code 9 = .ok (.bipush 20, 2) := by decide +kernel
theorem dR_feed_11 : decode prog_14_method_43_code 11 = .ok (.iadd, 1) := by decide +kernel
theorem dR_feed_12 : decode prog_14_method_43_code 12 = .ok (.sipush 600, 3) := by decide +kernel
theorem dR_feed_15 : decode prog_14_method_43_code 15 = .ok (.if_icmp .le 5, 3) := by decide +kernel
theorem dR_feed_18 : decode prog_14_method_43_code 18 = .ok (.iconst (-1), 1) := by decide +kernel
theorem dR_feed_19 : decode prog_14_method_43_code 19 = .ok (.ireturn, 1) := by decide +kernel
theorem dR_feed_20 : decode prog_14_method_43_code 20 = .ok (.aload_n 0, 1) := by decide +kernel
theorem dR_feed_21 : decode prog_14_method_43_code 21 = .ok (.iload_n 1, 1) := by decide +kernel
theorem dR_feed_22 : decode prog_14_method_43_code 22 = .ok (.invokevirtual 240, 3) := by decide +kernel
theorem dR_feed_25 : decode prog_14_method_43_code 25 = .ok (.aload_n 0, 1) := by decide +kernel
theorem dR_feed_26 : decode prog_14_method_43_code 26 = .ok (.iload_n 2, 1) := by decide +kernel
theorem dR_feed_27 : decode prog_14_method_43_code 27 = .ok (.invokevirtual 240, 3) := by decide +kernel
theorem dR_feed_30 : decode prog_14_method_43_code 30 = .ok (.aload_n 0, 1) := by decide +kernel
theorem dR_feed_31 : decode prog_14_method_43_code 31 = .ok (.iload_n 3, 1) := by decide +kernel
theorem dR_feed_32 : decode prog_14_method_43_code 32 = .ok (.invokevirtual 240, 3) := by decide +kernel
theorem dR_feed_35 : decode prog_14_method_43_code 35 = .ok (.aload_n 0, 1) := by decide +kernel
theorem dR_feed_36 : decode prog_14_method_43_code 36 = .ok (.iload 4, 2) := by decide +kernel
theorem dR_feed_38 : decode prog_14_method_43_code 38 = .ok (.invokevirtual 240, 3) := by decide +kernel
theorem dR_feed_41 : decode prog_14_method_43_code 41 = .ok (.aload_n 0, 1) := by decide +kernel
theorem dR_feed_42 : decode prog_14_method_43_code 42 = .ok (.iload 5, 2) := by decide +kernel
theorem dR_feed_44 : decode prog_14_method_43_code 44 = .ok (.invokevirtual 240, 3) := by decide +kernel
theorem dR_feed_47 : decode prog_14_method_43_code 47 = .ok (.aload_n 0, 1) := by decide +kernel
theorem dR_feed_48 : decode prog_14_method_43_code 48 = .ok (.getfield 237, 3) := by decide +kernel
theorem dR_feed_51 : decode prog_14_method_43_code 51 = .ok (.ireturn, 1) := by decide +kernel
theorem t_R_feed {d : Nat} {x1 x2 x3 x4 x5 : Int} {σ : SG} {Q : Int → SG → Prop} (h : inI x1 → inI x2 → inI x3 → inI x4 → inI x5 → ((∀ σ1, σ1 = up σ 161 1 0 → (w32 ((σ1 161 8) + 20) ≤ 600 → Tri d M_R_lay [vA 161, vI x1] σ1 (fun r3 σ3 => Tri d M_R_lay [vA 161, vI x2] σ3 (fun r4 σ4 => Tri d M_R_lay [vA 161, vI x3] σ4 (fun r5 σ5 => Tri d M_R_lay [vA 161, vI x4] σ5 (fun r6 σ6 => Tri d M_R_lay [vA 161, vI x5] σ6 (fun r7 σ7 => Q (σ7 161 8) σ7)))))) ∧ (600 < w32 ((σ1 161 8) + 20) → Q (-1) σ1)))) : Tri (d + 1) M_R_feed [vA 161, vI x1, vI x2, vI x3, vI x4, vI x5] σ Q :=
  Tri_intro rfl (Nat.le_of_ble_eq_true rfl) (ls := [vA 161, vI x1, vI x2, vI x3, vI x4, vI x5]) rfl (fun hok => L_aload_n dR_feed_0 rfl (L_iconst dR_feed_1 in_0 (L_putfN fp_R_132 rfl rfl (fun _ => ⟨rfl, rfl⟩) dR_feed_2 ⟨ob_161, fun σ1 e1 => L_aload_n dR_feed_5 rfl (L_getf fw_R_237 rfl dR_feed_6 ⟨ob_161, L_bipush dR_feed_9 bp_20 in_20 (L_iadd dR_feed_11 (L_sipush dR_feed_12 sp_600 in_600 (L_icmp_le dR_feed_15 (by decide) ⟨fun c2 => L_aload_n dR_feed_20 rfl (L_iload_n dR_feed_21 rfl (L_callVV rfl cv_R_lay (As := [vI x1]) rfl (tk7 220 rfl rfl) rfl (Nat.le_of_ble_eq_true rfl) dR_feed_22 ⟨ob_161, Tri.mono (((h (hok _ (List.mem_of_getElem? (i := 1) rfl)) (hok _ (List.mem_of_getElem? (i := 2) rfl)) (hok _ (List.mem_of_getElem? (i := 3) rfl)) (hok _ (List.mem_of_getElem? (i := 4) rfl)) (hok _ (List.mem_of_getElem? (i := 5) rfl))) σ1 e1).1 c2) (fun r3 σ3 q3 => L_aload_n dR_feed_25 rfl (L_iload_n dR_feed_26 rfl (L_callVV rfl cv_R_lay (As := [vI x2]) rfl (tk7 220 rfl rfl) rfl (Nat.le_of_ble_eq_true rfl) dR_feed_27 ⟨ob_161, Tri.mono q3 (fun r4 σ4 q4 => L_aload_n dR_feed_30 rfl (L_iload_n dR_feed_31 rfl (L_callVV rfl cv_R_lay (As := [vI x3]) rfl (tk7 220 rfl rfl) rfl (Nat.le_of_ble_eq_true rfl) dR_feed_32 ⟨ob_161, Tri.mono q4 (fun r5 σ5 q5 => L_aload_n dR_feed_35 rfl (L_iload dR_feed_36 rfl (L_callVV rfl cv_R_lay (As := [vI x4]) rfl (tk7 220 rfl rfl) rfl (Nat.le_of_ble_eq_true rfl) dR_feed_38 ⟨ob_161, Tri.mono q5 (fun r6 σ6 q6 => L_aload_n dR_feed_41 rfl (L_iload dR_feed_42 rfl (L_callVV rfl cv_R_lay (As := [vI x5]) rfl (tk7 220 rfl rfl) rfl (Nat.le_of_ble_eq_true rfl) dR_feed_44 ⟨ob_161, Tri.mono q6 (fun r7 σ7 q7 => L_aload_n dR_feed_47 rfl (L_getf fw_R_237 rfl dR_feed_48 ⟨ob_161, L_ireturn rfl dR_feed_51 q7⟩))⟩)))⟩)))⟩)))⟩)))⟩)), fun c2 => L_iconst dR_feed_18 in_m1 (L_ireturn rfl dR_feed_19 (((h (hok _ (List.mem_of_getElem? (i := 1) rfl)) (hok _ (List.mem_of_getElem? (i := 2) rfl)) (hok _ (List.mem_of_getElem? (i := 3) rfl)) (hok _ (List.mem_of_getElem? (i := 4) rfl)) (hok _ (List.mem_of_getElem? (i := 5) rfl))) σ1 e1).2 c2))⟩)))⟩)⟩)))
theorem dR_lay_0 : decode prog_14_method_44_code 0 = .ok (.iconst 3, 1) := by decide +kernel
theorem dR_lay_1 : decode prog_14_method_44_code 1 = .ok (.istore_n 2, 1) := by decide +kernel
theorem dR_lay_2 : decode prog_14_method_44_code 2 = .ok (.iload_n 2, 1) := by decide +kernel
theorem dR_lay_3 : decode prog_14_method_44_code 3 = .ok (.ifCond .lt 35, 3) := by decide +kernel
theorem dR_lay_6 : decode prog_14_method_44_code 6 = .ok (.aload_n 0, 1) := by decide +kernel
theorem dR_lay_7 : decode prog_14_method_44_code 7 = .ok (.getfield 24, 3) := by decide +kernel
theorem dR_lay_10 : decode prog_14_method_44_code 10 = .ok (.aload_n 0, 1) := by decide +kernel
theorem dR_lay_11 : decode prog_14_method_44_code 11 = .ok (.getfield 237, 3) := by decide +kernel
theorem dR_lay_14 : decode prog_14_method_44_code 14 = .ok (.iload_n 1, 1) := by decide +kernel
theorem dR_lay_15 : decode prog_14_method_44_code 15 = .ok (.bipush 8, 2) := by decide +kernel
theorem dR_lay_17 : decode prog_14_method_44_code 17 = .ok (.iload_n 2, 1) := by decide +kernel
theorem dR_lay_18 : decode prog_14_method_44_code 18 = .ok (.imul, 1) := by decide +kernel
theorem dR_lay_19 : decode prog_14_method_44_code 19 = .ok (.ishr, 1) := by decide +kernel
theorem dR_lay_20 : decode prog_14_method_44_code 20 = .ok (.i2b, 1) := by decide +kernel
theorem dR_lay_21 : decode prog_14_method_44_code 21 = .ok (.bastore, 1) := by decide +kernel
theorem dR_lay_22 : decode prog_14_method_44_code 22 = .ok (.aload_n 0, 1) := by decide +kernel
theorem dR_lay_23 : decode prog_14_method_44_code 23 = .ok (.dup, 1) := by decide +kernel
theorem dR_lay_24 : decode prog_14_method_44_code 24 = .ok (.getfield 237, 3) := by decide +kernel
theorem dR_lay_27 : decode prog_14_method_44_code 27 = .ok (.iconst 1, 1) := by decide +kernel
theorem dR_lay_28 : decode prog_14_method_44_code 28 = .ok (.iadd, 1) := by decide +kernel
theorem dR_lay_29 : decode prog_14_method_44_code 29 = .ok (.putfield 237, 3) := by decide +kernel
theorem dR_lay_32 : decode prog_14_method_44_code 32 = .ok (.iinc 2 (-1), 3) := by decide +kernel
theorem dR_lay_35 : decode prog_14_method_44_code 35 = .ok (.goto (-33), 3) := by decide +kernel
theorem dR_lay_38 : decode prog_14_method_44_code 38 = .ok (.return_, 1) := by decide +kernel
theorem t_R_lay {d : Nat} {x1 : Int} {σ : SG} {Q : Int → SG → Prop} (h : inI x1 → (L (d + 1) M_R_lay 2 [vA 161, vI x1, vI 3] [] σ Q)) : Tri (d + 1) M_R_lay [vA 161, vI x1] σ Q :=
  Tri_intro rfl (Nat.le_of_ble_eq_true rfl) (ls := [vA 161, vI x1, vU]) rfl (fun hok => L_iconst dR_lay_0 in_3 (L_istore_n dR_lay_1 (by decide) ((h (hok _ (List.mem_of_getElem? (i := 1) rfl))))))
theorem s_R_lay_2 {d : Nat} {x1 x2 : Int} {σ : SG} {Q : Int → SG → Prop} (h : (x2 < 0 → Q 0 σ) ∧ (0 ≤ x2 → (0 ≤ σ 161 8 ∧ σ 161 8 < 600) ∧ (∀ σ2, σ2 = up σ 165 (σ 161 8) (i2b (i2b (shr32 x1 (w32 (8 * x2))))) → (∀ σ3, σ3 = up σ2 161 8 (w32 ((σ2 161 8) + 1)) → L (d + 1) M_R_lay 2 [vA 161, vI x1, vI (w32 (x2 + (-1)))] [] σ3 Q)))) : L (d + 1) M_R_lay 2 [vA 161, vI x1, vI x2] [] σ Q :=
  L_iload_n dR_lay_2 rfl (L_if_lt dR_lay_3 (by decide) ⟨fun c1 => L_return rfl dR_lay_38 (h.1 c1), fun c1 => L_aload_n dR_lay_6 rfl (L_getF (b := 165) fw_R_24 rfl rfl (by decide) dR_lay_7 ⟨ob_161, L_aload_n dR_lay_10 rfl (L_getf fw_R_237 rfl dR_lay_11 ⟨ob_161, L_iload_n dR_lay_14 rfl (L_bipush dR_lay_15 bp_8 in_8 (L_iload_n dR_lay_17 rfl (L_imul dR_lay_18 (L_ishr dR_lay_19 (L_i2b dR_lay_20 (L_bastoreL (by decide) kd_165 dR_lay_21 ⟨(h.2 c1).1, fun σ2 e2 => L_aload_n dR_lay_22 rfl (L_dup dR_lay_23 n21 (L_getf fw_R_237 rfl dR_lay_24 ⟨ob_161, L_iconst dR_lay_27 in_1 (L_iadd dR_lay_28 (L_putfN fp_R_237 rfl rfl (fun _ => ⟨rfl, rfl⟩) dR_lay_29 ⟨ob_161, fun σ3 e3 => L_iinc dR_lay_32 rfl (by decide) (L_goto dR_lay_35 (by decide) (((h.2 c1).2 σ2 e2) σ3 e3))⟩))⟩))⟩))))))⟩)⟩)⟩)
theorem dR_opens_0 : decode prog_14_method_45_code 0 = .ok (.iload_n 1, 1) := by decide +kernel
theorem dR_opens_1 : decode prog_14_method_45_code 1 = .ok (.ifCond .lt 16, 3) := by decide +kernel
theorem dR_opens_4 : decode prog_14_method_45_code 4 = .ok (.iload_n 1, 1) := by decide +kernel
theorem dR_opens_5 : decode prog_14_method_45_code 5 = .ok (.aload_n 0, 1) := by decide +kernel
theorem dR_opens_6 : decode prog_14_method_45_code 6 = .ok (.getfield 237, 3) := by decide +kernel
theorem dR_opens_9 : decode prog_14_method_45_code 9 = .ok (.if_icmp .gt 8, 3) := by decide +kernel
theorem dR_opens_12 : decode prog_14_method_45_code 12 = .ok (.iload_n 1, 1) := by decide +kernel
theorem dR_opens_13 : decode prog_14_method_45_code 13 = .ok (.iload_n 2, 1) := by decide +kernel
theorem dR_opens_14 : decode prog_14_method_45_code 14 = .ok (.if_icmp .le 9, 3) := by decide +kernel
theorem dR_opens_17 : decode prog_14_method_45_code 17 = .ok (.aload_n 0, 1) := by decide +kernel
theorem dR_opens_18 : decode prog_14_method_45_code 18 = .ok (.iconst 5, 1) := by decide +kernel
theorem dR_opens_19 : decode prog_14_method_45_code 19 = .ok (.invokevirtual 147, 3) := by decide +kernel
theorem dR_opens_22 : decode prog_14_method_45_code 22 = .ok (.ireturn, 1) := by decide +kernel
theorem dR_opens_23 : decode prog_14_method_45_code 23 = .ok (.aload_n 0, 1) := by decide +kernel
theorem dR_opens_24 : decode prog_14_method_45_code 24 = .ok (.iload_n 1, 1) := by decide +kernel
theorem dR_opens_25 : decode prog_14_method_45_code 25 = .ok (.putfield 171, 3) := by decide +kernel
theorem dR_opens_28 : decode prog_14_method_45_code 28 = .ok (.aload_n 0, 1) := by decide +kernel
theorem dR_opens_29 : decode prog_14_method_45_code 29 = .ok (.iconst 0, 1) := by decide +kernel
theorem dR_opens_30 : decode prog_14_method_45_code 30 = .ok (.putfield 237, 3) := by decide +kernel
theorem dR_opens_33 : decode prog_14_method_45_code 33 = .ok (.aload_n 0, 1) := by decide +kernel
theorem dR_opens_34 : decode prog_14_method_45_code 34 = .ok (.iconst 0, 1) := by decide +kernel
theorem dR_opens_35 : decode prog_14_method_45_code 35 = .ok (.putfield 174, 3) := by decide +kernel
theorem dR_opens_38 : decode prog_14_method_45_code 38 = .ok (.aload_n 0, 1) := by decide +kernel
theorem dR_opens_39 : decode prog_14_method_45_code 39 = .ok (.iconst 0, 1) := by decide +kernel
theorem dR_opens_40 : decode prog_14_method_45_code 40 = .ok (.putfield 221, 3) := by decide +kernel
theorem dR_opens_43 : decode prog_14_method_45_code 43 = .ok (.aload_n 0, 1) := by decide +kernel
theorem dR_opens_44 : decode prog_14_method_45_code 44 = .ok (.invokevirtual 231, 3) := by decide +kernel
theorem dR_opens_47 : decode prog_14_method_45_code 47 = .ok (.iconst 1, 1) := by decide +kernel
theorem dR_opens_48 : decode prog_14_method_45_code 48 = .ok (.ireturn, 1) := by decide +kernel
theorem t_R_opens {d : Nat} {x1 x2 : Int} {σ : SG} {Q : Int → SG → Prop} (h : inI x1 → inI x2 → ((x1 < 0 → Tri d M_R_no [vA 161, vI 5] σ (fun r2 σ2 => (r2 = 0 ∨ r2 = 1) ∧ Q r2 σ2)) ∧ (0 ≤ x1 → (σ 161 8 < x1 → Tri d M_R_no [vA 161, vI 5] σ (fun r4 σ4 => (r4 = 0 ∨ r4 = 1) ∧ Q r4 σ4)) ∧ (x1 ≤ σ 161 8 → (x1 ≤ x2 → (∀ σ6, σ6 = up σ 161 9 x1 → (∀ σ7, σ7 = up σ6 161 8 0 → (∀ σ8, σ8 = up σ7 161 16 0 → (∀ σ9, σ9 = up σ8 161 12 0 → Tri d M_R_next [vA 161] σ9 (fun r10 σ10 => Q 1 σ10)))))) ∧ (x2 < x1 → Tri d M_R_no [vA 161, vI 5] σ (fun r11 σ11 => (r11 = 0 ∨ r11 = 1) ∧ Q r11 σ11)))))) : Tri (d + 1) M_R_opens [vA 161, vI x1, vI x2] σ Q :=
  Tri_intro rfl (Nat.le_of_ble_eq_true rfl) (ls := [vA 161, vI x1, vI x2]) rfl (fun hok => L_iload_n dR_opens_0 rfl (L_if_lt dR_opens_1 (by decide) ⟨fun c1 => L_aload_n dR_opens_17 rfl (L_iconst dR_opens_18 in_5 (L_callVI rfl cv_R_no (As := [vI 5]) rfl (tk7 188 rfl rfl) rfl (Nat.le_of_ble_eq_true rfl) dR_opens_19 ⟨ob_161, Tri.mono ((h (hok _ (List.mem_of_getElem? (i := 1) rfl)) (hok _ (List.mem_of_getElem? (i := 2) rfl))).1 c1) (fun r2 σ2 q2 => L_zreturn rfl dR_opens_22 q2)⟩)), fun c1 => L_iload_n dR_opens_4 rfl (L_aload_n dR_opens_5 rfl (L_getf fw_R_237 rfl dR_opens_6 ⟨ob_161, L_icmp_gt dR_opens_9 (by decide) ⟨fun c3 => L_aload_n dR_opens_17 rfl (L_iconst dR_opens_18 in_5 (L_callVI rfl cv_R_no (As := [vI 5]) rfl (tk7 188 rfl rfl) rfl (Nat.le_of_ble_eq_true rfl) dR_opens_19 ⟨ob_161, Tri.mono (((h (hok _ (List.mem_of_getElem? (i := 1) rfl)) (hok _ (List.mem_of_getElem? (i := 2) rfl))).2 c1).1 c3) (fun r4 σ4 q4 => L_zreturn rfl dR_opens_22 q4)⟩)), fun c3 => L_iload_n dR_opens_12 rfl (L_iload_n dR_opens_13 rfl (L_icmp_le dR_opens_14 (by decide) ⟨fun c5 => L_aload_n dR_opens_23 rfl (L_iload_n dR_opens_24 rfl (L_putfN fp_R_171 rfl rfl (fun _ => ⟨rfl, rfl⟩) dR_opens_25 ⟨ob_161, fun σ6 e6 => L_aload_n dR_opens_28 rfl (L_iconst dR_opens_29 in_0 (L_putfN fp_R_237 rfl rfl (fun _ => ⟨rfl, rfl⟩) dR_opens_30 ⟨ob_161, fun σ7 e7 => L_aload_n dR_opens_33 rfl (L_iconst dR_opens_34 in_0 (L_putfN fp_R_174 rfl rfl (fun _ => ⟨rfl, rfl⟩) dR_opens_35 ⟨ob_161, fun σ8 e8 => L_aload_n dR_opens_38 rfl (L_iconst dR_opens_39 in_0 (L_putfN fp_R_221 rfl rfl (fun _ => ⟨rfl, rfl⟩) dR_opens_40 ⟨ob_161, fun σ9 e9 => L_aload_n dR_opens_43 rfl (L_callVV rfl cv_R_next (As := []) rfl (tk7 236 rfl rfl) rfl (Nat.le_of_ble_eq_true rfl) dR_opens_44 ⟨ob_161, Tri.mono ((((((((h (hok _ (List.mem_of_getElem? (i := 1) rfl)) (hok _ (List.mem_of_getElem? (i := 2) rfl))).2 c1).2 c3).1 c5) σ6 e6) σ7 e7) σ8 e8) σ9 e9) (fun r10 σ10 q10 => L_iconst dR_opens_47 in_1 (L_zreturn1 rfl dR_opens_48 q10))⟩)⟩))⟩))⟩))⟩)), fun c5 => L_aload_n dR_opens_17 rfl (L_iconst dR_opens_18 in_5 (L_callVI rfl cv_R_no (As := [vI 5]) rfl (tk7 188 rfl rfl) rfl (Nat.le_of_ble_eq_true rfl) dR_opens_19 ⟨ob_161, Tri.mono ((((h (hok _ (List.mem_of_getElem? (i := 1) rfl)) (hok _ (List.mem_of_getElem? (i := 2) rfl))).2 c1).2 c3).2 c5) (fun r11 σ11 q11 => L_zreturn rfl dR_opens_22 q11)⟩))⟩))⟩⟩))⟩))
theorem dR_isWell_0 : decode prog_14_method_46_code 0 = .ok (.aload_n 0, 1) := by decide +kernel
theorem dR_isWell_1 : decode prog_14_method_46_code 1 = .ok (.aload_n 0, 1) := by decide +kernel
theorem dR_isWell_2 : decode prog_14_method_46_code 2 = .ok (.getfield 221, 3) := by decide +kernel
theorem dR_isWell_5 : decode prog_14_method_46_code 5 = .ok (.putfield 28, 3) := by decide +kernel
theorem dR_isWell_8 : decode prog_14_method_46_code 8 = .ok (.aload_n 0, 1) := by decide +kernel
theorem dR_isWell_9 : decode prog_14_method_46_code 9 = .ok (.aload_n 0, 1) := by decide +kernel
theorem dR_isWell_10 : decode prog_14_method_46_code 10 = .ok (.getfield 221, 3) := by decide +kernel
theorem dR_isWell_13 : decode prog_14_method_46_code 13 = .ok (.ifCond .ne 7, 3) := by decide +kernel
theorem dR_isWell_16 : decode prog_14_method_46_code 16 = .ok (.iconst (-1), 1) := by decide +kernel
theorem dR_isWell_17 : decode prog_14_method_46_code 17 = .ok (.goto 7, 3) := by decide +kernel
theorem dR_isWell_20 : decode prog_14_method_46_code 20 = .ok (.aload_n 0, 1) := by decide +kernel
theorem dR_isWell_21 : decode prog_14_method_46_code 21 = .ok (.getfield 224, 3) := by decide +kernel
theorem dR_isWell_24 : decode prog_14_method_46_code 24 = .ok (.putfield 32, 3) := by decide +kernel
theorem dR_isWell_27 : decode prog_14_method_46_code 27 = .ok (.aload_n 0, 1) := by decide +kernel
theorem dR_isWell_28 : decode prog_14_method_46_code 28 = .ok (.getfield 221, 3) := by decide +kernel
theorem dR_isWell_31 : decode prog_14_method_46_code 31 = .ok (.ifCond .eq 12, 3) := by decide +kernel
theorem dR_isWell_34 : decode prog_14_method_46_code 34 = .ok (.aload_n 0, 1) := by decide +kernel
theorem dR_isWell_35 : decode prog_14_method_46_code 35 = .ok (.bipush 10, 2) := by decide +kernel
theorem dR_isWell_37 : decode prog_14_method_46_code 37 = .ok (.invokevirtual 147, 3) := by decide +kernel
theorem dR_isWell_40 : decode prog_14_method_46_code 40 = .ok (.ifCond .eq 7, 3) := by decide +kernel
theorem dR_isWell_43 : decode prog_14_method_46_code 43 = .ok (.iconst 1, 1) := by decide +kernel
theorem dR_isWell_44 : decode prog_14_method_46_code 44 = .ok (.goto 4, 3) := by decide +kernel
theorem dR_isWell_47 : decode prog_14_method_46_code 47 = .ok (.iconst 0, 1) := by decide +kernel
theorem dR_isWell_48 : decode prog_14_method_46_code 48 = .ok (.ireturn, 1) := by decide +kernel
theorem t_R_isWell {d : Nat} {σ : SG} {Q : Int → SG → Prop} (h : (∀ σ1, σ1 = up σ 161 10 (σ 161 12) → (σ1 161 12 ≠ 0 → L (d + 1) M_R_isWell 24 [vA 161] [vI (σ1 161 13), vA 161] σ1 Q) ∧ (σ1 161 12 = 0 → L (d + 1) M_R_isWell 24 [vA 161] [vI (-1), vA 161] σ1 Q))) : Tri (d + 1) M_R_isWell [vA 161] σ Q :=
  Tri_intro rfl (Nat.le_of_ble_eq_true rfl) (ls := [vA 161]) rfl (fun hok => L_aload_n dR_isWell_0 rfl (L_aload_n dR_isWell_1 rfl (L_getf fw_R_221 rfl dR_isWell_2 ⟨ob_161, L_putfN fp_R_28 rfl rfl (fun _ => ⟨rfl, rfl⟩) dR_isWell_5 ⟨ob_161, fun σ1 e1 => L_aload_n dR_isWell_8 rfl (L_aload_n dR_isWell_9 rfl (L_getf fw_R_221 rfl dR_isWell_10 ⟨ob_161, L_if_ne dR_isWell_13 (by decide) ⟨fun c2 => L_aload_n dR_isWell_20 rfl (L_getf fw_R_224 rfl dR_isWell_21 ⟨ob_161, ((h σ1 e1).1 c2)⟩), fun c2 => L_iconst dR_isWell_16 in_m1 (L_goto dR_isWell_17 (by decide) ((h σ1 e1).2 c2))⟩⟩))⟩⟩)))
theorem s_R_isWell_24 {d : Nat} {y0 : Int} {σ : SG} {Q : Int → SG → Prop} (h : (∀ σ1, σ1 = up σ 161 11 y0 → (σ1 161 12 = 0 → Q 1 σ1) ∧ (σ1 161 12 ≠ 0 → Tri d M_R_no [vA 161, vI 10] σ1 (fun r3 σ3 => (r3 = 0 → Q 0 σ3) ∧ (r3 ≠ 0 → Q 1 σ3))))) : L (d + 1) M_R_isWell 24 [vA 161] [vI y0, vA 161] σ Q :=
  L_putfN fp_R_32 rfl rfl (fun _ => ⟨rfl, rfl⟩) dR_isWell_24 ⟨ob_161, fun σ1 e1 => L_aload_n dR_isWell_27 rfl (L_getf fw_R_221 rfl dR_isWell_28 ⟨ob_161, L_if_eq dR_isWell_31 (by decide) ⟨fun c2 => L_iconst dR_isWell_43 in_1 (L_goto dR_isWell_44 (by decide) (L_zreturn1 rfl dR_isWell_48 ((h σ1 e1).1 c2))), fun c2 => L_aload_n dR_isWell_34 rfl (L_bipush dR_isWell_35 bp_10 in_10 (L_callVI rfl cv_R_no (As := [vI 10]) rfl (tk7 188 rfl rfl) rfl (Nat.le_of_ble_eq_true rfl) dR_isWell_37 ⟨ob_161, Tri.mono ((h σ1 e1).2 c2) (fun r3 σ3 q3 => L_if_eq dR_isWell_40 (by decide) ⟨fun c4 => L_iconst dR_isWell_47 in_0 (L_zreturn0 rfl dR_isWell_48 (q3.1 c4)), fun c4 => L_iconst dR_isWell_43 in_1 (L_goto dR_isWell_44 (by decide) (L_zreturn1 rfl dR_isWell_48 (q3.2 c4)))⟩)⟩))⟩⟩)⟩
theorem dR_fault_0 : decode prog_14_method_47_code 0 = .ok (.aload_n 0, 1) := by decide +kernel
theorem dR_fault_1 : decode prog_14_method_47_code 1 = .ok (.iconst 0, 1) := by decide +kernel
theorem dR_fault_2 : decode prog_14_method_47_code 2 = .ok (.putfield 132, 3) := by decide +kernel
theorem dR_fault_5 : decode prog_14_method_47_code 5 = .ok (.iload_n 1, 1) := by decide +kernel
theorem dR_fault_6 : decode prog_14_method_47_code 6 = .ok (.ifCond .ne 10, 3) := by decide +kernel
theorem dR_fault_9 : decode prog_14_method_47_code 9 = .ok (.aload_n 0, 1) := by decide +kernel
theorem dR_fault_10 : decode prog_14_method_47_code 10 = .ok (.getfield 28, 3) := by decide +kernel
theorem dR_fault_13 : decode prog_14_method_47_code 13 = .ok (.goto 16, 3) := by decide +kernel
theorem dR_fault_16 : decode prog_14_method_47_code 16 = .ok (.iload_n 1, 1) := by decide +kernel
theorem dR_fault_17 : decode prog_14_method_47_code 17 = .ok (.iconst 1, 1) := by decide +kernel
theorem dR_fault_18 : decode prog_14_method_47_code 18 = .ok (.if_icmp .ne 10, 3) := by decide +kernel
theorem dR_fault_21 : decode prog_14_method_47_code 21 = .ok (.aload_n 0, 1) := by decide +kernel
theorem dR_fault_22 : decode prog_14_method_47_code 22 = .ok (.getfield 32, 3) := by decide +kernel
theorem dR_fault_25 : decode prog_14_method_47_code 25 = .ok (.goto 4, 3) := by decide +kernel
theorem dR_fault_28 : decode prog_14_method_47_code 28 = .ok (.iconst (-1), 1) := by decide +kernel
theorem dR_fault_29 : decode prog_14_method_47_code 29 = .ok (.ireturn, 1) := by decide +kernel
theorem t_R_fault {d : Nat} {x1 : Int} {σ : SG} {Q : Int → SG → Prop} (h : inI x1 → ((∀ σ1, σ1 = up σ 161 1 0 → (x1 ≠ 0 → (x1 ≠ 1 → Q (-1) σ1) ∧ (x1 = 1 → Q (σ1 161 11) σ1)) ∧ (x1 = 0 → Q (σ1 161 10) σ1)))) : Tri (d + 1) M_R_fault [vA 161, vI x1] σ Q :=
  Tri_intro rfl (Nat.le_of_ble_eq_true rfl) (ls := [vA 161, vI x1]) rfl (fun hok => L_aload_n dR_fault_0 rfl (L_iconst dR_fault_1 in_0 (L_putfN fp_R_132 rfl rfl (fun _ => ⟨rfl, rfl⟩) dR_fault_2 ⟨ob_161, fun σ1 e1 => L_iload_n dR_fault_5 rfl (L_if_ne dR_fault_6 (by decide) ⟨fun c2 => L_iload_n dR_fault_16 rfl (L_iconst dR_fault_17 in_1 (L_icmp_ne dR_fault_18 (by decide) ⟨fun c3 => L_iconst dR_fault_28 in_m1 (L_ireturn rfl dR_fault_29 ((((h (hok _ (List.mem_of_getElem? (i := 1) rfl))) σ1 e1).1 c2).1 c3)), fun c3 => L_aload_n dR_fault_21 rfl (L_getf fw_R_32 rfl dR_fault_22 ⟨ob_161, L_goto dR_fault_25 (by decide) (L_ireturn rfl dR_fault_29 ((((h (hok _ (List.mem_of_getElem? (i := 1) rfl))) σ1 e1).1 c2).2 c3))⟩)⟩)), fun c2 => L_aload_n dR_fault_9 rfl (L_getf fw_R_28 rfl dR_fault_10 ⟨ob_161, L_goto dR_fault_13 (by decide) (L_ireturn rfl dR_fault_29 (((h (hok _ (List.mem_of_getElem? (i := 1) rfl))) σ1 e1).2 c2))⟩)⟩)⟩)))
theorem dR_greatest_0 : decode prog_14_method_48_code 0 = .ok (.iload_n 0, 1) := by decide +kernel
theorem dR_greatest_1 : decode prog_14_method_48_code 1 = .ok (.iconst 5, 1) := by decide +kernel
theorem dR_greatest_2 : decode prog_14_method_48_code 2 = .ok (.if_icmp .ne 7, 3) := by decide +kernel
theorem dR_greatest_5 : decode prog_14_method_48_code 5 = .ok (.iconst 4, 1) := by decide +kernel
theorem dR_greatest_6 : decode prog_14_method_48_code 6 = .ok (.goto 14, 3) := by decide +kernel
theorem dR_greatest_9 : decode prog_14_method_48_code 9 = .ok (.iload_n 0, 1) := by decide +kernel
theorem dR_greatest_10 : decode prog_14_method_48_code 10 = .ok (.bipush 7, 2) := by decide +kernel
theorem dR_greatest_12 : decode prog_14_method_48_code 12 = .ok (.if_icmp .ne 7, 3) := by decide +kernel
theorem dR_greatest_15 : decode prog_14_method_48_code 15 = .ok (.iconst 3, 1) := by decide +kernel
theorem dR_greatest_16 : decode prog_14_method_48_code 16 = .ok (.goto 4, 3) := by decide +kernel
theorem dR_greatest_19 : decode prog_14_method_48_code 19 = .ok (.iconst 5, 1) := by decide +kernel
theorem dR_greatest_20 : decode prog_14_method_48_code 20 = .ok (.ireturn, 1) := by decide +kernel
theorem t_R_greatest {d : Nat} {x0 : Int} {σ : SG} {Q : Int → SG → Prop} (h : inI x0 → ((x0 ≠ 5 → (x0 ≠ 7 → Q 5 σ) ∧ (x0 = 7 → Q 3 σ)) ∧ (x0 = 5 → Q 4 σ))) : Tri (d + 1) M_R_greatest [vI x0] σ Q :=
  Tri_intro rfl (Nat.le_of_ble_eq_true rfl) (ls := [vI x0]) rfl (fun hok => L_iload_n dR_greatest_0 rfl (L_iconst dR_greatest_1 in_5 (L_icmp_ne dR_greatest_2 (by decide) ⟨fun c1 => L_iload_n dR_greatest_9 rfl (L_bipush dR_greatest_10 bp_7 in_7 (L_icmp_ne dR_greatest_12 (by decide) ⟨fun c2 => L_iconst dR_greatest_19 in_5 (L_ireturn rfl dR_greatest_20 (((h (hok _ (List.mem_of_getElem? (i := 0) rfl))).1 c1).1 c2)), fun c2 => L_iconst dR_greatest_15 in_3 (L_goto dR_greatest_16 (by decide) (L_ireturn rfl dR_greatest_20 (((h (hok _ (List.mem_of_getElem? (i := 0) rfl))).1 c1).2 c2)))⟩)), fun c1 => L_iconst dR_greatest_5 in_4 (L_goto dR_greatest_6 (by decide) (L_ireturn rfl dR_greatest_20 ((h (hok _ (List.mem_of_getElem? (i := 0) rfl))).2 c1)))⟩)))
theorem dR_ask_0 : decode prog_14_method_49_code 0 = .ok (.aload_n 0, 1) := by decide +kernel
theorem dR_ask_1 : decode prog_14_method_49_code 1 = .ok (.aload_n 1, 1) := by decide +kernel
theorem dR_ask_2 : decode prog_14_method_49_code 2 = .ok (.putfield 244, 3) := by decide +kernel
theorem dR_ask_5 : decode prog_14_method_49_code 5 = .ok (.aload_n 0, 1) := by decide +kernel
theorem dR_ask_6 : decode prog_14_method_49_code 6 = .ok (.iload_n 2, 1) := by decide +kernel
theorem dR_ask_7 : decode prog_14_method_49_code 7 = .ok (.putfield 247, 3) := by decide +kernel
theorem dR_ask_10 : decode prog_14_method_49_code 10 = .ok (.aload_n 0, 1) := by decide +kernel
theorem dR_ask_11 : decode prog_14_method_49_code 11 = .ok (.aload_n 1, 1) := by decide +kernel
theorem dR_ask_12 : decode prog_14_method_49_code 12 = .ok (.iload_n 2, 1) := by decide +kernel
theorem dR_ask_13 : decode prog_14_method_49_code 13 = .ok (.iaload, 1) := by decide +kernel
theorem dR_ask_14 : decode prog_14_method_49_code 14 = .ok (.putfield 250, 3) := by decide +kernel
theorem dR_ask_17 : decode prog_14_method_49_code 17 = .ok (.aload_n 0, 1) := by decide +kernel
theorem dR_ask_18 : decode prog_14_method_49_code 18 = .ok (.aload_n 1, 1) := by decide +kernel
theorem dR_ask_19 : decode prog_14_method_49_code 19 = .ok (.iload_n 2, 1) := by decide +kernel
theorem dR_ask_20 : decode prog_14_method_49_code 20 = .ok (.iconst 1, 1) := by decide +kernel
theorem dR_ask_21 : decode prog_14_method_49_code 21 = .ok (.iadd, 1) := by decide +kernel
theorem dR_ask_22 : decode prog_14_method_49_code 22 = .ok (.iaload, 1) := by decide +kernel
theorem dR_ask_23 : decode prog_14_method_49_code 23 = .ok (.putfield 253, 3) := by decide +kernel
theorem dR_ask_26 : decode prog_14_method_49_code 26 = .ok (.return_, 1) := by decide +kernel
theorem t_R_ask {d : Nat} {x1 x2 : Int} {σ : SG} {Q : Int → SG → Prop} (h : inI x2 → ((∀ σ1, σ1 = up σ 161 24 x1 → (∀ σ2, σ2 = up σ1 161 25 x2 → rdok 100 x1 x2 ∧ (∀ σ3, σ3 = up σ2 161 26 (σ2 x1 x2) → rdok 100 x1 (w32 (x2 + 1)) ∧ (∀ σ4, σ4 = up σ3 161 27 (σ3 x1 (w32 (x2 + 1))) → Q 0 σ4)))))) : Tri (d + 1) M_R_ask [vA 161, vA x1, vI x2] σ Q :=
  Tri_intro rfl (Nat.le_of_ble_eq_true rfl) (ls := [vA 161, vA x1, vI x2]) rfl (fun hok => L_aload_n dR_ask_0 rfl (L_aload_n dR_ask_1 rfl (L_putfN fp_R_244 rfl rfl fit_a dR_ask_2 ⟨ob_161, fun σ1 e1 => L_aload_n dR_ask_5 rfl (L_iload_n dR_ask_6 rfl (L_putfN fp_R_247 rfl rfl (fun _ => ⟨rfl, rfl⟩) dR_ask_7 ⟨ob_161, fun σ2 e2 => L_aload_n dR_ask_10 rfl (L_aload_n dR_ask_11 rfl (L_iload_n dR_ask_12 rfl (L_iaload dR_ask_13 ⟨(((h (hok _ (List.mem_of_getElem? (i := 2) rfl))) σ1 e1) σ2 e2).1, L_putfN fp_R_250 rfl rfl (fun _ => ⟨rfl, rfl⟩) dR_ask_14 ⟨ob_161, fun σ3 e3 => L_aload_n dR_ask_17 rfl (L_aload_n dR_ask_18 rfl (L_iload_n dR_ask_19 rfl (L_iconst dR_ask_20 in_1 (L_iadd dR_ask_21 (L_iaload dR_ask_22 ⟨((((h (hok _ (List.mem_of_getElem? (i := 2) rfl))) σ1 e1) σ2 e2).2 σ3 e3).1, L_putfN fp_R_253 rfl rfl (fun _ => ⟨rfl, rfl⟩) dR_ask_23 ⟨ob_161, fun σ4 e4 => L_return rfl dR_ask_26 (((((h (hok _ (List.mem_of_getElem? (i := 2) rfl))) σ1 e1) σ2 e2).2 σ3 e3).2 σ4 e4)⟩⟩)))))⟩⟩)))⟩))⟩)))
theorem dR_askNow_0 : decode prog_14_method_50_code 0 = .ok (.aload_n 0, 1) := by decide +kernel
theorem dR_askNow_1 : decode prog_14_method_50_code 1 = .ok (.aload_n 0, 1) := by decide +kernel
theorem dR_askNow_2 : decode prog_14_method_50_code 2 = .ok (.getfield 35, 3) := by decide +kernel
theorem dR_askNow_5 : decode prog_14_method_50_code 5 = .ok (.iconst 0, 1) := by decide +kernel
theorem dR_askNow_6 : decode prog_14_method_50_code 6 = .ok (.invokevirtual 256, 3) := by decide +kernel
theorem dR_askNow_9 : decode prog_14_method_50_code 9 = .ok (.return_, 1) := by decide +kernel
theorem t_R_askNow {d : Nat} {σ : SG} {Q : Int → SG → Prop} (h : Tri d M_R_ask [vA 161, vA 166, vI 0] σ (fun r1 σ1 => Q 0 σ1)) : Tri (d + 1) M_R_askNow [vA 161] σ Q :=
  Tri_intro rfl (Nat.le_of_ble_eq_true rfl) (ls := [vA 161]) rfl (fun hok => L_aload_n dR_askNow_0 rfl (L_aload_n dR_askNow_1 rfl (L_getF (b := 166) fw_R_35 rfl rfl (by decide) dR_askNow_2 ⟨ob_161, L_iconst dR_askNow_5 in_0 (L_callVV rfl cv_R_ask (As := [vA 166, vI 0]) rfl (tk8 112 rfl rfl) rfl (Nat.le_of_ble_eq_true rfl) dR_askNow_6 ⟨ob_161, Tri.mono (h) (fun r1 σ1 q1 => L_return rfl dR_askNow_9 q1)⟩)⟩)))
theorem dR_cell_0 : decode prog_14_method_51_code 0 = .ok (.iconst 2, 1) := by decide +kernel
theorem dR_cell_1 : decode prog_14_method_51_code 1 = .ok (.bipush 25, 2) := by decide +kernel
theorem dR_cell_3 : decode prog_14_method_51_code 3 = .ok (.iload_n 0, 1) := by decide +kernel
theorem dR_cell_4 : decode prog_14_method_51_code 4 = .ok (.imul, 1) := by decide +kernel
theorem dR_cell_5 : decode prog_14_method_51_code 5 = .ok (.iadd, 1) := by decide +kernel
theorem dR_cell_6 : decode prog_14_method_51_code 6 = .ok (.iconst 5, 1) := by decide +kernel
theorem dR_cell_7 : decode prog_14_method_51_code 7 = .ok (.iload_n 1, 1) := by decide +kernel
theorem dR_cell_8 : decode prog_14_method_51_code 8 = .ok (.imul, 1) := by decide +kernel
theorem dR_cell_9 : decode prog_14_method_51_code 9 = .ok (.iadd, 1) := by decide +kernel
theorem dR_cell_10 : decode prog_14_method_51_code 10 = .ok (.iload_n 2, 1) := by decide +kernel
theorem dR_cell_11 : decode prog_14_method_51_code 11 = .ok (.iadd, 1) := by decide +kernel
theorem dR_cell_12 : decode prog_14_method_51_code 12 = .ok (.ireturn, 1) := by decide +kernel
theorem t_R_cell {d : Nat} {x0 x1 x2 : Int} {σ : SG} {Q : Int → SG → Prop} (h : inI x0 → inI x1 → inI x2 → (Q (w32 ((w32 ((w32 (2 + (w32 (25 * x0)))) + (w32 (5 * x1)))) + x2)) σ)) : Tri (d + 1) M_R_cell [vI x0, vI x1, vI x2] σ Q :=
  Tri_intro rfl (Nat.le_of_ble_eq_true rfl) (ls := [vI x0, vI x1, vI x2]) rfl (fun hok => L_iconst dR_cell_0 in_2 (L_bipush dR_cell_1 bp_25 in_25 (L_iload_n dR_cell_3 rfl (L_imul dR_cell_4 (L_iadd dR_cell_5 (L_iconst dR_cell_6 in_5 (L_iload_n dR_cell_7 rfl (L_imul dR_cell_8 (L_iadd dR_cell_9 (L_iload_n dR_cell_10 rfl (L_iadd dR_cell_11 (L_ireturn rfl dR_cell_12 ((h (hok _ (List.mem_of_getElem? (i := 0) rfl)) (hok _ (List.mem_of_getElem? (i := 1) rfl)) (hok _ (List.mem_of_getElem? (i := 2) rfl))))))))))))))))
theorem dR_table_0 : decode prog_14_method_52_code 0 = .ok (.aload_n 0, 1) := by decide +kernel
theorem dR_table_1 : decode prog_14_method_52_code 1 = .ok (.getfield 244, 3) := by decide +kernel
theorem dR_table_4 : decode prog_14_method_52_code 4 = .ok (.aload_n 0, 1) := by decide +kernel
theorem dR_table_5 : decode prog_14_method_52_code 5 = .ok (.getfield 247, 3) := by decide +kernel
theorem dR_table_8 : decode prog_14_method_52_code 8 = .ok (.iload_n 1, 1) := by decide +kernel
theorem dR_table_9 : decode prog_14_method_52_code 9 = .ok (.iload_n 2, 1) := by decide +kernel
theorem dR_table_10 : decode prog_14_method_52_code 10 = .ok (.iload_n 3, 1) := by decide +kernel
theorem dR_table_11 : decode prog_14_method_52_code 11 = .ok (.invokestatic 260, 3) := by decide +kernel
theorem dR_table_14 : decode prog_14_method_52_code 14 = .ok (.iadd, 1) := by decide +kernel
theorem dR_table_15 : decode prog_14_method_52_code 15 = .ok (.iaload, 1) := by decide +kernel
theorem dR_table_16 : decode prog_14_method_52_code 16 = .ok (.ireturn, 1) := by decide +kernel
theorem t_R_table {d : Nat} {x1 x2 x3 : Int} {σ : SG} {Q : Int → SG → Prop} (h : inI x1 → inI x2 → inI x3 → (Tri d M_R_cell [vI x1, vI x2, vI x3] σ (fun r1 σ1 => rdok 100 (σ 161 24) (w32 ((σ 161 25) + r1)) ∧ Q (σ1 (σ 161 24) (w32 ((σ 161 25) + r1))) σ1))) : Tri (d + 1) M_R_table [vA 161, vI x1, vI x2, vI x3] σ Q :=
  Tri_intro rfl (Nat.le_of_ble_eq_true rfl) (ls := [vA 161, vI x1, vI x2, vI x3]) rfl (fun hok => L_aload_n dR_table_0 rfl (L_getf fw_R_244 rfl dR_table_1 ⟨ob_161, L_aload_n dR_table_4 rfl (L_getf fw_R_247 rfl dR_table_5 ⟨ob_161, L_iload_n dR_table_8 rfl (L_iload_n dR_table_9 rfl (L_iload_n dR_table_10 rfl (L_callSI rfl cs_R_cell (As := [vI x1, vI x2, vI x3]) rfl (tk8 75 rfl rfl) rfl (Nat.le_of_ble_eq_true rfl) dR_table_11 (Tri.mono ((h (hok _ (List.mem_of_getElem? (i := 1) rfl)) (hok _ (List.mem_of_getElem? (i := 2) rfl)) (hok _ (List.mem_of_getElem? (i := 3) rfl)))) (fun r1 σ1 q1 => L_iadd dR_table_14 (L_iaload dR_table_15 ⟨q1.1, L_ireturn rfl dR_table_16 q1.2⟩))))))⟩)⟩))
