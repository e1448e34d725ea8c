theorem dMa_look_0 : decode prog_5_method_2_code 0 = .ok (.aload_n 0, 1) := by decide +kernel
theorem dMa_look_1 : decode prog_5_method_2_code 1 = .ok (.iconst 0, 1) := by decide +kernel
theorem dMa_look_2 : decode prog_5_method_2_code 2 = .ok (.putfield 46, 3) := by decide +kernel
theorem dMa_look_5 : decode prog_5_method_2_code 5 = .ok (.aload_n 0, 1) := by decide +kernel
theorem dMa_look_6 : decode prog_5_method_2_code 6 = .ok (.iconst 0, 1) := by decide +kernel
theorem dMa_look_7 : decode prog_5_method_2_code 7 = .ok (.putfield 50, 3) := by decide +kernel
theorem dMa_look_10 : decode prog_5_method_2_code 10 = .ok (.aload_n 0, 1) := by decide +kernel
theorem dMa_look_11 : decode prog_5_method_2_code 11 = .ok (.iconst 0, 1) := by decide +kernel
theorem dMa_look_12 : decode prog_5_method_2_code 12 = .ok (.putfield 53, 3) := by decide +kernel
theorem dMa_look_15 : decode prog_5_method_2_code 15 = .ok (.aload_n 1, 1) := by decide +kernel
theorem dMa_look_16 : decode prog_5_method_2_code 16 = .ok (.aload_n 2, 1) := by decide +kernel
theorem dMa_look_17 : decode prog_5_method_2_code 17 = .ok (.invokevirtual 57, 3) := by decide +kernel
theorem dMa_look_20 : decode prog_5_method_2_code 20 = .ok (.ifCond .ne 5, 3) := by decide +kernel
theorem dMa_look_23 : decode prog_5_method_2_code 23 = .ok (.iconst 0, 1) := by decide +kernel
theorem dMa_look_24 : decode prog_5_method_2_code 24 = .ok (.ireturn, 1) := by decide +kernel
theorem dMa_look_25 : decode prog_5_method_2_code 25 = .ok (.aload_n 0, 1) := by decide +kernel
theorem dMa_look_26 : decode prog_5_method_2_code 26 = .ok (.aload_n 1, 1) := by decide +kernel
theorem dMa_look_27 : decode prog_5_method_2_code 27 = .ok (.invokevirtual 61, 3) := by decide +kernel
theorem dMa_look_30 : decode prog_5_method_2_code 30 = .ok (.aload_n 2, 1) := by decide +kernel
theorem dMa_look_31 : decode prog_5_method_2_code 31 = .ok (.invokevirtual 65, 3) := by decide +kernel
theorem dMa_look_34 : decode prog_5_method_2_code 34 = .ok (.iconst 1, 1) := by decide +kernel
theorem dMa_look_35 : decode prog_5_method_2_code 35 = .ok (.isub, 1) := by decide +kernel
theorem dMa_look_36 : decode prog_5_method_2_code 36 = .ok (.istore 4, 2) := by decide +kernel
theorem dMa_look_38 : decode prog_5_method_2_code 38 = .ok (.iconst 0, 1) := by decide +kernel
theorem dMa_look_39 : decode prog_5_method_2_code 39 = .ok (.istore 5, 2) := by decide +kernel
theorem dMa_look_41 : decode prog_5_method_2_code 41 = .ok (.aload_n 0, 1) := by decide +kernel
theorem dMa_look_42 : decode prog_5_method_2_code 42 = .ok (.getfield 26, 3) := by decide +kernel
theorem dMa_look_45 : decode prog_5_method_2_code 45 = .ok (.iconst 0, 1) := by decide +kernel
theorem dMa_look_46 : decode prog_5_method_2_code 46 = .ok (.aaload, 1) := by decide +kernel
theorem dMa_look_47 : decode prog_5_method_2_code 47 = .ok (.aload_n 2, 1) := by decide +kernel
theorem dMa_look_48 : decode prog_5_method_2_code 48 = .ok (.getfield 69, 3) := by decide +kernel
theorem dMa_look_51 : decode prog_5_method_2_code 51 = .ok (.aload_n 2, 1) := by decide +kernel
theorem dMa_look_52 : decode prog_5_method_2_code 52 = .ok (.getfield 72, 3) := by decide +kernel
theorem dMa_look_55 : decode prog_5_method_2_code 55 = .ok (.invokevirtual 75, 3) := by decide +kernel
theorem dMa_look_58 : decode prog_5_method_2_code 58 = .ok (.aload_n 0, 1) := by decide +kernel
theorem dMa_look_59 : decode prog_5_method_2_code 59 = .ok (.iconst 0, 1) := by decide +kernel
theorem dMa_look_60 : decode prog_5_method_2_code 60 = .ok (.invokevirtual 79, 3) := by decide +kernel
theorem dMa_look_63 : decode prog_5_method_2_code 63 = .ok (.iconst 0, 1) := by decide +kernel
theorem dMa_look_64 : decode prog_5_method_2_code 64 = .ok (.istore 6, 2) := by decide +kernel
theorem dMa_look_66 : decode prog_5_method_2_code 66 = .ok (.iload 6, 2) := by decide +kernel
theorem dMa_look_68 : decode prog_5_method_2_code 68 = .ok (.ldc 82, 2) := by decide +kernel
theorem dMa_look_70 : decode prog_5_method_2_code 70 = .ok (.if_icmp .ge 132, 3) := by decide +kernel
theorem dMa_look_73 : decode prog_5_method_2_code 73 = .ok (.iload 5, 2) := by decide +kernel
theorem dMa_look_75 : decode prog_5_method_2_code 75 = .ok (.ifCond .lt 127, 3) := by decide +kernel
theorem dMa_look_78 : decode prog_5_method_2_code 78 = .ok (.aload_n 0, 1) := by decide +kernel
theorem dMa_look_79 : decode prog_5_method_2_code 79 = .ok (.getfield 21, 3) := by decide +kernel
theorem dMa_look_82 : decode prog_5_method_2_code 82 = .ok (.iload 5, 2) := by decide +kernel
theorem dMa_look_84 : decode prog_5_method_2_code 84 = .ok (.iaload, 1) := by decide +kernel
theorem dMa_look_85 : decode prog_5_method_2_code 85 = .ok (.iload 4, 2) := by decide +kernel
theorem dMa_look_87 : decode prog_5_method_2_code 87 = .ok (.if_icmp .lt 9, 3) := by decide +kernel
theorem dMa_look_90 : decode prog_5_method_2_code 90 = .ok (.iinc 5 (-1), 3) := by decide +kernel
theorem dMa_look_93 : decode prog_5_method_2_code 93 = .ok (.goto 103, 3) := by decide +kernel
theorem dMa_look_96 : decode prog_5_method_2_code 96 = .ok (.aload_n 0, 1) := by decide +kernel
theorem dMa_look_97 : decode prog_5_method_2_code 97 = .ok (.getfield 46, 3) := by decide +kernel
theorem dMa_look_100 : decode prog_5_method_2_code 100 = .ok (.ldc 83, 2) := by decide +kernel
theorem dMa_look_102 : decode prog_5_method_2_code 102 = .ok (.if_icmp .lt 11, 3) := by decide +kernel
theorem dMa_look_105 : decode prog_5_method_2_code 105 = .ok (.aload_n 0, 1) := by decide +kernel
theorem dMa_look_106 : decode prog_5_method_2_code 106 = .ok (.iconst 1, 1) := by decide +kernel
theorem dMa_look_107 : decode prog_5_method_2_code 107 = .ok (.putfield 53, 3) := by decide +kernel
theorem dMa_look_110 : decode prog_5_method_2_code 110 = .ok (.goto 92, 3) := by decide +kernel
theorem dMa_look_113 : decode prog_5_method_2_code 113 = .ok (.aload_n 0, 1) := by decide +kernel
theorem dMa_look_114 : decode prog_5_method_2_code 114 = .ok (.dup, 1) := by decide +kernel
theorem dMa_look_115 : decode prog_5_method_2_code 115 = .ok (.getfield 46, 3) := by decide +kernel
theorem dMa_look_118 : decode prog_5_method_2_code 118 = .ok (.iconst 1, 1) := by decide +kernel
theorem dMa_look_119 : decode prog_5_method_2_code 119 = .ok (.iadd, 1) := by decide +kernel
theorem dMa_look_120 : decode prog_5_method_2_code 120 = .ok (.putfield 46, 3) := by decide +kernel
theorem dMa_look_123 : decode prog_5_method_2_code 123 = .ok (.aload_n 0, 1) := by decide +kernel
theorem dMa_look_124 : decode prog_5_method_2_code 124 = .ok (.getfield 21, 3) := by decide +kernel
theorem dMa_look_127 : decode prog_5_method_2_code 127 = .ok (.iload 5, 2) := by decide +kernel
theorem dMa_look_129 : decode prog_5_method_2_code 129 = .ok (.dup2, 1) := by decide +kernel
theorem dMa_look_130 : decode prog_5_method_2_code 130 = .ok (.iaload, 1) := by decide +kernel
theorem dMa_look_131 : decode prog_5_method_2_code 131 = .ok (.iconst 1, 1) := by decide +kernel
theorem dMa_look_132 : decode prog_5_method_2_code 132 = .ok (.iadd, 1) := by decide +kernel
theorem dMa_look_133 : decode prog_5_method_2_code 133 = .ok (.iastore, 1) := by decide +kernel
theorem dMa_look_134 : decode prog_5_method_2_code 134 = .ok (.aload_n 0, 1) := by decide +kernel
theorem dMa_look_135 : decode prog_5_method_2_code 135 = .ok (.aload_n 2, 1) := by decide +kernel
theorem dMa_look_136 : decode prog_5_method_2_code 136 = .ok (.iload 5, 2) := by decide +kernel
theorem dMa_look_138 : decode prog_5_method_2_code 138 = .ok (.invokevirtual 84, 3) := by decide +kernel
theorem dMa_look_141 : decode prog_5_method_2_code 141 = .ok (.aload_n 0, 1) := by decide +kernel
theorem dMa_look_142 : decode prog_5_method_2_code 142 = .ok (.aload_n 1, 1) := by decide +kernel
theorem dMa_look_143 : decode prog_5_method_2_code 143 = .ok (.aload_n 2, 1) := by decide +kernel
theorem dMa_look_144 : decode prog_5_method_2_code 144 = .ok (.iload 5, 2) := by decide +kernel
theorem dMa_look_146 : decode prog_5_method_2_code 146 = .ok (.invokevirtual 88, 3) := by decide +kernel
theorem dMa_look_149 : decode prog_5_method_2_code 149 = .ok (.ifCond .ne 6, 3) := by decide +kernel
theorem dMa_look_152 : decode prog_5_method_2_code 152 = .ok (.goto 44, 3) := by decide +kernel
theorem dMa_look_155 : decode prog_5_method_2_code 155 = .ok (.iload 5, 2) := by decide +kernel
theorem dMa_look_157 : decode prog_5_method_2_code 157 = .ok (.iconst 1, 1) := by decide +kernel
theorem dMa_look_158 : decode prog_5_method_2_code 158 = .ok (.iadd, 1) := by decide +kernel
theorem dMa_look_159 : decode prog_5_method_2_code 159 = .ok (.aload_n 2, 1) := by decide +kernel
theorem dMa_look_160 : decode prog_5_method_2_code 160 = .ok (.getfield 72, 3) := by decide +kernel
theorem dMa_look_163 : decode prog_5_method_2_code 163 = .ok (.if_icmp .ge 16, 3) := by decide +kernel
theorem dMa_look_166 : decode prog_5_method_2_code 166 = .ok (.aload_n 0, 1) := by decide +kernel
theorem dMa_look_167 : decode prog_5_method_2_code 167 = .ok (.aload_n 2, 1) := by decide +kernel
theorem dMa_look_168 : decode prog_5_method_2_code 168 = .ok (.iload 5, 2) := by decide +kernel
theorem dMa_look_170 : decode prog_5_method_2_code 170 = .ok (.invokevirtual 92, 3) := by decide +kernel
theorem dMa_look_173 : decode prog_5_method_2_code 173 = .ok (.iinc 5 1, 3) := by decide +kernel
theorem dMa_look_176 : decode prog_5_method_2_code 176 = .ok (.goto 20, 3) := by decide +kernel
theorem dMa_look_179 : decode prog_5_method_2_code 179 = .ok (.aload_n 0, 1) := by decide +kernel
theorem dMa_look_180 : decode prog_5_method_2_code 180 = .ok (.dup, 1) := by decide +kernel
theorem dMa_look_181 : decode prog_5_method_2_code 181 = .ok (.getfield 50, 3) := by decide +kernel
theorem dMa_look_184 : decode prog_5_method_2_code 184 = .ok (.iconst 1, 1) := by decide +kernel
theorem dMa_look_185 : decode prog_5_method_2_code 185 = .ok (.iadd, 1) := by decide +kernel
theorem dMa_look_186 : decode prog_5_method_2_code 186 = .ok (.putfield 50, 3) := by decide +kernel
theorem dMa_look_189 : decode prog_5_method_2_code 189 = .ok (.iload_n 3, 1) := by decide +kernel
theorem dMa_look_190 : decode prog_5_method_2_code 190 = .ok (.ifCond .eq 6, 3) := by decide +kernel
theorem dMa_look_193 : decode prog_5_method_2_code 193 = .ok (.goto 9, 3) := by decide +kernel
theorem dMa_look_196 : decode prog_5_method_2_code 196 = .ok (.iinc 6 1, 3) := by decide +kernel
theorem dMa_look_199 : decode prog_5_method_2_code 199 = .ok (.goto (-133), 3) := by decide +kernel
theorem dMa_look_202 : decode prog_5_method_2_code 202 = .ok (.aload_n 0, 1) := by decide +kernel
theorem dMa_look_203 : decode prog_5_method_2_code 203 = .ok (.getfield 50, 3) := by decide +kernel
theorem dMa_look_206 : decode prog_5_method_2_code 206 = .ok (.ifCond .le 7, 3) := by decide +kernel
theorem dMa_look_209 : decode prog_5_method_2_code 209 = .ok (.iconst 1, 1) := by decide +kernel
theorem dMa_look_210 : decode prog_5_method_2_code 210 = .ok (.goto 4, 3) := by decide +kernel
theorem dMa_look_213 : decode prog_5_method_2_code 213 = .ok (.iconst 0, 1) := by decide +kernel
theorem dMa_look_214 : decode prog_5_method_2_code 214 = .ok (.ireturn, 1) := by decide +kernel
theorem t_Ma_look {d : Nat} {x1 x2 x3 : Int} {σ : SG} {Q : Int → SG → Prop} (h : inI x3 → ((∀ σ1, σ1 = up σ 78 0 0 → (∀ σ2, σ2 = up σ1 78 1 0 → (∀ σ3, σ3 = up σ2 78 2 0 → obok 10 x1 ∧ Tri d M_Wd_isLike [vA x1, vA x2] σ3 (fun r4 σ4 => (r4 ≠ 0 → Tri d M_Ma_noteDue [vA 78, vA x1] σ4 (fun r6 σ6 => obok 10 x2 ∧ Tri d M_Wd_vectors [vA x2] σ6 (fun r7 σ7 => rdok 106 83 0 ∧ obok 10 x2 ∧ obok 10 x2 ∧ Tri d M_Ec_begin [vA 89, vI (σ7 x2 1), vI (σ7 x2 2)] σ7 (fun r8 σ8 => Tri d M_Ma_startLevel [vA 78, vI 0] σ8 (fun r9 σ9 => L (d + 1) M_Ma_look 66 [vA 78, vA x1, vA x2, vI x3, vI (w32 (r7 - 1)), vI 0, vI 0] [] σ9 Q))))) ∧ (r4 = 0 → Q 0 σ4))))))) : Tri (d + 1) M_Ma_look [vA 78, vA x1, vA x2, vI x3] σ Q :=
  Tri_intro rfl (Nat.le_of_ble_eq_true rfl) (ls := [vA 78, vA x1, vA x2, vI x3, vU, vU, vU]) rfl (fun hok => L_aload_n dMa_look_0 rfl (L_iconst dMa_look_1 in_0 (L_putfN fp_Ma_46 rfl rfl (fun _ => ⟨rfl, rfl⟩) dMa_look_2 ⟨ob_78, fun σ1 e1 => L_aload_n dMa_look_5 rfl (L_iconst dMa_look_6 in_0 (L_putfN fp_Ma_50 rfl rfl (fun _ => ⟨rfl, rfl⟩) dMa_look_7 ⟨ob_78, fun σ2 e2 => L_aload_n dMa_look_10 rfl (L_iconst dMa_look_11 in_0 (L_putfN fp_Ma_53 rfl rfl (fit_z (by decide)) dMa_look_12 ⟨ob_78, fun σ3 e3 => L_aload_n dMa_look_15 rfl (L_aload_n dMa_look_16 rfl (L_callVI rfl cv_Wd_isLike (As := [vA x2]) rfl (tk5 178 rfl rfl) rfl (Nat.le_of_ble_eq_true rfl) dMa_look_17 ⟨((((h (hok _ (List.mem_of_getElem? (i := 3) rfl))) σ1 e1) σ2 e2) σ3 e3).1, Tri.mono (((((h (hok _ (List.mem_of_getElem? (i := 3) rfl))) σ1 e1) σ2 e2) σ3 e3).2) (fun r4 σ4 q4 => L_if_ne dMa_look_20 (by decide) ⟨fun c5 => L_aload_n dMa_look_25 rfl (L_aload_n dMa_look_26 rfl (L_callVV rfl cv_Ma_noteDue (As := [vA x1]) rfl (tk5 182 rfl rfl) rfl (Nat.le_of_ble_eq_true rfl) dMa_look_27 ⟨ob_78, Tri.mono (q4.1 c5) (fun r6 σ6 q6 => L_aload_n dMa_look_30 rfl (L_callVI rfl cv_Wd_vectors (As := []) rfl (tk5 187 rfl rfl) rfl (Nat.le_of_ble_eq_true rfl) dMa_look_31 ⟨q6.1, Tri.mono q6.2 (fun r7 σ7 q7 => L_iconst dMa_look_34 in_1 (L_isub dMa_look_35 (L_istore dMa_look_36 (by decide) (L_iconst dMa_look_38 in_0 (L_istore dMa_look_39 (by decide) (L_aload_n dMa_look_41 rfl (L_getF (b := 83) fw_Ma_26 rfl rfl (by decide) dMa_look_42 ⟨ob_78, L_iconst dMa_look_45 in_0 (L_aaF (b := 89) (o := (6, 3)) (by decide) rfl (show (83 : Int) + 6 + 3 * 0 = 89 by omega) (by decide) dMa_look_46 ⟨q7.1, L_aload_n dMa_look_47 rfl (L_getf fw_Ma_69 rfl dMa_look_48 ⟨q7.2.1, L_aload_n dMa_look_51 rfl (L_getf fw_Ma_72 rfl dMa_look_52 ⟨q7.2.2.1, L_callVV rfl cv_Ec_begin (As := [vI (σ7 x2 1), vI (σ7 x2 2)]) rfl (tk5 188 rfl rfl) rfl (Nat.le_of_ble_eq_true rfl) dMa_look_55 ⟨ob_89, Tri.mono q7.2.2.2 (fun r8 σ8 q8 => L_aload_n dMa_look_58 rfl (L_iconst dMa_look_59 in_0 (L_callVV rfl cv_Ma_startLevel (As := [vI 0]) rfl (tk5 189 rfl rfl) rfl (Nat.le_of_ble_eq_true rfl) dMa_look_60 ⟨ob_78, Tri.mono q8 (fun r9 σ9 q9 => L_iconst dMa_look_63 in_0 (L_istore dMa_look_64 (by decide) q9))⟩)))⟩⟩)⟩)⟩)⟩)))))))⟩))⟩)), fun c5 => L_iconst dMa_look_23 in_0 (L_zreturn0 rfl dMa_look_24 (q4.2 c5))⟩)⟩))⟩))⟩))⟩)))
theorem s_Ma_look_66 {d : Nat} {x1 x2 x3 x4 x5 x6 : Int} {σ : SG} {Q : Int → SG → Prop} (h : (1000000 ≤ x6 → (σ 78 1 ≤ 0 → Q 0 σ) ∧ (0 < σ 78 1 → Q 1 σ)) ∧ (x6 < 1000000 → (x5 < 0 → (σ 78 1 ≤ 0 → Q 0 σ) ∧ (0 < σ 78 1 → Q 1 σ)) ∧ (0 ≤ x5 → (0 ≤ x5 ∧ x5 < 5) ∧ (σ 82 x5 < x4 → (σ 78 0 < 200000 → (∀ σ7, σ7 = up σ 78 0 (w32 ((σ 78 0) + 1)) → (0 ≤ x5 ∧ x5 < 5) ∧ (0 ≤ x5 ∧ x5 < 5) ∧ (∀ σ8, σ8 = up σ7 82 x5 (w32 ((σ7 82 x5) + 1)) → Tri d M_Ma_turnImage [vA 78, vA x2, vI x5] σ8 (fun r9 σ9 => Tri d M_Ma_fits [vA 78, vA x1, vA x2, vI x5] σ9 (fun r10 σ10 => (r10 ≠ 0 → obok 10 x2 ∧ (σ10 x2 2 ≤ w32 (x5 + 1) → (∀ σ13, σ13 = up σ10 78 1 (w32 ((σ10 78 1) + 1)) → (x3 = 0 → L (d + 1) M_Ma_look 66 [vA 78, vA x1, vA x2, vI x3, vI x4, vI x5, vI (w32 (x6 + 1))] [] σ13 Q) ∧ (x3 ≠ 0 → (σ13 78 1 ≤ 0 → Q 0 σ13) ∧ (0 < σ13 78 1 → Q 1 σ13)))) ∧ (w32 (x5 + 1) < σ10 x2 2 → Tri d M_Ma_goDeeper [vA 78, vA x2, vI x5] σ10 (fun r16 σ16 => L (d + 1) M_Ma_look 66 [vA 78, vA x1, vA x2, vI x3, vI x4, vI (w32 (x5 + 1)), vI (w32 (x6 + 1))] [] σ16 Q))) ∧ (r10 = 0 → L (d + 1) M_Ma_look 66 [vA 78, vA x1, vA x2, vI x3, vI x4, vI x5, vI (w32 (x6 + 1))] [] σ10 Q)))))) ∧ (200000 ≤ σ 78 0 → (∀ σ17, σ17 = up σ 78 2 1 → (σ17 78 1 ≤ 0 → Q 0 σ17) ∧ (0 < σ17 78 1 → Q 1 σ17)))) ∧ (x4 ≤ σ 82 x5 → L (d + 1) M_Ma_look 66 [vA 78, vA x1, vA x2, vI x3, vI x4, vI (w32 (x5 + (-1))), vI (w32 (x6 + 1))] [] σ Q)))) : L (d + 1) M_Ma_look 66 [vA 78, vA x1, vA x2, vI x3, vI x4, vI x5, vI x6] [] σ Q :=
  L_iload dMa_look_66 rfl (L_ldc (x := 1000000) (tk5 194 rfl rfl) rfl in_1000000 dMa_look_68 (L_icmp_ge dMa_look_70 (by decide) ⟨fun c1 => L_aload_n dMa_look_202 rfl (L_getf fw_Ma_50 rfl dMa_look_203 ⟨ob_78, L_if_le dMa_look_206 (by decide) ⟨fun c2 => L_iconst dMa_look_213 in_0 (L_zreturn0 rfl dMa_look_214 ((h.1 c1).1 c2)), fun c2 => L_iconst dMa_look_209 in_1 (L_goto dMa_look_210 (by decide) (L_zreturn1 rfl dMa_look_214 ((h.1 c1).2 c2)))⟩⟩), fun c1 => L_iload dMa_look_73 rfl (L_if_lt dMa_look_75 (by decide) ⟨fun c3 => L_aload_n dMa_look_202 rfl (L_getf fw_Ma_50 rfl dMa_look_203 ⟨ob_78, L_if_le dMa_look_206 (by decide) ⟨fun c4 => L_iconst dMa_look_213 in_0 (L_zreturn0 rfl dMa_look_214 (((h.2 c1).1 c3).1 c4)), fun c4 => L_iconst dMa_look_209 in_1 (L_goto dMa_look_210 (by decide) (L_zreturn1 rfl dMa_look_214 (((h.2 c1).1 c3).2 c4)))⟩⟩), fun c3 => L_aload_n dMa_look_78 rfl (L_getF (b := 82) fw_Ma_21 rfl rfl (by decide) dMa_look_79 ⟨ob_78, L_iload dMa_look_82 rfl (L_ialoadL kd_82 dMa_look_84 ⟨((h.2 c1).2 c3).1, L_iload dMa_look_85 rfl (L_icmp_lt dMa_look_87 (by decide) ⟨fun c5 => L_aload_n dMa_look_96 rfl (L_getf fw_Ma_46 rfl dMa_look_97 ⟨ob_78, L_ldc (x := 200000) (tk5 195 rfl rfl) rfl in_200000 dMa_look_100 (L_icmp_lt dMa_look_102 (by decide) ⟨fun c6 => L_aload_n dMa_look_113 rfl (L_dup dMa_look_114 n21 (L_getf fw_Ma_46 rfl dMa_look_115 ⟨ob_78, L_iconst dMa_look_118 in_1 (L_iadd dMa_look_119 (L_putfN fp_Ma_46 rfl rfl (fun _ => ⟨rfl, rfl⟩) dMa_look_120 ⟨ob_78, fun σ7 e7 => L_aload_n dMa_look_123 rfl (L_getF (b := 82) fw_Ma_21 rfl rfl (by decide) dMa_look_124 ⟨ob_78, L_iload dMa_look_127 rfl (L_dup2 dMa_look_129 n01 n21 (L_ialoadL kd_82 dMa_look_130 ⟨(((((h.2 c1).2 c3).2.1 c5).1 c6) σ7 e7).1, L_iconst dMa_look_131 in_1 (L_iadd dMa_look_132 (L_iastoreL (by decide) kd_82 dMa_look_133 ⟨(((((h.2 c1).2 c3).2.1 c5).1 c6) σ7 e7).2.1, fun σ8 e8 => L_aload_n dMa_look_134 rfl (L_aload_n dMa_look_135 rfl (L_iload dMa_look_136 rfl (L_callVV rfl cv_Ma_turnImage (As := [vA x2, vI x5]) rfl (tk5 196 rfl rfl) rfl (Nat.le_of_ble_eq_true rfl) dMa_look_138 ⟨ob_78, Tri.mono ((((((h.2 c1).2 c3).2.1 c5).1 c6) σ7 e7).2.2 σ8 e8) (fun r9 σ9 q9 => L_aload_n dMa_look_141 rfl (L_aload_n dMa_look_142 rfl (L_aload_n dMa_look_143 rfl (L_iload dMa_look_144 rfl (L_callVI rfl cv_Ma_fits (As := [vA x1, vA x2, vI x5]) rfl (tk5 200 rfl rfl) rfl (Nat.le_of_ble_eq_true rfl) dMa_look_146 ⟨ob_78, Tri.mono q9 (fun r10 σ10 q10 => L_if_ne dMa_look_149 (by decide) ⟨fun c11 => L_iload dMa_look_155 rfl (L_iconst dMa_look_157 in_1 (L_iadd dMa_look_158 (L_aload_n dMa_look_159 rfl (L_getf fw_Ma_72 rfl dMa_look_160 ⟨(q10.1 c11).1, L_icmp_ge dMa_look_163 (by decide) ⟨fun c12 => L_aload_n dMa_look_179 rfl (L_dup dMa_look_180 n21 (L_getf fw_Ma_50 rfl dMa_look_181 ⟨ob_78, L_iconst dMa_look_184 in_1 (L_iadd dMa_look_185 (L_putfN fp_Ma_50 rfl rfl (fun _ => ⟨rfl, rfl⟩) dMa_look_186 ⟨ob_78, fun σ13 e13 => L_iload_n dMa_look_189 rfl (L_if_eq dMa_look_190 (by decide) ⟨fun c14 => L_iinc dMa_look_196 rfl (by decide) (L_goto dMa_look_199 (by decide) ((((q10.1 c11).2.1 c12) σ13 e13).1 c14)), fun c14 => L_goto dMa_look_193 (by decide) (L_aload_n dMa_look_202 rfl (L_getf fw_Ma_50 rfl dMa_look_203 ⟨ob_78, L_if_le dMa_look_206 (by decide) ⟨fun c15 => L_iconst dMa_look_213 in_0 (L_zreturn0 rfl dMa_look_214 (((((q10.1 c11).2.1 c12) σ13 e13).2 c14).1 c15)), fun c15 => L_iconst dMa_look_209 in_1 (L_goto dMa_look_210 (by decide) (L_zreturn1 rfl dMa_look_214 (((((q10.1 c11).2.1 c12) σ13 e13).2 c14).2 c15)))⟩⟩))⟩)⟩))⟩)), fun c12 => L_aload_n dMa_look_166 rfl (L_aload_n dMa_look_167 rfl (L_iload dMa_look_168 rfl (L_callVV rfl cv_Ma_goDeeper (As := [vA x2, vI x5]) rfl (tk5 210 rfl rfl) rfl (Nat.le_of_ble_eq_true rfl) dMa_look_170 ⟨ob_78, Tri.mono ((q10.1 c11).2.2 c12) (fun r16 σ16 q16 => L_iinc dMa_look_173 rfl (by decide) (L_goto dMa_look_176 (by decide) (L_iinc dMa_look_196 rfl (by decide) (L_goto dMa_look_199 (by decide) q16))))⟩)))⟩⟩)))), fun c11 => L_goto dMa_look_152 (by decide) (L_iinc dMa_look_196 rfl (by decide) (L_goto dMa_look_199 (by decide) (q10.2 c11)))⟩)⟩)))))⟩)))⟩))⟩))⟩)⟩))⟩)), fun c6 => L_aload_n dMa_look_105 rfl (L_iconst dMa_look_106 in_1 (L_putfN fp_Ma_53 rfl rfl (fit_z (by decide)) dMa_look_107 ⟨ob_78, fun σ17 e17 => L_goto dMa_look_110 (by decide) (L_aload_n dMa_look_202 rfl (L_getf fw_Ma_50 rfl dMa_look_203 ⟨ob_78, L_if_le dMa_look_206 (by decide) ⟨fun c18 => L_iconst dMa_look_213 in_0 (L_zreturn0 rfl dMa_look_214 ((((((h.2 c1).2 c3).2.1 c5).2 c6) σ17 e17).1 c18)), fun c18 => L_iconst dMa_look_209 in_1 (L_goto dMa_look_210 (by decide) (L_zreturn1 rfl dMa_look_214 ((((((h.2 c1).2 c3).2.1 c5).2 c6) σ17 e17).2 c18)))⟩⟩))⟩))⟩)⟩), fun c5 => L_iinc dMa_look_90 rfl (by decide) (L_goto dMa_look_93 (by decide) (L_iinc dMa_look_196 rfl (by decide) (L_goto dMa_look_199 (by decide) (((h.2 c1).2 c3).2.2 c5))))⟩)⟩)⟩)⟩)⟩))
theorem dMa_noteDue_0 : decode prog_5_method_3_code 0 = .ok (.iconst 0, 1) := by decide +kernel
theorem dMa_noteDue_1 : decode prog_5_method_3_code 1 = .ok (.istore_n 2, 1) := by decide +kernel
theorem dMa_noteDue_2 : decode prog_5_method_3_code 2 = .ok (.iload_n 2, 1) := by decide +kernel
theorem dMa_noteDue_3 : decode prog_5_method_3_code 3 = .ok (.aload_n 1, 1) := by decide +kernel
theorem dMa_noteDue_4 : decode prog_5_method_3_code 4 = .ok (.getfield 72, 3) := by decide +kernel
theorem dMa_noteDue_7 : decode prog_5_method_3_code 7 = .ok (.if_icmp .ge 77, 3) := by decide +kernel
theorem dMa_noteDue_10 : decode prog_5_method_3_code 10 = .ok (.iload_n 2, 1) := by decide +kernel
theorem dMa_noteDue_11 : decode prog_5_method_3_code 11 = .ok (.iconst 1, 1) := by decide +kernel
theorem dMa_noteDue_12 : decode prog_5_method_3_code 12 = .ok (.iadd, 1) := by decide +kernel
theorem dMa_noteDue_13 : decode prog_5_method_3_code 13 = .ok (.istore_n 3, 1) := by decide +kernel
theorem dMa_noteDue_14 : decode prog_5_method_3_code 14 = .ok (.iload_n 3, 1) := by decide +kernel
theorem dMa_noteDue_15 : decode prog_5_method_3_code 15 = .ok (.aload_n 1, 1) := by decide +kernel
theorem dMa_noteDue_16 : decode prog_5_method_3_code 16 = .ok (.getfield 72, 3) := by decide +kernel
theorem dMa_noteDue_19 : decode prog_5_method_3_code 19 = .ok (.if_icmp .ge 59, 3) := by decide +kernel
theorem dMa_noteDue_22 : decode prog_5_method_3_code 22 = .ok (.iload_n 3, 1) := by decide +kernel
theorem dMa_noteDue_23 : decode prog_5_method_3_code 23 = .ok (.istore 4, 2) := by decide +kernel
theorem dMa_noteDue_25 : decode prog_5_method_3_code 25 = .ok (.iload_n 3, 1) := by decide +kernel
theorem dMa_noteDue_26 : decode prog_5_method_3_code 26 = .ok (.iconst 1, 1) := by decide +kernel
theorem dMa_noteDue_27 : decode prog_5_method_3_code 27 = .ok (.iadd, 1) := by decide +kernel
theorem dMa_noteDue_28 : decode prog_5_method_3_code 28 = .ok (.istore 5, 2) := by decide +kernel
theorem dMa_noteDue_30 : decode prog_5_method_3_code 30 = .ok (.iload 5, 2) := by decide +kernel
theorem dMa_noteDue_32 : decode prog_5_method_3_code 32 = .ok (.aload_n 1, 1) := by decide +kernel
theorem dMa_noteDue_33 : decode prog_5_method_3_code 33 = .ok (.getfield 72, 3) := by decide +kernel
theorem dMa_noteDue_36 : decode prog_5_method_3_code 36 = .ok (.if_icmp .ge 24, 3) := by decide +kernel
theorem dMa_noteDue_39 : decode prog_5_method_3_code 39 = .ok (.aload_n 1, 1) := by decide +kernel
theorem dMa_noteDue_40 : decode prog_5_method_3_code 40 = .ok (.iload_n 2, 1) := by decide +kernel
theorem dMa_noteDue_41 : decode prog_5_method_3_code 41 = .ok (.iload_n 3, 1) := by decide +kernel
theorem dMa_noteDue_42 : decode prog_5_method_3_code 42 = .ok (.iload 5, 2) := by decide +kernel
theorem dMa_noteDue_44 : decode prog_5_method_3_code 44 = .ok (.invokevirtual 95, 3) := by decide +kernel
theorem dMa_noteDue_47 : decode prog_5_method_3_code 47 = .ok (.ifCond .eq 7, 3) := by decide +kernel
theorem dMa_noteDue_50 : decode prog_5_method_3_code 50 = .ok (.iload 5, 2) := by decide +kernel
theorem dMa_noteDue_52 : decode prog_5_method_3_code 52 = .ok (.istore 4, 2) := by decide +kernel
theorem dMa_noteDue_54 : decode prog_5_method_3_code 54 = .ok (.iinc 5 1, 3) := by decide +kernel
theorem dMa_noteDue_57 : decode prog_5_method_3_code 57 = .ok (.goto (-27), 3) := by decide +kernel
theorem dMa_noteDue_60 : decode prog_5_method_3_code 60 = .ok (.aload_n 0, 1) := by decide +kernel
theorem dMa_noteDue_61 : decode prog_5_method_3_code 61 = .ok (.getfield 18, 3) := by decide +kernel
theorem dMa_noteDue_64 : decode prog_5_method_3_code 64 = .ok (.iload_n 2, 1) := by decide +kernel
theorem dMa_noteDue_65 : decode prog_5_method_3_code 65 = .ok (.iconst 5, 1) := by decide +kernel
theorem dMa_noteDue_66 : decode prog_5_method_3_code 66 = .ok (.imul, 1) := by decide +kernel
theorem dMa_noteDue_67 : decode prog_5_method_3_code 67 = .ok (.iload_n 3, 1) := by decide +kernel
theorem dMa_noteDue_68 : decode prog_5_method_3_code 68 = .ok (.iadd, 1) := by decide +kernel
theorem dMa_noteDue_69 : decode prog_5_method_3_code 69 = .ok (.iload 4, 2) := by decide +kernel
theorem dMa_noteDue_71 : decode prog_5_method_3_code 71 = .ok (.iastore, 1) := by decide +kernel
theorem dMa_noteDue_72 : decode prog_5_method_3_code 72 = .ok (.iinc 3 1, 3) := by decide +kernel
theorem dMa_noteDue_75 : decode prog_5_method_3_code 75 = .ok (.goto (-61), 3) := by decide +kernel
theorem dMa_noteDue_78 : decode prog_5_method_3_code 78 = .ok (.iinc 2 1, 3) := by decide +kernel
theorem dMa_noteDue_81 : decode prog_5_method_3_code 81 = .ok (.goto (-79), 3) := by decide +kernel
theorem dMa_noteDue_84 : decode prog_5_method_3_code 84 = .ok (.return_, 1) := by decide +kernel
theorem t_Ma_noteDue {d : Nat} {x1 : Int} {σ : SG} {Q : Int → SG → Prop} (h : L (d + 1) M_Ma_noteDue 2 [vA 78, vA x1, vI 0, vU, vU, vU] [] σ Q) : Tri (d + 1) M_Ma_noteDue [vA 78, vA x1] σ Q :=
  Tri_intro rfl (Nat.le_of_ble_eq_true rfl) (ls := [vA 78, vA x1, vU, vU, vU, vU]) rfl (fun hok => L_iconst dMa_noteDue_0 in_0 (L_istore_n dMa_noteDue_1 (by decide) (h)))
theorem s_Ma_noteDue_2 {d : Nat} {x1 x2 : Int} {σ : SG} {Q : Int → SG → Prop} (h : obok 10 x1 ∧ (σ x1 2 ≤ x2 → Q 0 σ) ∧ (x2 < σ x1 2 → L (d + 1) M_Ma_noteDue 14 [vA 78, vA x1, vI x2, vI (w32 (x2 + 1)), vU, vU] [] σ Q)) : L (d + 1) M_Ma_noteDue 2 [vA 78, vA x1, vI x2, vU, vU, vU] [] σ Q :=
  L_iload_n dMa_noteDue_2 rfl (L_aload_n dMa_noteDue_3 rfl (L_getf fw_Ma_72 rfl dMa_noteDue_4 ⟨h.1, L_icmp_ge dMa_noteDue_7 (by decide) ⟨fun c1 => L_return rfl dMa_noteDue_84 (h.2.1 c1), fun c1 => L_iload_n dMa_noteDue_10 rfl (L_iconst dMa_noteDue_11 in_1 (L_iadd dMa_noteDue_12 (L_istore_n dMa_noteDue_13 (by decide) (h.2.2 c1))))⟩⟩))
theorem s_Ma_noteDue_14 {d : Nat} {x1 x2 x3 : Int} {σ : SG} {Q : Int → SG → Prop} (h : obok 10 x1 ∧ (σ x1 2 ≤ x3 → L (d + 1) M_Ma_noteDue 2 [vA 78, vA x1, vI (w32 (x2 + 1)), vU, vU, vU] [] σ Q) ∧ (x3 < σ x1 2 → L (d + 1) M_Ma_noteDue 30 [vA 78, vA x1, vI x2, vI x3, vI x3, vI (w32 (x3 + 1))] [] σ Q)) : L (d + 1) M_Ma_noteDue 14 [vA 78, vA x1, vI x2, vI x3, vU, vU] [] σ Q :=
  L_iload_n dMa_noteDue_14 rfl (L_aload_n dMa_noteDue_15 rfl (L_getf fw_Ma_72 rfl dMa_noteDue_16 ⟨h.1, L_icmp_ge dMa_noteDue_19 (by decide) ⟨fun c1 => L_iinc dMa_noteDue_78 rfl (by decide) (L_goto dMa_noteDue_81 (by decide) (L_weak [true, true, true, false, true, true] (h.2.1 c1))), fun c1 => L_iload_n dMa_noteDue_22 rfl (L_istore dMa_noteDue_23 (by decide) (L_iload_n dMa_noteDue_25 rfl (L_iconst dMa_noteDue_26 in_1 (L_iadd dMa_noteDue_27 (L_istore dMa_noteDue_28 (by decide) (h.2.2 c1))))))⟩⟩))
theorem s_Ma_noteDue_30 {d : Nat} {x1 x2 x3 x4 x5 : Int} {σ : SG} {Q : Int → SG → Prop} (h : obok 10 x1 ∧ (σ x1 2 ≤ x5 → (0 ≤ w32 ((w32 (x2 * 5)) + x3) ∧ w32 ((w32 (x2 * 5)) + x3) < 25) ∧ (∀ σ2, σ2 = up σ 81 (w32 ((w32 (x2 * 5)) + x3)) x4 → L (d + 1) M_Ma_noteDue 14 [vA 78, vA x1, vI x2, vI (w32 (x3 + 1)), vU, vU] [] σ2 Q)) ∧ (x5 < σ x1 2 → obok 10 x1 ∧ Tri d M_Wd_cell [vA x1, vI x2, vI x3, vI x5] σ (fun r3 σ3 => (r3 = 0 → L (d + 1) M_Ma_noteDue 30 [vA 78, vA x1, vI x2, vI x3, vI x4, vI (w32 (x5 + 1))] [] σ3 Q) ∧ (r3 ≠ 0 → L (d + 1) M_Ma_noteDue 30 [vA 78, vA x1, vI x2, vI x3, vI x5, vI (w32 (x5 + 1))] [] σ3 Q)))) : L (d + 1) M_Ma_noteDue 30 [vA 78, vA x1, vI x2, vI x3, vI x4, vI x5] [] σ Q :=
  L_iload dMa_noteDue_30 rfl (L_aload_n dMa_noteDue_32 rfl (L_getf fw_Ma_72 rfl dMa_noteDue_33 ⟨h.1, L_icmp_ge dMa_noteDue_36 (by decide) ⟨fun c1 => L_aload_n dMa_noteDue_60 rfl (L_getF (b := 81) fw_Ma_18 rfl rfl (by decide) dMa_noteDue_61 ⟨ob_78, L_iload_n dMa_noteDue_64 rfl (L_iconst dMa_noteDue_65 in_5 (L_imul dMa_noteDue_66 (L_iload_n dMa_noteDue_67 rfl (L_iadd dMa_noteDue_68 (L_iload dMa_noteDue_69 rfl (L_iastoreL (by decide) kd_81 dMa_noteDue_71 ⟨(h.2.1 c1).1, fun σ2 e2 => L_iinc dMa_noteDue_72 rfl (by decide) (L_goto dMa_noteDue_75 (by decide) (L_weak [true, true, true, true, false, false] ((h.2.1 c1).2 σ2 e2)))⟩))))))⟩), fun c1 => L_aload_n dMa_noteDue_39 rfl (L_iload_n dMa_noteDue_40 rfl (L_iload_n dMa_noteDue_41 rfl (L_iload dMa_noteDue_42 rfl (L_callVI rfl cv_Wd_cell (As := [vI x2, vI x3, vI x5]) rfl (tk5 186 rfl rfl) rfl (Nat.le_of_ble_eq_true rfl) dMa_noteDue_44 ⟨(h.2.2 c1).1, Tri.mono ((h.2.2 c1).2) (fun r3 σ3 q3 => L_if_eq dMa_noteDue_47 (by decide) ⟨fun c4 => L_iinc dMa_noteDue_54 rfl (by decide) (L_goto dMa_noteDue_57 (by decide) (q3.1 c4)), fun c4 => L_iload dMa_noteDue_50 rfl (L_istore dMa_noteDue_52 (by decide) (L_iinc dMa_noteDue_54 rfl (by decide) (L_goto dMa_noteDue_57 (by decide) (q3.2 c4))))⟩)⟩))))⟩⟩))
theorem dMa_startLevel_0 : decode prog_5_method_4_code 0 = .ok (.aload_n 0, 1) := by decide +kernel
theorem dMa_startLevel_1 : decode prog_5_method_4_code 1 = .ok (.getfield 21, 3) := by decide +kernel
theorem dMa_startLevel_4 : decode prog_5_method_4_code 4 = .ok (.iload_n 1, 1) := by decide +kernel
theorem dMa_startLevel_5 : decode prog_5_method_4_code 5 = .ok (.iconst 0, 1) := by decide +kernel
theorem dMa_startLevel_6 : decode prog_5_method_4_code 6 = .ok (.iastore, 1) := by decide +kernel
theorem dMa_startLevel_7 : decode prog_5_method_4_code 7 = .ok (.aload_n 0, 1) := by decide +kernel
theorem dMa_startLevel_8 : decode prog_5_method_4_code 8 = .ok (.getfield 9, 3) := by decide +kernel
theorem dMa_startLevel_11 : decode prog_5_method_4_code 11 = .ok (.iload_n 1, 1) := by decide +kernel
theorem dMa_startLevel_12 : decode prog_5_method_4_code 12 = .ok (.iconst 5, 1) := by decide +kernel
theorem dMa_startLevel_13 : decode prog_5_method_4_code 13 = .ok (.imul, 1) := by decide +kernel
theorem dMa_startLevel_14 : decode prog_5_method_4_code 14 = .ok (.iload_n 1, 1) := by decide +kernel
theorem dMa_startLevel_15 : decode prog_5_method_4_code 15 = .ok (.iconst 5, 1) := by decide +kernel
theorem dMa_startLevel_16 : decode prog_5_method_4_code 16 = .ok (.imul, 1) := by decide +kernel
theorem dMa_startLevel_17 : decode prog_5_method_4_code 17 = .ok (.iconst 5, 1) := by decide +kernel
theorem dMa_startLevel_18 : decode prog_5_method_4_code 18 = .ok (.iadd, 1) := by decide +kernel
theorem dMa_startLevel_19 : decode prog_5_method_4_code 19 = .ok (.iconst 0, 1) := by decide +kernel
theorem dMa_startLevel_20 : decode prog_5_method_4_code 20 = .ok (.invokestatic 99, 3) := by decide +kernel
theorem dMa_startLevel_23 : decode prog_5_method_4_code 23 = .ok (.return_, 1) := by decide +kernel
theorem t_Ma_startLevel {d : Nat} {x1 : Int} {σ : SG} {Q : Int → SG → Prop} (h : inI x1 → ((0 ≤ x1 ∧ x1 < 5) ∧ (∀ σ1, σ1 = up σ 82 x1 0 → Tri d M_JA_fill___IIII_V [vA 79, vI (w32 (x1 * 5)), vI (w32 ((w32 (x1 * 5)) + 5)), vI 0] σ1 (fun r2 σ2 => Q 0 σ2)))) : Tri (d + 1) M_Ma_startLevel [vA 78, vI x1] σ Q :=
  Tri_intro rfl (Nat.le_of_ble_eq_true rfl) (ls := [vA 78, vI x1]) rfl (fun hok => L_aload_n dMa_startLevel_0 rfl (L_getF (b := 82) fw_Ma_21 rfl rfl (by decide) dMa_startLevel_1 ⟨ob_78, L_iload_n dMa_startLevel_4 rfl (L_iconst dMa_startLevel_5 in_0 (L_iastoreL (by decide) kd_82 dMa_startLevel_6 ⟨(h (hok _ (List.mem_of_getElem? (i := 1) rfl))).1, fun σ1 e1 => L_aload_n dMa_startLevel_7 rfl (L_getF (b := 79) fw_Ma_9 rfl rfl (by decide) dMa_startLevel_8 ⟨ob_78, L_iload_n dMa_startLevel_11 rfl (L_iconst dMa_startLevel_12 in_5 (L_imul dMa_startLevel_13 (L_iload_n dMa_startLevel_14 rfl (L_iconst dMa_startLevel_15 in_5 (L_imul dMa_startLevel_16 (L_iconst dMa_startLevel_17 in_5 (L_iadd dMa_startLevel_18 (L_iconst dMa_startLevel_19 in_0 (L_callSV rfl cs_JA_fill___IIII_V (As := [vA 79, vI (w32 (x1 * 5)), vI (w32 ((w32 (x1 * 5)) + 5)), vI 0]) rfl (tk5 193 rfl rfl) rfl (Nat.le_of_ble_eq_true rfl) dMa_startLevel_20 (Tri.mono ((h (hok _ (List.mem_of_getElem? (i := 1) rfl))).2 σ1 e1) (fun r2 σ2 q2 => L_return rfl dMa_startLevel_23 q2)))))))))))⟩)⟩))⟩))
theorem dMa_turnImage_0 : decode prog_5_method_5_code 0 = .ok (.iload_n 2, 1) := by decide +kernel
theorem dMa_turnImage_1 : decode prog_5_method_5_code 1 = .ok (.iconst 5, 1) := by decide +kernel
theorem dMa_turnImage_2 : decode prog_5_method_5_code 2 = .ok (.imul, 1) := by decide +kernel
theorem dMa_turnImage_3 : decode prog_5_method_5_code 3 = .ok (.istore_n 3, 1) := by decide +kernel
theorem dMa_turnImage_4 : decode prog_5_method_5_code 4 = .ok (.iload_n 3, 1) := by decide +kernel
theorem dMa_turnImage_5 : decode prog_5_method_5_code 5 = .ok (.iload_n 2, 1) := by decide +kernel
theorem dMa_turnImage_6 : decode prog_5_method_5_code 6 = .ok (.iconst 5, 1) := by decide +kernel
theorem dMa_turnImage_7 : decode prog_5_method_5_code 7 = .ok (.imul, 1) := by decide +kernel
theorem dMa_turnImage_8 : decode prog_5_method_5_code 8 = .ok (.aload_n 1, 1) := by decide +kernel
theorem dMa_turnImage_9 : decode prog_5_method_5_code 9 = .ok (.getfield 72, 3) := by decide +kernel
theorem dMa_turnImage_12 : decode prog_5_method_5_code 12 = .ok (.iadd, 1) := by decide +kernel
theorem dMa_turnImage_13 : decode prog_5_method_5_code 13 = .ok (.if_icmp .ge 40, 3) := by decide +kernel
theorem dMa_turnImage_16 : decode prog_5_method_5_code 16 = .ok (.aload_n 0, 1) := by decide +kernel
theorem dMa_turnImage_17 : decode prog_5_method_5_code 17 = .ok (.getfield 9, 3) := by decide +kernel
theorem dMa_turnImage_20 : decode prog_5_method_5_code 20 = .ok (.iload_n 3, 1) := by decide +kernel
theorem dMa_turnImage_21 : decode prog_5_method_5_code 21 = .ok (.dup2, 1) := by decide +kernel
theorem dMa_turnImage_22 : decode prog_5_method_5_code 22 = .ok (.iaload, 1) := by decide +kernel
theorem dMa_turnImage_23 : decode prog_5_method_5_code 23 = .ok (.iconst 1, 1) := by decide +kernel
theorem dMa_turnImage_24 : decode prog_5_method_5_code 24 = .ok (.iadd, 1) := by decide +kernel
theorem dMa_turnImage_25 : decode prog_5_method_5_code 25 = .ok (.iastore, 1) := by decide +kernel
theorem dMa_turnImage_26 : decode prog_5_method_5_code 26 = .ok (.aload_n 0, 1) := by decide +kernel
theorem dMa_turnImage_27 : decode prog_5_method_5_code 27 = .ok (.getfield 9, 3) := by decide +kernel
theorem dMa_turnImage_30 : decode prog_5_method_5_code 30 = .ok (.iload_n 3, 1) := by decide +kernel
theorem dMa_turnImage_31 : decode prog_5_method_5_code 31 = .ok (.iaload, 1) := by decide +kernel
theorem dMa_turnImage_32 : decode prog_5_method_5_code 32 = .ok (.aload_n 1, 1) := by decide +kernel
theorem dMa_turnImage_33 : decode prog_5_method_5_code 33 = .ok (.getfield 69, 3) := by decide +kernel
theorem dMa_turnImage_36 : decode prog_5_method_5_code 36 = .ok (.if_icmp .ge 4, 3) := by decide +kernel
theorem dMa_turnImage_39 : decode prog_5_method_5_code 39 = .ok (.return_, 1) := by decide +kernel
theorem dMa_turnImage_40 : decode prog_5_method_5_code 40 = .ok (.aload_n 0, 1) := by decide +kernel
theorem dMa_turnImage_41 : decode prog_5_method_5_code 41 = .ok (.getfield 9, 3) := by decide +kernel
theorem dMa_turnImage_44 : decode prog_5_method_5_code 44 = .ok (.iload_n 3, 1) := by decide +kernel
theorem dMa_turnImage_45 : decode prog_5_method_5_code 45 = .ok (.iconst 0, 1) := by decide +kernel
theorem dMa_turnImage_46 : decode prog_5_method_5_code 46 = .ok (.iastore, 1) := by decide +kernel
theorem dMa_turnImage_47 : decode prog_5_method_5_code 47 = .ok (.iinc 3 1, 3) := by decide +kernel
theorem dMa_turnImage_50 : decode prog_5_method_5_code 50 = .ok (.goto (-46), 3) := by decide +kernel
theorem dMa_turnImage_53 : decode prog_5_method_5_code 53 = .ok (.return_, 1) := by decide +kernel
theorem t_Ma_turnImage {d : Nat} {x1 x2 : Int} {σ : SG} {Q : Int → SG → Prop} (h : inI x2 → (L (d + 1) M_Ma_turnImage 4 [vA 78, vA x1, vI x2, vI (w32 (x2 * 5))] [] σ Q)) : Tri (d + 1) M_Ma_turnImage [vA 78, vA x1, vI x2] σ Q :=
  Tri_intro rfl (Nat.le_of_ble_eq_true rfl) (ls := [vA 78, vA x1, vI x2, vU]) rfl (fun hok => L_iload_n dMa_turnImage_0 rfl (L_iconst dMa_turnImage_1 in_5 (L_imul dMa_turnImage_2 (L_istore_n dMa_turnImage_3 (by decide) ((h (hok _ (List.mem_of_getElem? (i := 2) rfl))))))))
theorem s_Ma_turnImage_4 {d : Nat} {x1 x2 x3 : Int} {σ : SG} {Q : Int → SG → Prop} (h : obok 10 x1 ∧ (w32 ((w32 (x2 * 5)) + (σ x1 2)) ≤ x3 → Q 0 σ) ∧ (x3 < w32 ((w32 (x2 * 5)) + (σ x1 2)) → (0 ≤ x3 ∧ x3 < 25) ∧ (0 ≤ x3 ∧ x3 < 25) ∧ (∀ σ2, σ2 = up σ 79 x3 (w32 ((σ 79 x3) + 1)) → (0 ≤ x3 ∧ x3 < 25) ∧ obok 10 x1 ∧ (σ2 x1 1 ≤ σ2 79 x3 → (0 ≤ x3 ∧ x3 < 25) ∧ (∀ σ4, σ4 = up σ2 79 x3 0 → L (d + 1) M_Ma_turnImage 4 [vA 78, vA x1, vI x2, vI (w32 (x3 + 1))] [] σ4 Q)) ∧ (σ2 79 x3 < σ2 x1 1 → Q 0 σ2)))) : L (d + 1) M_Ma_turnImage 4 [vA 78, vA x1, vI x2, vI x3] [] σ Q :=
  L_iload_n dMa_turnImage_4 rfl (L_iload_n dMa_turnImage_5 rfl (L_iconst dMa_turnImage_6 in_5 (L_imul dMa_turnImage_7 (L_aload_n dMa_turnImage_8 rfl (L_getf fw_Ma_72 rfl dMa_turnImage_9 ⟨h.1, L_iadd dMa_turnImage_12 (L_icmp_ge dMa_turnImage_13 (by decide) ⟨fun c1 => L_return rfl dMa_turnImage_53 (h.2.1 c1), fun c1 => L_aload_n dMa_turnImage_16 rfl (L_getF (b := 79) fw_Ma_9 rfl rfl (by decide) dMa_turnImage_17 ⟨ob_78, L_iload_n dMa_turnImage_20 rfl (L_dup2 dMa_turnImage_21 n01 n21 (L_ialoadL kd_79 dMa_turnImage_22 ⟨(h.2.2 c1).1, L_iconst dMa_turnImage_23 in_1 (L_iadd dMa_turnImage_24 (L_iastoreL (by decide) kd_79 dMa_turnImage_25 ⟨(h.2.2 c1).2.1, fun σ2 e2 => L_aload_n dMa_turnImage_26 rfl (L_getF (b := 79) fw_Ma_9 rfl rfl (by decide) dMa_turnImage_27 ⟨ob_78, L_iload_n dMa_turnImage_30 rfl (L_ialoadL kd_79 dMa_turnImage_31 ⟨((h.2.2 c1).2.2 σ2 e2).1, L_aload_n dMa_turnImage_32 rfl (L_getf fw_Ma_69 rfl dMa_turnImage_33 ⟨((h.2.2 c1).2.2 σ2 e2).2.1, L_icmp_ge dMa_turnImage_36 (by decide) ⟨fun c3 => L_aload_n dMa_turnImage_40 rfl (L_getF (b := 79) fw_Ma_9 rfl rfl (by decide) dMa_turnImage_41 ⟨ob_78, L_iload_n dMa_turnImage_44 rfl (L_iconst dMa_turnImage_45 in_0 (L_iastoreL (by decide) kd_79 dMa_turnImage_46 ⟨(((h.2.2 c1).2.2 σ2 e2).2.2.1 c3).1, fun σ4 e4 => L_iinc dMa_turnImage_47 rfl (by decide) (L_goto dMa_turnImage_50 (by decide) ((((h.2.2 c1).2.2 σ2 e2).2.2.1 c3).2 σ4 e4))⟩))⟩), fun c3 => L_return rfl dMa_turnImage_39 (((h.2.2 c1).2.2 σ2 e2).2.2.2 c3)⟩⟩)⟩)⟩)⟩))⟩))⟩)⟩)⟩)))))
theorem dMa_fits_0 : decode prog_5_method_6_code 0 = .ok (.aload_n 0, 1) := by decide +kernel
theorem dMa_fits_1 : decode prog_5_method_6_code 1 = .ok (.getfield 26, 3) := by decide +kernel
theorem dMa_fits_4 : decode prog_5_method_6_code 4 = .ok (.iload_n 3, 1) := by decide +kernel
theorem dMa_fits_5 : decode prog_5_method_6_code 5 = .ok (.aaload, 1) := by decide +kernel
theorem dMa_fits_6 : decode prog_5_method_6_code 6 = .ok (.aload_n 0, 1) := by decide +kernel
theorem dMa_fits_7 : decode prog_5_method_6_code 7 = .ok (.getfield 9, 3) := by decide +kernel
theorem dMa_fits_10 : decode prog_5_method_6_code 10 = .ok (.iload_n 3, 1) := by decide +kernel
theorem dMa_fits_11 : decode prog_5_method_6_code 11 = .ok (.iconst 5, 1) := by decide +kernel
theorem dMa_fits_12 : decode prog_5_method_6_code 12 = .ok (.imul, 1) := by decide +kernel
theorem dMa_fits_13 : decode prog_5_method_6_code 13 = .ok (.invokevirtual 105, 3) := by decide +kernel
theorem dMa_fits_16 : decode prog_5_method_6_code 16 = .ok (.ifCond .eq 5, 3) := by decide +kernel
theorem dMa_fits_19 : decode prog_5_method_6_code 19 = .ok (.iconst 0, 1) := by decide +kernel
theorem dMa_fits_20 : decode prog_5_method_6_code 20 = .ok (.ireturn, 1) := by decide +kernel
theorem dMa_fits_21 : decode prog_5_method_6_code 21 = .ok (.iconst 1, 1) := by decide +kernel
theorem dMa_fits_22 : decode prog_5_method_6_code 22 = .ok (.istore 4, 2) := by decide +kernel
theorem dMa_fits_24 : decode prog_5_method_6_code 24 = .ok (.iload 4, 2) := by decide +kernel
theorem dMa_fits_26 : decode prog_5_method_6_code 26 = .ok (.iload_n 3, 1) := by decide +kernel
theorem dMa_fits_27 : decode prog_5_method_6_code 27 = .ok (.if_icmp .gt 56, 3) := by decide +kernel
theorem dMa_fits_30 : decode prog_5_method_6_code 30 = .ok (.iconst 0, 1) := by decide +kernel
theorem dMa_fits_31 : decode prog_5_method_6_code 31 = .ok (.istore 5, 2) := by decide +kernel
theorem dMa_fits_33 : decode prog_5_method_6_code 33 = .ok (.iload 5, 2) := by decide +kernel
theorem dMa_fits_35 : decode prog_5_method_6_code 35 = .ok (.iload 4, 2) := by decide +kernel
theorem dMa_fits_37 : decode prog_5_method_6_code 37 = .ok (.if_icmp .ge 40, 3) := by decide +kernel
theorem dMa_fits_40 : decode prog_5_method_6_code 40 = .ok (.aload_n 0, 1) := by decide +kernel
theorem dMa_fits_41 : decode prog_5_method_6_code 41 = .ok (.getfield 18, 3) := by decide +kernel
theorem dMa_fits_44 : decode prog_5_method_6_code 44 = .ok (.iload 5, 2) := by decide +kernel
theorem dMa_fits_46 : decode prog_5_method_6_code 46 = .ok (.iconst 5, 1) := by decide +kernel
theorem dMa_fits_47 : decode prog_5_method_6_code 47 = .ok (.imul, 1) := by decide +kernel
theorem dMa_fits_48 : decode prog_5_method_6_code 48 = .ok (.iload 4, 2) := by decide +kernel
theorem dMa_fits_50 : decode prog_5_method_6_code 50 = .ok (.iadd, 1) := by decide +kernel
theorem dMa_fits_51 : decode prog_5_method_6_code 51 = .ok (.iaload, 1) := by decide +kernel
theorem dMa_fits_52 : decode prog_5_method_6_code 52 = .ok (.iload_n 3, 1) := by decide +kernel
theorem dMa_fits_53 : decode prog_5_method_6_code 53 = .ok (.if_icmp .ne 18, 3) := by decide +kernel
theorem dMa_fits_56 : decode prog_5_method_6_code 56 = .ok (.aload_n 0, 1) := by decide +kernel
theorem dMa_fits_57 : decode prog_5_method_6_code 57 = .ok (.aload_n 1, 1) := by decide +kernel
theorem dMa_fits_58 : decode prog_5_method_6_code 58 = .ok (.aload_n 2, 1) := by decide +kernel
theorem dMa_fits_59 : decode prog_5_method_6_code 59 = .ok (.iload 5, 2) := by decide +kernel
theorem dMa_fits_61 : decode prog_5_method_6_code 61 = .ok (.iload 4, 2) := by decide +kernel
theorem dMa_fits_63 : decode prog_5_method_6_code 63 = .ok (.invokevirtual 109, 3) := by decide +kernel
theorem dMa_fits_66 : decode prog_5_method_6_code 66 = .ok (.ifCond .ne 5, 3) := by decide +kernel
theorem dMa_fits_69 : decode prog_5_method_6_code 69 = .ok (.iconst 0, 1) := by decide +kernel
theorem dMa_fits_70 : decode prog_5_method_6_code 70 = .ok (.ireturn, 1) := by decide +kernel
theorem dMa_fits_71 : decode prog_5_method_6_code 71 = .ok (.iinc 5 1, 3) := by decide +kernel
theorem dMa_fits_74 : decode prog_5_method_6_code 74 = .ok (.goto (-41), 3) := by decide +kernel
theorem dMa_fits_77 : decode prog_5_method_6_code 77 = .ok (.iinc 4 1, 3) := by decide +kernel
theorem dMa_fits_80 : decode prog_5_method_6_code 80 = .ok (.goto (-56), 3) := by decide +kernel
theorem dMa_fits_83 : decode prog_5_method_6_code 83 = .ok (.iconst 1, 1) := by decide +kernel
theorem dMa_fits_84 : decode prog_5_method_6_code 84 = .ok (.ireturn, 1) := by decide +kernel
theorem t_Ma_fits {d : Nat} {x1 x2 x3 : Int} {σ : SG} {Q : Int → SG → Prop} (h : inI x3 → (rdok 106 83 x3 ∧ obok 2 (89 + 3 * x3) ∧ Tri d M_Ec_holds [vA (89 + 3 * x3), vA 79, vI (w32 (x3 * 5))] σ (fun r1 σ1 => (r1 = 0 → L (d + 1) M_Ma_fits 24 [vA 78, vA x1, vA x2, vI x3, vI 1, vU] [] σ1 Q) ∧ (r1 ≠ 0 → Q 0 σ1)))) : Tri (d + 1) M_Ma_fits [vA 78, vA x1, vA x2, vI x3] σ Q :=
  Tri_intro rfl (Nat.le_of_ble_eq_true rfl) (ls := [vA 78, vA x1, vA x2, vI x3, vU, vU]) rfl (fun hok => L_aload_n dMa_fits_0 rfl (L_getF (b := 83) fw_Ma_26 rfl rfl (by decide) dMa_fits_1 ⟨ob_78, L_iload_n dMa_fits_4 rfl (L_aaF (b := 89 + 3 * x3) (o := (6, 3)) (by decide) rfl (show (83 : Int) + 6 + 3 * x3 = 89 + 3 * x3 by omega) (by decide) dMa_fits_5 ⟨(h (hok _ (List.mem_of_getElem? (i := 3) rfl))).1, L_aload_n dMa_fits_6 rfl (L_getF (b := 79) fw_Ma_9 rfl rfl (by decide) dMa_fits_7 ⟨ob_78, L_iload_n dMa_fits_10 rfl (L_iconst dMa_fits_11 in_5 (L_imul dMa_fits_12 (L_callVI rfl cv_Ec_holds (As := [vA 79, vI (w32 (x3 * 5))]) rfl (tk5 204 rfl rfl) rfl (Nat.le_of_ble_eq_true rfl) dMa_fits_13 ⟨(h (hok _ (List.mem_of_getElem? (i := 3) rfl))).2.1, Tri.mono ((h (hok _ (List.mem_of_getElem? (i := 3) rfl))).2.2) (fun r1 σ1 q1 => L_if_eq dMa_fits_16 (by decide) ⟨fun c2 => L_iconst dMa_fits_21 in_1 (L_istore dMa_fits_22 (by decide) (q1.1 c2)), fun c2 => L_iconst dMa_fits_19 in_0 (L_zreturn0 rfl dMa_fits_20 (q1.2 c2))⟩)⟩)))⟩)⟩)⟩))
theorem s_Ma_fits_24 {d : Nat} {x1 x2 x3 x4 : Int} {σ : SG} {Q : Int → SG → Prop} (h : (x3 < x4 → Q 1 σ) ∧ (x4 ≤ x3 → L (d + 1) M_Ma_fits 33 [vA 78, vA x1, vA x2, vI x3, vI x4, vI 0] [] σ Q)) : L (d + 1) M_Ma_fits 24 [vA 78, vA x1, vA x2, vI x3, vI x4, vU] [] σ Q :=
  L_iload dMa_fits_24 rfl (L_iload_n dMa_fits_26 rfl (L_icmp_gt dMa_fits_27 (by decide) ⟨fun c1 => L_iconst dMa_fits_83 in_1 (L_zreturn1 rfl dMa_fits_84 (h.1 c1)), fun c1 => L_iconst dMa_fits_30 in_0 (L_istore dMa_fits_31 (by decide) (h.2 c1))⟩))
theorem s_Ma_fits_33 {d : Nat} {x1 x2 x3 x4 x5 : Int} {σ : SG} {Q : Int → SG → Prop} (h : (x4 ≤ x5 → L (d + 1) M_Ma_fits 24 [vA 78, vA x1, vA x2, vI x3, vI (w32 (x4 + 1)), vU] [] σ Q) ∧ (x5 < x4 → (0 ≤ w32 ((w32 (x5 * 5)) + x4) ∧ w32 ((w32 (x5 * 5)) + x4) < 25) ∧ (σ 81 (w32 ((w32 (x5 * 5)) + x4)) ≠ x3 → L (d + 1) M_Ma_fits 33 [vA 78, vA x1, vA x2, vI x3, vI x4, vI (w32 (x5 + 1))] [] σ Q) ∧ (σ 81 (w32 ((w32 (x5 * 5)) + x4)) = x3 → Tri d M_Ma_agrees [vA 78, vA x1, vA x2, vI x5, vI x4] σ (fun r3 σ3 => (r3 ≠ 0 → L (d + 1) M_Ma_fits 33 [vA 78, vA x1, vA x2, vI x3, vI x4, vI (w32 (x5 + 1))] [] σ3 Q) ∧ (r3 = 0 → Q 0 σ3))))) : L (d + 1) M_Ma_fits 33 [vA 78, vA x1, vA x2, vI x3, vI x4, vI x5] [] σ Q :=
  L_iload dMa_fits_33 rfl (L_iload dMa_fits_35 rfl (L_icmp_ge dMa_fits_37 (by decide) ⟨fun c1 => L_iinc dMa_fits_77 rfl (by decide) (L_goto dMa_fits_80 (by decide) (L_weak [true, true, true, true, true, false] (h.1 c1))), fun c1 => L_aload_n dMa_fits_40 rfl (L_getF (b := 81) fw_Ma_18 rfl rfl (by decide) dMa_fits_41 ⟨ob_78, L_iload dMa_fits_44 rfl (L_iconst dMa_fits_46 in_5 (L_imul dMa_fits_47 (L_iload dMa_fits_48 rfl (L_iadd dMa_fits_50 (L_ialoadL kd_81 dMa_fits_51 ⟨(h.2 c1).1, L_iload_n dMa_fits_52 rfl (L_icmp_ne dMa_fits_53 (by decide) ⟨fun c2 => L_iinc dMa_fits_71 rfl (by decide) (L_goto dMa_fits_74 (by decide) ((h.2 c1).2.1 c2)), fun c2 => L_aload_n dMa_fits_56 rfl (L_aload_n dMa_fits_57 rfl (L_aload_n dMa_fits_58 rfl (L_iload dMa_fits_59 rfl (L_iload dMa_fits_61 rfl (L_callVI rfl cv_Ma_agrees (As := [vA x1, vA x2, vI x5, vI x4]) rfl (tk5 205 rfl rfl) rfl (Nat.le_of_ble_eq_true rfl) dMa_fits_63 ⟨ob_78, Tri.mono ((h.2 c1).2.2 c2) (fun r3 σ3 q3 => L_if_ne dMa_fits_66 (by decide) ⟨fun c4 => L_iinc dMa_fits_71 rfl (by decide) (L_goto dMa_fits_74 (by decide) (q3.1 c4)), fun c4 => L_iconst dMa_fits_69 in_0 (L_zreturn0 rfl dMa_fits_70 (q3.2 c4))⟩)⟩)))))⟩)⟩)))))⟩)⟩))
theorem dMa_agrees_0 : decode prog_5_method_7_code 0 = .ok (.aload_n 0, 1) := by decide +kernel
theorem dMa_agrees_1 : decode prog_5_method_7_code 1 = .ok (.getfield 18, 3) := by decide +kernel
theorem dMa_agrees_4 : decode prog_5_method_7_code 4 = .ok (.iload_n 3, 1) := by decide +kernel
theorem dMa_agrees_5 : decode prog_5_method_7_code 5 = .ok (.iconst 5, 1) := by decide +kernel
theorem dMa_agrees_6 : decode prog_5_method_7_code 6 = .ok (.imul, 1) := by decide +kernel
theorem dMa_agrees_7 : decode prog_5_method_7_code 7 = .ok (.iload 4, 2) := by decide +kernel
theorem dMa_agrees_9 : decode prog_5_method_7_code 9 = .ok (.iadd, 1) := by decide +kernel
theorem dMa_agrees_10 : decode prog_5_method_7_code 10 = .ok (.iaload, 1) := by decide +kernel
theorem dMa_agrees_11 : decode prog_5_method_7_code 11 = .ok (.istore 5, 2) := by decide +kernel
theorem dMa_agrees_13 : decode prog_5_method_7_code 13 = .ok (.iload_n 3, 1) := by decide +kernel
theorem dMa_agrees_14 : decode prog_5_method_7_code 14 = .ok (.iconst 5, 1) := by decide +kernel
theorem dMa_agrees_15 : decode prog_5_method_7_code 15 = .ok (.imul, 1) := by decide +kernel
theorem dMa_agrees_16 : decode prog_5_method_7_code 16 = .ok (.iload 4, 2) := by decide +kernel
theorem dMa_agrees_18 : decode prog_5_method_7_code 18 = .ok (.iadd, 1) := by decide +kernel
theorem dMa_agrees_19 : decode prog_5_method_7_code 19 = .ok (.iconst 5, 1) := by decide +kernel
theorem dMa_agrees_20 : decode prog_5_method_7_code 20 = .ok (.imul, 1) := by decide +kernel
theorem dMa_agrees_21 : decode prog_5_method_7_code 21 = .ok (.istore 6, 2) := by decide +kernel
theorem dMa_agrees_23 : decode prog_5_method_7_code 23 = .ok (.iconst 0, 1) := by decide +kernel
theorem dMa_agrees_24 : decode prog_5_method_7_code 24 = .ok (.istore 7, 2) := by decide +kernel
theorem dMa_agrees_26 : decode prog_5_method_7_code 26 = .ok (.iload 7, 2) := by decide +kernel
theorem dMa_agrees_28 : decode prog_5_method_7_code 28 = .ok (.aload_n 2, 1) := by decide +kernel
theorem dMa_agrees_29 : decode prog_5_method_7_code 29 = .ok (.getfield 72, 3) := by decide +kernel
theorem dMa_agrees_32 : decode prog_5_method_7_code 32 = .ok (.if_icmp .ge 123, 3) := by decide +kernel
theorem dMa_agrees_35 : decode prog_5_method_7_code 35 = .ok (.iconst 0, 1) := by decide +kernel
theorem dMa_agrees_36 : decode prog_5_method_7_code 36 = .ok (.istore 8, 2) := by decide +kernel
theorem dMa_agrees_38 : decode prog_5_method_7_code 38 = .ok (.iconst 0, 1) := by decide +kernel
theorem dMa_agrees_39 : decode prog_5_method_7_code 39 = .ok (.istore 9, 2) := by decide +kernel
theorem dMa_agrees_41 : decode prog_5_method_7_code 41 = .ok (.iload 9, 2) := by decide +kernel
theorem dMa_agrees_43 : decode prog_5_method_7_code 43 = .ok (.aload_n 2, 1) := by decide +kernel
theorem dMa_agrees_44 : decode prog_5_method_7_code 44 = .ok (.getfield 72, 3) := by decide +kernel
theorem dMa_agrees_47 : decode prog_5_method_7_code 47 = .ok (.if_icmp .ge 44, 3) := by decide +kernel
theorem dMa_agrees_50 : decode prog_5_method_7_code 50 = .ok (.iload 8, 2) := by decide +kernel
theorem dMa_agrees_52 : decode prog_5_method_7_code 52 = .ok (.aload_n 0, 1) := by decide +kernel
theorem dMa_agrees_53 : decode prog_5_method_7_code 53 = .ok (.getfield 9, 3) := by decide +kernel
theorem dMa_agrees_56 : decode prog_5_method_7_code 56 = .ok (.iload 4, 2) := by decide +kernel
theorem dMa_agrees_58 : decode prog_5_method_7_code 58 = .ok (.iconst 5, 1) := by decide +kernel
theorem dMa_agrees_59 : decode prog_5_method_7_code 59 = .ok (.imul, 1) := by decide +kernel
theorem dMa_agrees_60 : decode prog_5_method_7_code 60 = .ok (.iload 9, 2) := by decide +kernel
theorem dMa_agrees_62 : decode prog_5_method_7_code 62 = .ok (.iadd, 1) := by decide +kernel
theorem dMa_agrees_63 : decode prog_5_method_7_code 63 = .ok (.iaload, 1) := by decide +kernel
theorem dMa_agrees_64 : decode prog_5_method_7_code 64 = .ok (.aload_n 0, 1) := by decide +kernel
theorem dMa_agrees_65 : decode prog_5_method_7_code 65 = .ok (.getfield 15, 3) := by decide +kernel
theorem dMa_agrees_68 : decode prog_5_method_7_code 68 = .ok (.iload_n 3, 1) := by decide +kernel
theorem dMa_agrees_69 : decode prog_5_method_7_code 69 = .ok (.bipush 25, 2) := by decide +kernel
theorem dMa_agrees_71 : decode prog_5_method_7_code 71 = .ok (.imul, 1) := by decide +kernel
theorem dMa_agrees_72 : decode prog_5_method_7_code 72 = .ok (.iload 9, 2) := by decide +kernel
theorem dMa_agrees_74 : decode prog_5_method_7_code 74 = .ok (.iconst 5, 1) := by decide +kernel
theorem dMa_agrees_75 : decode prog_5_method_7_code 75 = .ok (.imul, 1) := by decide +kernel
theorem dMa_agrees_76 : decode prog_5_method_7_code 76 = .ok (.iadd, 1) := by decide +kernel
theorem dMa_agrees_77 : decode prog_5_method_7_code 77 = .ok (.iload 7, 2) := by decide +kernel
theorem dMa_agrees_79 : decode prog_5_method_7_code 79 = .ok (.iadd, 1) := by decide +kernel
theorem dMa_agrees_80 : decode prog_5_method_7_code 80 = .ok (.iaload, 1) := by decide +kernel
theorem dMa_agrees_81 : decode prog_5_method_7_code 81 = .ok (.imul, 1) := by decide +kernel
theorem dMa_agrees_82 : decode prog_5_method_7_code 82 = .ok (.iadd, 1) := by decide +kernel
theorem dMa_agrees_83 : decode prog_5_method_7_code 83 = .ok (.istore 8, 2) := by decide +kernel
theorem dMa_agrees_85 : decode prog_5_method_7_code 85 = .ok (.iinc 9 1, 3) := by decide +kernel
theorem dMa_agrees_88 : decode prog_5_method_7_code 88 = .ok (.goto (-47), 3) := by decide +kernel
theorem dMa_agrees_91 : decode prog_5_method_7_code 91 = .ok (.iconst 0, 1) := by decide +kernel
theorem dMa_agrees_92 : decode prog_5_method_7_code 92 = .ok (.istore 9, 2) := by decide +kernel
theorem dMa_agrees_94 : decode prog_5_method_7_code 94 = .ok (.iload 9, 2) := by decide +kernel
theorem dMa_agrees_96 : decode prog_5_method_7_code 96 = .ok (.iload 5, 2) := by decide +kernel
theorem dMa_agrees_98 : decode prog_5_method_7_code 98 = .ok (.if_icmp .gt 37, 3) := by decide +kernel
theorem dMa_agrees_101 : decode prog_5_method_7_code 101 = .ok (.iload 8, 2) := by decide +kernel
theorem dMa_agrees_103 : decode prog_5_method_7_code 103 = .ok (.aload_n 1, 1) := by decide +kernel
theorem dMa_agrees_104 : decode prog_5_method_7_code 104 = .ok (.getfield 113, 3) := by decide +kernel
theorem dMa_agrees_107 : decode prog_5_method_7_code 107 = .ok (.iload 6, 2) := by decide +kernel
theorem dMa_agrees_109 : decode prog_5_method_7_code 109 = .ok (.iload 9, 2) := by decide +kernel
theorem dMa_agrees_111 : decode prog_5_method_7_code 111 = .ok (.iadd, 1) := by decide +kernel
theorem dMa_agrees_112 : decode prog_5_method_7_code 112 = .ok (.iaload, 1) := by decide +kernel
theorem dMa_agrees_113 : decode prog_5_method_7_code 113 = .ok (.aload_n 0, 1) := by decide +kernel
theorem dMa_agrees_114 : decode prog_5_method_7_code 114 = .ok (.getfield 9, 3) := by decide +kernel
theorem dMa_agrees_117 : decode prog_5_method_7_code 117 = .ok (.iload 9, 2) := by decide +kernel
theorem dMa_agrees_119 : decode prog_5_method_7_code 119 = .ok (.iconst 5, 1) := by decide +kernel
theorem dMa_agrees_120 : decode prog_5_method_7_code 120 = .ok (.imul, 1) := by decide +kernel
theorem dMa_agrees_121 : decode prog_5_method_7_code 121 = .ok (.iload 7, 2) := by decide +kernel
theorem dMa_agrees_123 : decode prog_5_method_7_code 123 = .ok (.iadd, 1) := by decide +kernel
theorem dMa_agrees_124 : decode prog_5_method_7_code 124 = .ok (.iaload, 1) := by decide +kernel
theorem dMa_agrees_125 : decode prog_5_method_7_code 125 = .ok (.imul, 1) := by decide +kernel
theorem dMa_agrees_126 : decode prog_5_method_7_code 126 = .ok (.isub, 1) := by decide +kernel
theorem dMa_agrees_127 : decode prog_5_method_7_code 127 = .ok (.istore 8, 2) := by decide +kernel
theorem dMa_agrees_129 : decode prog_5_method_7_code 129 = .ok (.iinc 9 1, 3) := by decide +kernel
theorem dMa_agrees_132 : decode prog_5_method_7_code 132 = .ok (.goto (-38), 3) := by decide +kernel
theorem dMa_agrees_135 : decode prog_5_method_7_code 135 = .ok (.iload 8, 2) := by decide +kernel
theorem dMa_agrees_137 : decode prog_5_method_7_code 137 = .ok (.aload_n 2, 1) := by decide +kernel
theorem dMa_agrees_138 : decode prog_5_method_7_code 138 = .ok (.getfield 69, 3) := by decide +kernel
theorem dMa_agrees_141 : decode prog_5_method_7_code 141 = .ok (.invokestatic 116, 3) := by decide +kernel
theorem dMa_agrees_144 : decode prog_5_method_7_code 144 = .ok (.ifCond .eq 5, 3) := by decide +kernel
theorem dMa_agrees_147 : decode prog_5_method_7_code 147 = .ok (.iconst 0, 1) := by decide +kernel
theorem dMa_agrees_148 : decode prog_5_method_7_code 148 = .ok (.ireturn, 1) := by decide +kernel
theorem dMa_agrees_149 : decode prog_5_method_7_code 149 = .ok (.iinc 7 1, 3) := by decide +kernel
theorem dMa_agrees_152 : decode prog_5_method_7_code 152 = .ok (.goto (-126), 3) := by decide +kernel
theorem dMa_agrees_155 : decode prog_5_method_7_code 155 = .ok (.iconst 1, 1) := by decide +kernel
theorem dMa_agrees_156 : decode prog_5_method_7_code 156 = .ok (.ireturn, 1) := by decide +kernel
theorem t_Ma_agrees {d : Nat} {x1 x2 x3 x4 : Int} {σ : SG} {Q : Int → SG → Prop} (h : inI x3 → inI x4 → ((0 ≤ w32 ((w32 (x3 * 5)) + x4) ∧ w32 ((w32 (x3 * 5)) + x4) < 25) ∧ L (d + 1) M_Ma_agrees 26 [vA 78, vA x1, vA x2, vI x3, vI x4, vI (σ 81 (w32 ((w32 (x3 * 5)) + x4))), vI (w32 ((w32 ((w32 (x3 * 5)) + x4)) * 5)), vI 0, vU, vU] [] σ Q)) : Tri (d + 1) M_Ma_agrees [vA 78, vA x1, vA x2, vI x3, vI x4] σ Q :=
  Tri_intro rfl (Nat.le_of_ble_eq_true rfl) (ls := [vA 78, vA x1, vA x2, vI x3, vI x4, vU, vU, vU, vU, vU]) rfl (fun hok => L_aload_n dMa_agrees_0 rfl (L_getF (b := 81) fw_Ma_18 rfl rfl (by decide) dMa_agrees_1 ⟨ob_78, L_iload_n dMa_agrees_4 rfl (L_iconst dMa_agrees_5 in_5 (L_imul dMa_agrees_6 (L_iload dMa_agrees_7 rfl (L_iadd dMa_agrees_9 (L_ialoadL kd_81 dMa_agrees_10 ⟨(h (hok _ (List.mem_of_getElem? (i := 3) rfl)) (hok _ (List.mem_of_getElem? (i := 4) rfl))).1, L_istore dMa_agrees_11 (by decide) (L_iload_n dMa_agrees_13 rfl (L_iconst dMa_agrees_14 in_5 (L_imul dMa_agrees_15 (L_iload dMa_agrees_16 rfl (L_iadd dMa_agrees_18 (L_iconst dMa_agrees_19 in_5 (L_imul dMa_agrees_20 (L_istore dMa_agrees_21 (by decide) (L_iconst dMa_agrees_23 in_0 (L_istore dMa_agrees_24 (by decide) ((h (hok _ (List.mem_of_getElem? (i := 3) rfl)) (hok _ (List.mem_of_getElem? (i := 4) rfl))).2)))))))))))⟩)))))⟩))
theorem s_Ma_agrees_26 {d : Nat} {x1 x2 x3 x4 x5 x6 x7 : Int} {σ : SG} {Q : Int → SG → Prop} (h : obok 10 x2 ∧ (σ x2 2 ≤ x7 → Q 1 σ) ∧ (x7 < σ x2 2 → L (d + 1) M_Ma_agrees 41 [vA 78, vA x1, vA x2, vI x3, vI x4, vI x5, vI x6, vI x7, vI 0, vI 0] [] σ Q)) : L (d + 1) M_Ma_agrees 26 [vA 78, vA x1, vA x2, vI x3, vI x4, vI x5, vI x6, vI x7, vU, vU] [] σ Q :=
  L_iload dMa_agrees_26 rfl (L_aload_n dMa_agrees_28 rfl (L_getf fw_Ma_72 rfl dMa_agrees_29 ⟨h.1, L_icmp_ge dMa_agrees_32 (by decide) ⟨fun c1 => L_iconst dMa_agrees_155 in_1 (L_zreturn1 rfl dMa_agrees_156 (h.2.1 c1)), fun c1 => L_iconst dMa_agrees_35 in_0 (L_istore dMa_agrees_36 (by decide) (L_iconst dMa_agrees_38 in_0 (L_istore dMa_agrees_39 (by decide) (h.2.2 c1))))⟩⟩))
theorem s_Ma_agrees_41 {d : Nat} {x1 x2 x3 x4 x5 x6 x7 x8 x9 : Int} {σ : SG} {Q : Int → SG → Prop} (h : obok 10 x2 ∧ (σ x2 2 ≤ x9 → L (d + 1) M_Ma_agrees 94 [vA 78, vA x1, vA x2, vI x3, vI x4, vI x5, vI x6, vI x7, vI x8, vI 0] [] σ Q) ∧ (x9 < σ x2 2 → (0 ≤ w32 ((w32 (x4 * 5)) + x9) ∧ w32 ((w32 (x4 * 5)) + x9) < 25) ∧ (0 ≤ w32 ((w32 ((w32 (x3 * 25)) + (w32 (x9 * 5)))) + x7) ∧ w32 ((w32 ((w32 (x3 * 25)) + (w32 (x9 * 5)))) + x7) < 125) ∧ L (d + 1) M_Ma_agrees 41 [vA 78, vA x1, vA x2, vI x3, vI x4, vI x5, vI x6, vI x7, vI (w32 (x8 + (w32 ((σ 79 (w32 ((w32 (x4 * 5)) + x9))) * (σ 80 (w32 ((w32 ((w32 (x3 * 25)) + (w32 (x9 * 5)))) + x7))))))), vI (w32 (x9 + 1))] [] σ Q)) : L (d + 1) M_Ma_agrees 41 [vA 78, vA x1, vA x2, vI x3, vI x4, vI x5, vI x6, vI x7, vI x8, vI x9] [] σ Q :=
  L_iload dMa_agrees_41 rfl (L_aload_n dMa_agrees_43 rfl (L_getf fw_Ma_72 rfl dMa_agrees_44 ⟨h.1, L_icmp_ge dMa_agrees_47 (by decide) ⟨fun c1 => L_iconst dMa_agrees_91 in_0 (L_istore dMa_agrees_92 (by decide) (h.2.1 c1)), fun c1 => L_iload dMa_agrees_50 rfl (L_aload_n dMa_agrees_52 rfl (L_getF (b := 79) fw_Ma_9 rfl rfl (by decide) dMa_agrees_53 ⟨ob_78, L_iload dMa_agrees_56 rfl (L_iconst dMa_agrees_58 in_5 (L_imul dMa_agrees_59 (L_iload dMa_agrees_60 rfl (L_iadd dMa_agrees_62 (L_ialoadL kd_79 dMa_agrees_63 ⟨(h.2.2 c1).1, L_aload_n dMa_agrees_64 rfl (L_getF (b := 80) fw_Ma_15 rfl rfl (by decide) dMa_agrees_65 ⟨ob_78, L_iload_n dMa_agrees_68 rfl (L_bipush dMa_agrees_69 bp_25 in_25 (L_imul dMa_agrees_71 (L_iload dMa_agrees_72 rfl (L_iconst dMa_agrees_74 in_5 (L_imul dMa_agrees_75 (L_iadd dMa_agrees_76 (L_iload dMa_agrees_77 rfl (L_iadd dMa_agrees_79 (L_ialoadL kd_80 dMa_agrees_80 ⟨(h.2.2 c1).2.1, L_imul dMa_agrees_81 (L_iadd dMa_agrees_82 (L_istore dMa_agrees_83 (by decide) (L_iinc dMa_agrees_85 rfl (by decide) (L_goto dMa_agrees_88 (by decide) ((h.2.2 c1).2.2)))))⟩)))))))))⟩)⟩)))))⟩))⟩⟩))
theorem s_Ma_agrees_94 {d : Nat} {x1 x2 x3 x4 x5 x6 x7 x8 x9 : Int} {σ : SG} {Q : Int → SG → Prop} (h : (x5 < x9 → obok 10 x2 ∧ Tri d M_X_mod [vI x8, vI (σ x2 1)] σ (fun r2 σ2 => (r2 = 0 → L (d + 1) M_Ma_agrees 26 [vA 78, vA x1, vA x2, vI x3, vI x4, vI x5, vI x6, vI (w32 (x7 + 1)), vU, vU] [] σ2 Q) ∧ (r2 ≠ 0 → Q 0 σ2))) ∧ (x9 ≤ x5 → obok 10 x1 ∧ rdok 100 (x1 + 1) (w32 (x6 + x9)) ∧ (0 ≤ w32 ((w32 (x9 * 5)) + x7) ∧ w32 ((w32 (x9 * 5)) + x7) < 25) ∧ L (d + 1) M_Ma_agrees 94 [vA 78, vA x1, vA x2, vI x3, vI x4, vI x5, vI x6, vI x7, vI (w32 (x8 - (w32 ((σ (x1 + 1) (w32 (x6 + x9))) * (σ 79 (w32 ((w32 (x9 * 5)) + x7))))))), vI (w32 (x9 + 1))] [] σ Q)) : L (d + 1) M_Ma_agrees 94 [vA 78, vA x1, vA x2, vI x3, vI x4, vI x5, vI x6, vI x7, vI x8, vI x9] [] σ Q :=
  L_iload dMa_agrees_94 rfl (L_iload dMa_agrees_96 rfl (L_icmp_gt dMa_agrees_98 (by decide) ⟨fun c1 => L_iload dMa_agrees_135 rfl (L_aload_n dMa_agrees_137 rfl (L_getf fw_Ma_69 rfl dMa_agrees_138 ⟨(h.1 c1).1, L_callNI rfl cs_X_mod (As := [vI x8, vI (σ x2 1)]) rfl (by decide +kernel) rfl (Nat.le_of_ble_eq_true rfl) dMa_agrees_141 (Tri.mono ((h.1 c1).2) (fun r2 σ2 q2 => L_if_eq dMa_agrees_144 (by decide) ⟨fun c3 => L_iinc dMa_agrees_149 rfl (by decide) (L_goto dMa_agrees_152 (by decide) (L_weak [true, true, true, true, true, true, true, true, false, false] (q2.1 c3))), fun c3 => L_iconst dMa_agrees_147 in_0 (L_zreturn0 rfl dMa_agrees_148 (q2.2 c3))⟩))⟩)), fun c1 => L_iload dMa_agrees_101 rfl (L_aload_n dMa_agrees_103 rfl (L_getF (b := x1 + 1) fw_Ma_113 rfl rfl (by omega) dMa_agrees_104 ⟨(h.2 c1).1, L_iload dMa_agrees_107 rfl (L_iload dMa_agrees_109 rfl (L_iadd dMa_agrees_111 (L_iaload dMa_agrees_112 ⟨(h.2 c1).2.1, L_aload_n dMa_agrees_113 rfl (L_getF (b := 79) fw_Ma_9 rfl rfl (by decide) dMa_agrees_114 ⟨ob_78, L_iload dMa_agrees_117 rfl (L_iconst dMa_agrees_119 in_5 (L_imul dMa_agrees_120 (L_iload dMa_agrees_121 rfl (L_iadd dMa_agrees_123 (L_ialoadL kd_79 dMa_agrees_124 ⟨(h.2 c1).2.2.1, L_imul dMa_agrees_125 (L_isub dMa_agrees_126 (L_istore dMa_agrees_127 (by decide) (L_iinc dMa_agrees_129 rfl (by decide) (L_goto dMa_agrees_132 (by decide) ((h.2 c1).2.2.2)))))⟩)))))⟩)⟩)))⟩))⟩))
theorem dMa_goDeeper_0 : decode prog_5_method_8_code 0 = .ok (.iconst 0, 1) := by decide +kernel
theorem dMa_goDeeper_1 : decode prog_5_method_8_code 1 = .ok (.istore_n 3, 1) := by decide +kernel
theorem dMa_goDeeper_2 : decode prog_5_method_8_code 2 = .ok (.iload_n 3, 1) := by decide +kernel
theorem dMa_goDeeper_3 : decode prog_5_method_8_code 3 = .ok (.aload_n 1, 1) := by decide +kernel
theorem dMa_goDeeper_4 : decode prog_5_method_8_code 4 = .ok (.getfield 72, 3) := by decide +kernel
theorem dMa_goDeeper_7 : decode prog_5_method_8_code 7 = .ok (.if_icmp .ge 99, 3) := by decide +kernel
theorem dMa_goDeeper_10 : decode prog_5_method_8_code 10 = .ok (.iconst 0, 1) := by decide +kernel
theorem dMa_goDeeper_11 : decode prog_5_method_8_code 11 = .ok (.istore 4, 2) := by decide +kernel
theorem dMa_goDeeper_13 : decode prog_5_method_8_code 13 = .ok (.iload 4, 2) := by decide +kernel
theorem dMa_goDeeper_15 : decode prog_5_method_8_code 15 = .ok (.aload_n 1, 1) := by decide +kernel
theorem dMa_goDeeper_16 : decode prog_5_method_8_code 16 = .ok (.getfield 72, 3) := by decide +kernel
theorem dMa_goDeeper_19 : decode prog_5_method_8_code 19 = .ok (.if_icmp .ge 81, 3) := by decide +kernel
theorem dMa_goDeeper_22 : decode prog_5_method_8_code 22 = .ok (.iconst 0, 1) := by decide +kernel
theorem dMa_goDeeper_23 : decode prog_5_method_8_code 23 = .ok (.istore 5, 2) := by decide +kernel
theorem dMa_goDeeper_25 : decode prog_5_method_8_code 25 = .ok (.iconst 0, 1) := by decide +kernel
theorem dMa_goDeeper_26 : decode prog_5_method_8_code 26 = .ok (.istore 6, 2) := by decide +kernel
theorem dMa_goDeeper_28 : decode prog_5_method_8_code 28 = .ok (.iload 6, 2) := by decide +kernel
theorem dMa_goDeeper_30 : decode prog_5_method_8_code 30 = .ok (.aload_n 1, 1) := by decide +kernel
theorem dMa_goDeeper_31 : decode prog_5_method_8_code 31 = .ok (.getfield 72, 3) := by decide +kernel
theorem dMa_goDeeper_34 : decode prog_5_method_8_code 34 = .ok (.if_icmp .ge 35, 3) := by decide +kernel
theorem dMa_goDeeper_37 : decode prog_5_method_8_code 37 = .ok (.iload 5, 2) := by decide +kernel
theorem dMa_goDeeper_39 : decode prog_5_method_8_code 39 = .ok (.aload_n 0, 1) := by decide +kernel
theorem dMa_goDeeper_40 : decode prog_5_method_8_code 40 = .ok (.getfield 9, 3) := by decide +kernel
theorem dMa_goDeeper_43 : decode prog_5_method_8_code 43 = .ok (.iload_n 2, 1) := by decide +kernel
theorem dMa_goDeeper_44 : decode prog_5_method_8_code 44 = .ok (.iconst 5, 1) := by decide +kernel
theorem dMa_goDeeper_45 : decode prog_5_method_8_code 45 = .ok (.imul, 1) := by decide +kernel
theorem dMa_goDeeper_46 : decode prog_5_method_8_code 46 = .ok (.iload 6, 2) := by decide +kernel
theorem dMa_goDeeper_48 : decode prog_5_method_8_code 48 = .ok (.iadd, 1) := by decide +kernel
theorem dMa_goDeeper_49 : decode prog_5_method_8_code 49 = .ok (.iaload, 1) := by decide +kernel
theorem dMa_goDeeper_50 : decode prog_5_method_8_code 50 = .ok (.aload_n 1, 1) := by decide +kernel
theorem dMa_goDeeper_51 : decode prog_5_method_8_code 51 = .ok (.iload 6, 2) := by decide +kernel
theorem dMa_goDeeper_53 : decode prog_5_method_8_code 53 = .ok (.iload_n 3, 1) := by decide +kernel
theorem dMa_goDeeper_54 : decode prog_5_method_8_code 54 = .ok (.iload 4, 2) := by decide +kernel
theorem dMa_goDeeper_56 : decode prog_5_method_8_code 56 = .ok (.invokevirtual 95, 3) := by decide +kernel
theorem dMa_goDeeper_59 : decode prog_5_method_8_code 59 = .ok (.imul, 1) := by decide +kernel
theorem dMa_goDeeper_60 : decode prog_5_method_8_code 60 = .ok (.iadd, 1) := by decide +kernel
theorem dMa_goDeeper_61 : decode prog_5_method_8_code 61 = .ok (.istore 5, 2) := by decide +kernel
theorem dMa_goDeeper_63 : decode prog_5_method_8_code 63 = .ok (.iinc 6 1, 3) := by decide +kernel
theorem dMa_goDeeper_66 : decode prog_5_method_8_code 66 = .ok (.goto (-38), 3) := by decide +kernel
theorem dMa_goDeeper_69 : decode prog_5_method_8_code 69 = .ok (.aload_n 0, 1) := by decide +kernel
theorem dMa_goDeeper_70 : decode prog_5_method_8_code 70 = .ok (.getfield 15, 3) := by decide +kernel
theorem dMa_goDeeper_73 : decode prog_5_method_8_code 73 = .ok (.iload_n 2, 1) := by decide +kernel
theorem dMa_goDeeper_74 : decode prog_5_method_8_code 74 = .ok (.bipush 25, 2) := by decide +kernel
theorem dMa_goDeeper_76 : decode prog_5_method_8_code 76 = .ok (.imul, 1) := by decide +kernel
theorem dMa_goDeeper_77 : decode prog_5_method_8_code 77 = .ok (.iload_n 3, 1) := by decide +kernel
theorem dMa_goDeeper_78 : decode prog_5_method_8_code 78 = .ok (.iconst 5, 1) := by decide +kernel
theorem dMa_goDeeper_79 : decode prog_5_method_8_code 79 = .ok (.imul, 1) := by decide +kernel
theorem dMa_goDeeper_80 : decode prog_5_method_8_code 80 = .ok (.iadd, 1) := by decide +kernel
theorem dMa_goDeeper_81 : decode prog_5_method_8_code 81 = .ok (.iload 4, 2) := by decide +kernel
theorem dMa_goDeeper_83 : decode prog_5_method_8_code 83 = .ok (.iadd, 1) := by decide +kernel
theorem dMa_goDeeper_84 : decode prog_5_method_8_code 84 = .ok (.iload 5, 2) := by decide +kernel
theorem dMa_goDeeper_86 : decode prog_5_method_8_code 86 = .ok (.aload_n 1, 1) := by decide +kernel
theorem dMa_goDeeper_87 : decode prog_5_method_8_code 87 = .ok (.getfield 69, 3) := by decide +kernel
theorem dMa_goDeeper_90 : decode prog_5_method_8_code 90 = .ok (.invokestatic 116, 3) := by decide +kernel
theorem dMa_goDeeper_93 : decode prog_5_method_8_code 93 = .ok (.iastore, 1) := by decide +kernel
theorem dMa_goDeeper_94 : decode prog_5_method_8_code 94 = .ok (.iinc 4 1, 3) := by decide +kernel
theorem dMa_goDeeper_97 : decode prog_5_method_8_code 97 = .ok (.goto (-84), 3) := by decide +kernel
theorem dMa_goDeeper_100 : decode prog_5_method_8_code 100 = .ok (.iinc 3 1, 3) := by decide +kernel
theorem dMa_goDeeper_103 : decode prog_5_method_8_code 103 = .ok (.goto (-101), 3) := by decide +kernel
theorem dMa_goDeeper_106 : decode prog_5_method_8_code 106 = .ok (.aload_n 0, 1) := by decide +kernel
theorem dMa_goDeeper_107 : decode prog_5_method_8_code 107 = .ok (.getfield 26, 3) := by decide +kernel
theorem dMa_goDeeper_110 : decode prog_5_method_8_code 110 = .ok (.iload_n 2, 1) := by decide +kernel
theorem dMa_goDeeper_111 : decode prog_5_method_8_code 111 = .ok (.iconst 1, 1) := by decide +kernel
theorem dMa_goDeeper_112 : decode prog_5_method_8_code 112 = .ok (.iadd, 1) := by decide +kernel
theorem dMa_goDeeper_113 : decode prog_5_method_8_code 113 = .ok (.aaload, 1) := by decide +kernel
theorem dMa_goDeeper_114 : decode prog_5_method_8_code 114 = .ok (.aload_n 0, 1) := by decide +kernel
theorem dMa_goDeeper_115 : decode prog_5_method_8_code 115 = .ok (.getfield 26, 3) := by decide +kernel
theorem dMa_goDeeper_118 : decode prog_5_method_8_code 118 = .ok (.iload_n 2, 1) := by decide +kernel
theorem dMa_goDeeper_119 : decode prog_5_method_8_code 119 = .ok (.aaload, 1) := by decide +kernel
theorem dMa_goDeeper_120 : decode prog_5_method_8_code 120 = .ok (.invokevirtual 120, 3) := by decide +kernel
theorem dMa_goDeeper_123 : decode prog_5_method_8_code 123 = .ok (.aload_n 0, 1) := by decide +kernel
theorem dMa_goDeeper_124 : decode prog_5_method_8_code 124 = .ok (.getfield 26, 3) := by decide +kernel
theorem dMa_goDeeper_127 : decode prog_5_method_8_code 127 = .ok (.iload_n 2, 1) := by decide +kernel
theorem dMa_goDeeper_128 : decode prog_5_method_8_code 128 = .ok (.iconst 1, 1) := by decide +kernel
theorem dMa_goDeeper_129 : decode prog_5_method_8_code 129 = .ok (.iadd, 1) := by decide +kernel
theorem dMa_goDeeper_130 : decode prog_5_method_8_code 130 = .ok (.aaload, 1) := by decide +kernel
theorem dMa_goDeeper_131 : decode prog_5_method_8_code 131 = .ok (.aload_n 0, 1) := by decide +kernel
theorem dMa_goDeeper_132 : decode prog_5_method_8_code 132 = .ok (.getfield 9, 3) := by decide +kernel
theorem dMa_goDeeper_135 : decode prog_5_method_8_code 135 = .ok (.iload_n 2, 1) := by decide +kernel
theorem dMa_goDeeper_136 : decode prog_5_method_8_code 136 = .ok (.iconst 5, 1) := by decide +kernel
theorem dMa_goDeeper_137 : decode prog_5_method_8_code 137 = .ok (.imul, 1) := by decide +kernel
theorem dMa_goDeeper_138 : decode prog_5_method_8_code 138 = .ok (.invokevirtual 124, 3) := by decide +kernel
theorem dMa_goDeeper_141 : decode prog_5_method_8_code 141 = .ok (.pop, 1) := by decide +kernel
theorem dMa_goDeeper_142 : decode prog_5_method_8_code 142 = .ok (.aload_n 0, 1) := by decide +kernel
theorem dMa_goDeeper_143 : decode prog_5_method_8_code 143 = .ok (.iload_n 2, 1) := by decide +kernel
theorem dMa_goDeeper_144 : decode prog_5_method_8_code 144 = .ok (.iconst 1, 1) := by decide +kernel
theorem dMa_goDeeper_145 : decode prog_5_method_8_code 145 = .ok (.iadd, 1) := by decide +kernel
theorem dMa_goDeeper_146 : decode prog_5_method_8_code 146 = .ok (.invokevirtual 79, 3) := by decide +kernel
theorem dMa_goDeeper_149 : decode prog_5_method_8_code 149 = .ok (.return_, 1) := by decide +kernel
theorem t_Ma_goDeeper {d : Nat} {x1 x2 : Int} {σ : SG} {Q : Int → SG → Prop} (h : inI x2 → (L (d + 1) M_Ma_goDeeper 2 [vA 78, vA x1, vI x2, vI 0, vU, vU, vU] [] σ Q)) : Tri (d + 1) M_Ma_goDeeper [vA 78, vA x1, vI x2] σ Q :=
  Tri_intro rfl (Nat.le_of_ble_eq_true rfl) (ls := [vA 78, vA x1, vI x2, vU, vU, vU, vU]) rfl (fun hok => L_iconst dMa_goDeeper_0 in_0 (L_istore_n dMa_goDeeper_1 (by decide) ((h (hok _ (List.mem_of_getElem? (i := 2) rfl))))))
theorem s_Ma_goDeeper_2 {d : Nat} {x1 x2 x3 : Int} {σ : SG} {Q : Int → SG → Prop} (h : obok 10 x1 ∧ (σ x1 2 ≤ x3 → rdok 106 83 (w32 (x2 + 1)) ∧ rdok 106 83 x2 ∧ obok 2 (89 + 3 * (w32 (x2 + 1))) ∧ Tri d M_Ec_copyFrom [vA (89 + 3 * (w32 (x2 + 1))), vA (89 + 3 * x2)] σ (fun r2 σ2 => rdok 106 83 (w32 (x2 + 1)) ∧ obok 2 (89 + 3 * (w32 (x2 + 1))) ∧ Tri d M_Ec_add [vA (89 + 3 * (w32 (x2 + 1))), vA 79, vI (w32 (x2 * 5))] σ2 (fun r3 σ3 => Tri d M_Ma_startLevel [vA 78, vI (w32 (x2 + 1))] σ3 (fun r4 σ4 => Q 0 σ4)))) ∧ (x3 < σ x1 2 → L (d + 1) M_Ma_goDeeper 13 [vA 78, vA x1, vI x2, vI x3, vI 0, vU, vU] [] σ Q)) : L (d + 1) M_Ma_goDeeper 2 [vA 78, vA x1, vI x2, vI x3, vU, vU, vU] [] σ Q :=
  L_iload_n dMa_goDeeper_2 rfl (L_aload_n dMa_goDeeper_3 rfl (L_getf fw_Ma_72 rfl dMa_goDeeper_4 ⟨h.1, L_icmp_ge dMa_goDeeper_7 (by decide) ⟨fun c1 => L_aload_n dMa_goDeeper_106 rfl (L_getF (b := 83) fw_Ma_26 rfl rfl (by decide) dMa_goDeeper_107 ⟨ob_78, L_iload_n dMa_goDeeper_110 rfl (L_iconst dMa_goDeeper_111 in_1 (L_iadd dMa_goDeeper_112 (L_aaF (b := 89 + 3 * (w32 (x2 + 1))) (o := (6, 3)) (by decide) rfl (show (83 : Int) + 6 + 3 * (w32 (x2 + 1)) = 89 + 3 * (w32 (x2 + 1)) by omega) (by decide) dMa_goDeeper_113 ⟨(h.2.1 c1).1, L_aload_n dMa_goDeeper_114 rfl (L_getF (b := 83) fw_Ma_26 rfl rfl (by decide) dMa_goDeeper_115 ⟨ob_78, L_iload_n dMa_goDeeper_118 rfl (L_aaF (b := 89 + 3 * x2) (o := (6, 3)) (by decide) rfl (show (83 : Int) + 6 + 3 * x2 = 89 + 3 * x2 by omega) (by decide) dMa_goDeeper_119 ⟨(h.2.1 c1).2.1, L_callVV rfl cv_Ec_copyFrom (As := [vA (89 + 3 * x2)]) rfl (tk5 214 rfl rfl) rfl (Nat.le_of_ble_eq_true rfl) dMa_goDeeper_120 ⟨(h.2.1 c1).2.2.1, Tri.mono ((h.2.1 c1).2.2.2) (fun r2 σ2 q2 => L_aload_n dMa_goDeeper_123 rfl (L_getF (b := 83) fw_Ma_26 rfl rfl (by decide) dMa_goDeeper_124 ⟨ob_78, L_iload_n dMa_goDeeper_127 rfl (L_iconst dMa_goDeeper_128 in_1 (L_iadd dMa_goDeeper_129 (L_aaF (b := 89 + 3 * (w32 (x2 + 1))) (o := (6, 3)) (by decide) rfl (show (83 : Int) + 6 + 3 * (w32 (x2 + 1)) = 89 + 3 * (w32 (x2 + 1)) by omega) (by decide) dMa_goDeeper_130 ⟨q2.1, L_aload_n dMa_goDeeper_131 rfl (L_getF (b := 79) fw_Ma_9 rfl rfl (by decide) dMa_goDeeper_132 ⟨ob_78, L_iload_n dMa_goDeeper_135 rfl (L_iconst dMa_goDeeper_136 in_5 (L_imul dMa_goDeeper_137 (L_callVI rfl cv_Ec_add (As := [vA 79, vI (w32 (x2 * 5))]) rfl (tk5 215 rfl rfl) rfl (Nat.le_of_ble_eq_true rfl) dMa_goDeeper_138 ⟨q2.2.1, Tri.mono q2.2.2 (fun r3 σ3 q3 => L_pop dMa_goDeeper_141 n01 (L_aload_n dMa_goDeeper_142 rfl (L_iload_n dMa_goDeeper_143 rfl (L_iconst dMa_goDeeper_144 in_1 (L_iadd dMa_goDeeper_145 (L_callVV rfl cv_Ma_startLevel (As := [vI (w32 (x2 + 1))]) rfl (tk5 189 rfl rfl) rfl (Nat.le_of_ble_eq_true rfl) dMa_goDeeper_146 ⟨ob_78, Tri.mono q3 (fun r4 σ4 q4 => L_return rfl dMa_goDeeper_149 q4)⟩))))))⟩)))⟩)⟩)))⟩))⟩⟩)⟩)⟩)))⟩), fun c1 => L_iconst dMa_goDeeper_10 in_0 (L_istore dMa_goDeeper_11 (by decide) (h.2.2 c1))⟩⟩))
theorem s_Ma_goDeeper_13 {d : Nat} {x1 x2 x3 x4 : Int} {σ : SG} {Q : Int → SG → Prop} (h : obok 10 x1 ∧ (σ x1 2 ≤ x4 → L (d + 1) M_Ma_goDeeper 2 [vA 78, vA x1, vI x2, vI (w32 (x3 + 1)), vU, vU, vU] [] σ Q) ∧ (x4 < σ x1 2 → L (d + 1) M_Ma_goDeeper 28 [vA 78, vA x1, vI x2, vI x3, vI x4, vI 0, vI 0] [] σ Q)) : L (d + 1) M_Ma_goDeeper 13 [vA 78, vA x1, vI x2, vI x3, vI x4, vU, vU] [] σ Q :=
  L_iload dMa_goDeeper_13 rfl (L_aload_n dMa_goDeeper_15 rfl (L_getf fw_Ma_72 rfl dMa_goDeeper_16 ⟨h.1, L_icmp_ge dMa_goDeeper_19 (by decide) ⟨fun c1 => L_iinc dMa_goDeeper_100 rfl (by decide) (L_goto dMa_goDeeper_103 (by decide) (L_weak [true, true, true, true, false, true, true] (h.2.1 c1))), fun c1 => L_iconst dMa_goDeeper_22 in_0 (L_istore dMa_goDeeper_23 (by decide) (L_iconst dMa_goDeeper_25 in_0 (L_istore dMa_goDeeper_26 (by decide) (h.2.2 c1))))⟩⟩))
theorem s_Ma_goDeeper_28 {d : Nat} {x1 x2 x3 x4 x5 x6 : Int} {σ : SG} {Q : Int → SG → Prop} (h : obok 10 x1 ∧ (σ x1 2 ≤ x6 → obok 10 x1 ∧ Tri d M_X_mod [vI x5, vI (σ x1 1)] σ (fun r2 σ2 => (0 ≤ w32 ((w32 ((w32 (x2 * 25)) + (w32 (x3 * 5)))) + x4) ∧ w32 ((w32 ((w32 (x2 * 25)) + (w32 (x3 * 5)))) + x4) < 125) ∧ (∀ σ3, σ3 = up σ2 80 (w32 ((w32 ((w32 (x2 * 25)) + (w32 (x3 * 5)))) + x4)) r2 → L (d + 1) M_Ma_goDeeper 13 [vA 78, vA x1, vI x2, vI x3, vI (w32 (x4 + 1)), vU, vU] [] σ3 Q))) ∧ (x6 < σ x1 2 → (0 ≤ w32 ((w32 (x2 * 5)) + x6) ∧ w32 ((w32 (x2 * 5)) + x6) < 25) ∧ obok 10 x1 ∧ Tri d M_Wd_cell [vA x1, vI x6, vI x3, vI x4] σ (fun r4 σ4 => L (d + 1) M_Ma_goDeeper 28 [vA 78, vA x1, vI x2, vI x3, vI x4, vI (w32 (x5 + (w32 ((σ 79 (w32 ((w32 (x2 * 5)) + x6))) * r4)))), vI (w32 (x6 + 1))] [] σ4 Q))) : L (d + 1) M_Ma_goDeeper 28 [vA 78, vA x1, vI x2, vI x3, vI x4, vI x5, vI x6] [] σ Q :=
  L_iload dMa_goDeeper_28 rfl (L_aload_n dMa_goDeeper_30 rfl (L_getf fw_Ma_72 rfl dMa_goDeeper_31 ⟨h.1, L_icmp_ge dMa_goDeeper_34 (by decide) ⟨fun c1 => L_aload_n dMa_goDeeper_69 rfl (L_getF (b := 80) fw_Ma_15 rfl rfl (by decide) dMa_goDeeper_70 ⟨ob_78, L_iload_n dMa_goDeeper_73 rfl (L_bipush dMa_goDeeper_74 bp_25 in_25 (L_imul dMa_goDeeper_76 (L_iload_n dMa_goDeeper_77 rfl (L_iconst dMa_goDeeper_78 in_5 (L_imul dMa_goDeeper_79 (L_iadd dMa_goDeeper_80 (L_iload dMa_goDeeper_81 rfl (L_iadd dMa_goDeeper_83 (L_iload dMa_goDeeper_84 rfl (L_aload_n dMa_goDeeper_86 rfl (L_getf fw_Ma_69 rfl dMa_goDeeper_87 ⟨(h.2.1 c1).1, L_callNI rfl cs_X_mod (As := [vI x5, vI (σ x1 1)]) rfl (by decide +kernel) rfl (Nat.le_of_ble_eq_true rfl) dMa_goDeeper_90 (Tri.mono ((h.2.1 c1).2) (fun r2 σ2 q2 => L_iastoreL (by decide) kd_80 dMa_goDeeper_93 ⟨q2.1, fun σ3 e3 => L_iinc dMa_goDeeper_94 rfl (by decide) (L_goto dMa_goDeeper_97 (by decide) (L_weak [true, true, true, true, true, false, false] (q2.2 σ3 e3)))⟩))⟩)))))))))))⟩), fun c1 => L_iload dMa_goDeeper_37 rfl (L_aload_n dMa_goDeeper_39 rfl (L_getF (b := 79) fw_Ma_9 rfl rfl (by decide) dMa_goDeeper_40 ⟨ob_78, L_iload_n dMa_goDeeper_43 rfl (L_iconst dMa_goDeeper_44 in_5 (L_imul dMa_goDeeper_45 (L_iload dMa_goDeeper_46 rfl (L_iadd dMa_goDeeper_48 (L_ialoadL kd_79 dMa_goDeeper_49 ⟨(h.2.2 c1).1, L_aload_n dMa_goDeeper_50 rfl (L_iload dMa_goDeeper_51 rfl (L_iload_n dMa_goDeeper_53 rfl (L_iload dMa_goDeeper_54 rfl (L_callVI rfl cv_Wd_cell (As := [vI x6, vI x3, vI x4]) rfl (tk5 186 rfl rfl) rfl (Nat.le_of_ble_eq_true rfl) dMa_goDeeper_56 ⟨(h.2.2 c1).2.1, Tri.mono ((h.2.2 c1).2.2) (fun r4 σ4 q4 => L_imul dMa_goDeeper_59 (L_iadd dMa_goDeeper_60 (L_istore dMa_goDeeper_61 (by decide) (L_iinc dMa_goDeeper_63 rfl (by decide) (L_goto dMa_goDeeper_66 (by decide) q4)))))⟩))))⟩)))))⟩))⟩⟩))
theorem dMa_countTables_0 : decode prog_5_method_9_code 0 = .ok (.iload_n 1, 1) := by decide +kernel
theorem dMa_countTables_1 : decode prog_5_method_9_code 1 = .ok (.iload_n 2, 1) := by decide +kernel
theorem dMa_countTables_2 : decode prog_5_method_9_code 2 = .ok (.iload_n 2, 1) := by decide +kernel
theorem dMa_countTables_3 : decode prog_5_method_9_code 3 = .ok (.iconst 1, 1) := by decide +kernel
theorem dMa_countTables_4 : decode prog_5_method_9_code 4 = .ok (.isub, 1) := by decide +kernel
theorem dMa_countTables_5 : decode prog_5_method_9_code 5 = .ok (.imul, 1) := by decide +kernel
theorem dMa_countTables_6 : decode prog_5_method_9_code 6 = .ok (.iconst 2, 1) := by decide +kernel
theorem dMa_countTables_7 : decode prog_5_method_9_code 7 = .ok (.idiv, 1) := by decide +kernel
theorem dMa_countTables_8 : decode prog_5_method_9_code 8 = .ok (.iload_n 2, 1) := by decide +kernel
theorem dMa_countTables_9 : decode prog_5_method_9_code 9 = .ok (.imul, 1) := by decide +kernel
theorem dMa_countTables_10 : decode prog_5_method_9_code 10 = .ok (.invokestatic 127, 3) := by decide +kernel
theorem dMa_countTables_13 : decode prog_5_method_9_code 13 = .ok (.istore 4, 2) := by decide +kernel
theorem dMa_countTables_15 : decode prog_5_method_9_code 15 = .ok (.iconst 0, 1) := by decide +kernel
theorem dMa_countTables_16 : decode prog_5_method_9_code 16 = .ok (.istore 5, 2) := by decide +kernel
theorem dMa_countTables_18 : decode prog_5_method_9_code 18 = .ok (.iconst 0, 1) := by decide +kernel
theorem dMa_countTables_19 : decode prog_5_method_9_code 19 = .ok (.istore 6, 2) := by decide +kernel
theorem dMa_countTables_21 : decode prog_5_method_9_code 21 = .ok (.iconst 0, 1) := by decide +kernel
theorem dMa_countTables_22 : decode prog_5_method_9_code 22 = .ok (.istore 7, 2) := by decide +kernel
theorem dMa_countTables_24 : decode prog_5_method_9_code 24 = .ok (.iload 7, 2) := by decide +kernel
theorem dMa_countTables_26 : decode prog_5_method_9_code 26 = .ok (.iload 4, 2) := by decide +kernel
theorem dMa_countTables_28 : decode prog_5_method_9_code 28 = .ok (.if_icmp .ge 70, 3) := by decide +kernel
theorem dMa_countTables_31 : decode prog_5_method_9_code 31 = .ok (.iload 7, 2) := by decide +kernel
theorem dMa_countTables_33 : decode prog_5_method_9_code 33 = .ok (.aload_n 0, 1) := by decide +kernel
theorem dMa_countTables_34 : decode prog_5_method_9_code 34 = .ok (.getfield 40, 3) := by decide +kernel
theorem dMa_countTables_37 : decode prog_5_method_9_code 37 = .ok (.arraylength, 1) := by decide +kernel
theorem dMa_countTables_38 : decode prog_5_method_9_code 38 = .ok (.if_icmp .ge 60, 3) := by decide +kernel
theorem dMa_countTables_41 : decode prog_5_method_9_code 41 = .ok (.aload_n 0, 1) := by decide +kernel
theorem dMa_countTables_42 : decode prog_5_method_9_code 42 = .ok (.getfield 33, 3) := by decide +kernel
theorem dMa_countTables_45 : decode prog_5_method_9_code 45 = .ok (.iload_n 1, 1) := by decide +kernel
theorem dMa_countTables_46 : decode prog_5_method_9_code 46 = .ok (.iload_n 2, 1) := by decide +kernel
theorem dMa_countTables_47 : decode prog_5_method_9_code 47 = .ok (.iload 7, 2) := by decide +kernel
theorem dMa_countTables_49 : decode prog_5_method_9_code 49 = .ok (.invokevirtual 130, 3) := by decide +kernel
theorem dMa_countTables_52 : decode prog_5_method_9_code 52 = .ok (.aload_n 0, 1) := by decide +kernel
theorem dMa_countTables_53 : decode prog_5_method_9_code 53 = .ok (.getfield 33, 3) := by decide +kernel
theorem dMa_countTables_56 : decode prog_5_method_9_code 56 = .ok (.invokevirtual 134, 3) := by decide +kernel
theorem dMa_countTables_59 : decode prog_5_method_9_code 59 = .ok (.ifCond .ge 33, 3) := by decide +kernel
theorem dMa_countTables_62 : decode prog_5_method_9_code 62 = .ok (.iinc 5 1, 3) := by decide +kernel
theorem dMa_countTables_65 : decode prog_5_method_9_code 65 = .ok (.iload_n 3, 1) := by decide +kernel
theorem dMa_countTables_66 : decode prog_5_method_9_code 66 = .ok (.ifCond .eq 26, 3) := by decide +kernel
theorem dMa_countTables_69 : decode prog_5_method_9_code 69 = .ok (.aload_n 0, 1) := by decide +kernel
theorem dMa_countTables_70 : decode prog_5_method_9_code 70 = .ok (.iload_n 1, 1) := by decide +kernel
theorem dMa_countTables_71 : decode prog_5_method_9_code 71 = .ok (.iload_n 2, 1) := by decide +kernel
theorem dMa_countTables_72 : decode prog_5_method_9_code 72 = .ok (.iload 6, 2) := by decide +kernel
theorem dMa_countTables_74 : decode prog_5_method_9_code 74 = .ok (.invokevirtual 137, 3) := by decide +kernel
theorem dMa_countTables_77 : decode prog_5_method_9_code 77 = .ok (.ifCond .ne 15, 3) := by decide +kernel
theorem dMa_countTables_80 : decode prog_5_method_9_code 80 = .ok (.aload_n 0, 1) := by decide +kernel
theorem dMa_countTables_81 : decode prog_5_method_9_code 81 = .ok (.getfield 40, 3) := by decide +kernel
theorem dMa_countTables_84 : decode prog_5_method_9_code 84 = .ok (.iload 6, 2) := by decide +kernel
theorem dMa_countTables_86 : decode prog_5_method_9_code 86 = .ok (.iload 7, 2) := by decide +kernel
theorem dMa_countTables_88 : decode prog_5_method_9_code 88 = .ok (.iastore, 1) := by decide +kernel
theorem dMa_countTables_89 : decode prog_5_method_9_code 89 = .ok (.iinc 6 1, 3) := by decide +kernel
theorem dMa_countTables_92 : decode prog_5_method_9_code 92 = .ok (.iinc 7 1, 3) := by decide +kernel
theorem dMa_countTables_95 : decode prog_5_method_9_code 95 = .ok (.goto (-71), 3) := by decide +kernel
theorem dMa_countTables_98 : decode prog_5_method_9_code 98 = .ok (.iload_n 3, 1) := by decide +kernel
theorem dMa_countTables_99 : decode prog_5_method_9_code 99 = .ok (.ifCond .eq 8, 3) := by decide +kernel
theorem dMa_countTables_102 : decode prog_5_method_9_code 102 = .ok (.iload 6, 2) := by decide +kernel
theorem dMa_countTables_104 : decode prog_5_method_9_code 104 = .ok (.goto 5, 3) := by decide +kernel
theorem dMa_countTables_107 : decode prog_5_method_9_code 107 = .ok (.iload 5, 2) := by decide +kernel
theorem dMa_countTables_109 : decode prog_5_method_9_code 109 = .ok (.ireturn, 1) := by decide +kernel
theorem t_Ma_countTables {d : Nat} {x1 x2 x3 : Int} {σ : SG} {Q : Int → SG → Prop} (h : inI x1 → inI x2 → inI x3 → (Tri d M_X_raised [vI x1, vI (w32 ((w32 ((w32 (x2 * (w32 (x2 - 1)))).tdiv 2)) * x2))] σ (fun r1 σ1 => L (d + 1) M_Ma_countTables 24 [vA 78, vI x1, vI x2, vI x3, vI r1, vI 0, vI 0, vI 0] [] σ1 Q))) : Tri (d + 1) M_Ma_countTables [vA 78, vI x1, vI x2, vI x3] σ Q :=
  Tri_intro rfl (Nat.le_of_ble_eq_true rfl) (ls := [vA 78, vI x1, vI x2, vI x3, vU, vU, vU, vU]) rfl (fun hok => L_iload_n dMa_countTables_0 rfl (L_iload_n dMa_countTables_1 rfl (L_iload_n dMa_countTables_2 rfl (L_iconst dMa_countTables_3 in_1 (L_isub dMa_countTables_4 (L_imul dMa_countTables_5 (L_iconst dMa_countTables_6 in_2 (L_idiv dMa_countTables_7 ⟨by decide, L_iload_n dMa_countTables_8 rfl (L_imul dMa_countTables_9 (L_callNI rfl cs_X_raised (As := [vI x1, vI (w32 ((w32 ((w32 (x2 * (w32 (x2 - 1)))).tdiv 2)) * x2))]) rfl (by decide +kernel) rfl (Nat.le_of_ble_eq_true rfl) dMa_countTables_10 (Tri.mono ((h (hok _ (List.mem_of_getElem? (i := 1) rfl)) (hok _ (List.mem_of_getElem? (i := 2) rfl)) (hok _ (List.mem_of_getElem? (i := 3) rfl)))) (fun r1 σ1 q1 => L_istore dMa_countTables_13 (by decide) (L_iconst dMa_countTables_15 in_0 (L_istore dMa_countTables_16 (by decide) (L_iconst dMa_countTables_18 in_0 (L_istore dMa_countTables_19 (by decide) (L_iconst dMa_countTables_21 in_0 (L_istore dMa_countTables_22 (by decide) q1))))))))))⟩))))))))
theorem s_Ma_countTables_24 {d : Nat} {x1 x2 x3 x4 x5 x6 x7 : Int} {σ : SG} {Q : Int → SG → Prop} (h : (x4 ≤ x7 → (x3 = 0 → Q x5 σ) ∧ (x3 ≠ 0 → Q x6 σ)) ∧ (x7 < x4 → (512 ≤ x7 → (x3 = 0 → Q x5 σ) ∧ (x3 ≠ 0 → Q x6 σ)) ∧ (x7 < 512 → Tri d M_Wd_decode [vA 84, vI x1, vI x2, vI x7] σ (fun r5 σ5 => Tri d M_Wd_firstBreak [vA 84] σ5 (fun r6 σ6 => (0 ≤ r6 → L (d + 1) M_Ma_countTables 24 [vA 78, vI x1, vI x2, vI x3, vI x4, vI x5, vI x6, vI (w32 (x7 + 1))] [] σ6 Q) ∧ (r6 < 0 → (x3 = 0 → L (d + 1) M_Ma_countTables 24 [vA 78, vI x1, vI x2, vI x3, vI x4, vI (w32 (x5 + 1)), vI x6, vI (w32 (x7 + 1))] [] σ6 Q) ∧ (x3 ≠ 0 → Tri d M_Ma_isSeen [vA 78, vI x1, vI x2, vI x6] σ6 (fun r9 σ9 => (r9 ≠ 0 → L (d + 1) M_Ma_countTables 24 [vA 78, vI x1, vI x2, vI x3, vI x4, vI (w32 (x5 + 1)), vI x6, vI (w32 (x7 + 1))] [] σ9 Q) ∧ (r9 = 0 → (0 ≤ x6 ∧ x6 < 512) ∧ (∀ σ11, σ11 = up σ9 88 x6 x7 → L (d + 1) M_Ma_countTables 24 [vA 78, vI x1, vI x2, vI x3, vI x4, vI (w32 (x5 + 1)), vI (w32 (x6 + 1)), vI (w32 (x7 + 1))] [] σ11 Q)))))))))) : L (d + 1) M_Ma_countTables 24 [vA 78, vI x1, vI x2, vI x3, vI x4, vI x5, vI x6, vI x7] [] σ Q :=
  L_iload dMa_countTables_24 rfl (L_iload dMa_countTables_26 rfl (L_icmp_ge dMa_countTables_28 (by decide) ⟨fun c1 => L_iload_n dMa_countTables_98 rfl (L_if_eq dMa_countTables_99 (by decide) ⟨fun c2 => L_iload dMa_countTables_107 rfl (L_ireturn rfl dMa_countTables_109 ((h.1 c1).1 c2)), fun c2 => L_iload dMa_countTables_102 rfl (L_goto dMa_countTables_104 (by decide) (L_ireturn rfl dMa_countTables_109 ((h.1 c1).2 c2)))⟩), fun c1 => L_iload dMa_countTables_31 rfl (L_aload_n dMa_countTables_33 rfl (L_getF (b := 88) fw_Ma_40 rfl rfl (by decide) dMa_countTables_34 ⟨ob_78, L_alenL (by decide) kd_88 dMa_countTables_37 (L_icmp_ge dMa_countTables_38 (by decide) ⟨fun c3 => L_iload_n dMa_countTables_98 rfl (L_if_eq dMa_countTables_99 (by decide) ⟨fun c4 => L_iload dMa_countTables_107 rfl (L_ireturn rfl dMa_countTables_109 (((h.2 c1).1 c3).1 c4)), fun c4 => L_iload dMa_countTables_102 rfl (L_goto dMa_countTables_104 (by decide) (L_ireturn rfl dMa_countTables_109 (((h.2 c1).1 c3).2 c4)))⟩), fun c3 => L_aload_n dMa_countTables_41 rfl (L_getF (b := 84) fw_Ma_33 rfl rfl (by decide) dMa_countTables_42 ⟨ob_78, L_iload_n dMa_countTables_45 rfl (L_iload_n dMa_countTables_46 rfl (L_iload dMa_countTables_47 rfl (L_callVV rfl cv_Wd_decode (As := [vI x1, vI x2, vI x7]) rfl (tk6 109 rfl rfl) rfl (Nat.le_of_ble_eq_true rfl) dMa_countTables_49 ⟨ob_84, Tri.mono ((h.2 c1).2 c3) (fun r5 σ5 q5 => L_aload_n dMa_countTables_52 rfl (L_getF (b := 84) fw_Ma_33 rfl rfl (by decide) dMa_countTables_53 ⟨ob_78, L_callVI rfl cv_Wd_firstBreak (As := []) rfl (tk6 113 rfl rfl) rfl (Nat.le_of_ble_eq_true rfl) dMa_countTables_56 ⟨ob_84, Tri.mono q5 (fun r6 σ6 q6 => L_if_ge dMa_countTables_59 (by decide) ⟨fun c7 => L_iinc dMa_countTables_92 rfl (by decide) (L_goto dMa_countTables_95 (by decide) (q6.1 c7)), fun c7 => L_iinc dMa_countTables_62 rfl (by decide) (L_iload_n dMa_countTables_65 rfl (L_if_eq dMa_countTables_66 (by decide) ⟨fun c8 => L_iinc dMa_countTables_92 rfl (by decide) (L_goto dMa_countTables_95 (by decide) ((q6.2 c7).1 c8)), fun c8 => L_aload_n dMa_countTables_69 rfl (L_iload_n dMa_countTables_70 rfl (L_iload_n dMa_countTables_71 rfl (L_iload dMa_countTables_72 rfl (L_callVI rfl cv_Ma_isSeen (As := [vI x1, vI x2, vI x6]) rfl (tk6 114 rfl rfl) rfl (Nat.le_of_ble_eq_true rfl) dMa_countTables_74 ⟨ob_78, Tri.mono ((q6.2 c7).2 c8) (fun r9 σ9 q9 => L_if_ne dMa_countTables_77 (by decide) ⟨fun c10 => L_iinc dMa_countTables_92 rfl (by decide) (L_goto dMa_countTables_95 (by decide) (q9.1 c10)), fun c10 => L_aload_n dMa_countTables_80 rfl (L_getF (b := 88) fw_Ma_40 rfl rfl (by decide) dMa_countTables_81 ⟨ob_78, L_iload dMa_countTables_84 rfl (L_iload dMa_countTables_86 rfl (L_iastoreL (by decide) kd_88 dMa_countTables_88 ⟨(q9.2 c10).1, fun σ11 e11 => L_iinc dMa_countTables_89 rfl (by decide) (L_iinc dMa_countTables_92 rfl (by decide) (L_goto dMa_countTables_95 (by decide) ((q9.2 c10).2 σ11 e11)))⟩))⟩)⟩)⟩))))⟩))⟩)⟩⟩))⟩)))⟩)⟩)⟩))⟩))
theorem dMa_isSeen_0 : decode prog_5_method_10_code 0 = .ok (.iconst 0, 1) := by decide +kernel
theorem dMa_isSeen_1 : decode prog_5_method_10_code 1 = .ok (.istore 4, 2) := by decide +kernel
theorem dMa_isSeen_3 : decode prog_5_method_10_code 3 = .ok (.iload 4, 2) := by decide +kernel
theorem dMa_isSeen_5 : decode prog_5_method_10_code 5 = .ok (.iload_n 3, 1) := by decide +kernel
theorem dMa_isSeen_6 : decode prog_5_method_10_code 6 = .ok (.if_icmp .ge 43, 3) := by decide +kernel
theorem dMa_isSeen_9 : decode prog_5_method_10_code 9 = .ok (.aload_n 0, 1) := by decide +kernel
theorem dMa_isSeen_10 : decode prog_5_method_10_code 10 = .ok (.getfield 37, 3) := by decide +kernel
theorem dMa_isSeen_13 : decode prog_5_method_10_code 13 = .ok (.iload_n 1, 1) := by decide +kernel
theorem dMa_isSeen_14 : decode prog_5_method_10_code 14 = .ok (.iload_n 2, 1) := by decide +kernel
theorem dMa_isSeen_15 : decode prog_5_method_10_code 15 = .ok (.aload_n 0, 1) := by decide +kernel
theorem dMa_isSeen_16 : decode prog_5_method_10_code 16 = .ok (.getfield 40, 3) := by decide +kernel
theorem dMa_isSeen_19 : decode prog_5_method_10_code 19 = .ok (.iload 4, 2) := by decide +kernel
theorem dMa_isSeen_21 : decode prog_5_method_10_code 21 = .ok (.iaload, 1) := by decide +kernel
theorem dMa_isSeen_22 : decode prog_5_method_10_code 22 = .ok (.invokevirtual 130, 3) := by decide +kernel
theorem dMa_isSeen_25 : decode prog_5_method_10_code 25 = .ok (.aload_n 0, 1) := by decide +kernel
theorem dMa_isSeen_26 : decode prog_5_method_10_code 26 = .ok (.aload_n 0, 1) := by decide +kernel
theorem dMa_isSeen_27 : decode prog_5_method_10_code 27 = .ok (.getfield 33, 3) := by decide +kernel
theorem dMa_isSeen_30 : decode prog_5_method_10_code 30 = .ok (.aload_n 0, 1) := by decide +kernel
theorem dMa_isSeen_31 : decode prog_5_method_10_code 31 = .ok (.getfield 37, 3) := by decide +kernel
theorem dMa_isSeen_34 : decode prog_5_method_10_code 34 = .ok (.iconst 1, 1) := by decide +kernel
theorem dMa_isSeen_35 : decode prog_5_method_10_code 35 = .ok (.invokevirtual 141, 3) := by decide +kernel
theorem dMa_isSeen_38 : decode prog_5_method_10_code 38 = .ok (.ifCond .eq 5, 3) := by decide +kernel
theorem dMa_isSeen_41 : decode prog_5_method_10_code 41 = .ok (.iconst 1, 1) := by decide +kernel
theorem dMa_isSeen_42 : decode prog_5_method_10_code 42 = .ok (.ireturn, 1) := by decide +kernel
theorem dMa_isSeen_43 : decode prog_5_method_10_code 43 = .ok (.iinc 4 1, 3) := by decide +kernel
theorem dMa_isSeen_46 : decode prog_5_method_10_code 46 = .ok (.goto (-43), 3) := by decide +kernel
theorem dMa_isSeen_49 : decode prog_5_method_10_code 49 = .ok (.iconst 0, 1) := by decide +kernel
theorem dMa_isSeen_50 : decode prog_5_method_10_code 50 = .ok (.ireturn, 1) := by decide +kernel
theorem t_Ma_isSeen {d : Nat} {x1 x2 x3 : Int} {σ : SG} {Q : Int → SG → Prop} (h : inI x1 → inI x2 → inI x3 → (L (d + 1) M_Ma_isSeen 3 [vA 78, vI x1, vI x2, vI x3, vI 0] [] σ Q)) : Tri (d + 1) M_Ma_isSeen [vA 78, vI x1, vI x2, vI x3] σ Q :=
  Tri_intro rfl (Nat.le_of_ble_eq_true rfl) (ls := [vA 78, vI x1, vI x2, vI x3, vU]) rfl (fun hok => L_iconst dMa_isSeen_0 in_0 (L_istore dMa_isSeen_1 (by decide) ((h (hok _ (List.mem_of_getElem? (i := 1) rfl)) (hok _ (List.mem_of_getElem? (i := 2) rfl)) (hok _ (List.mem_of_getElem? (i := 3) rfl))))))
theorem s_Ma_isSeen_3 {d : Nat} {x1 x2 x3 x4 : Int} {σ : SG} {Q : Int → SG → Prop} (h : (x3 ≤ x4 → Q 0 σ) ∧ (x4 < x3 → (0 ≤ x4 ∧ x4 < 512) ∧ Tri d M_Wd_decode [vA 86, vI x1, vI x2, vI (σ 88 x4)] σ (fun r2 σ2 => Tri d M_Ma_look [vA 78, vA 84, vA 86, vI 1] σ2 (fun r3 σ3 => (r3 = 0 → L (d + 1) M_Ma_isSeen 3 [vA 78, vI x1, vI x2, vI x3, vI (w32 (x4 + 1))] [] σ3 Q) ∧ (r3 ≠ 0 → Q 1 σ3))))) : L (d + 1) M_Ma_isSeen 3 [vA 78, vI x1, vI x2, vI x3, vI x4] [] σ Q :=
  L_iload dMa_isSeen_3 rfl (L_iload_n dMa_isSeen_5 rfl (L_icmp_ge dMa_isSeen_6 (by decide) ⟨fun c1 => L_iconst dMa_isSeen_49 in_0 (L_zreturn0 rfl dMa_isSeen_50 (h.1 c1)), fun c1 => L_aload_n dMa_isSeen_9 rfl (L_getF (b := 86) fw_Ma_37 rfl rfl (by decide) dMa_isSeen_10 ⟨ob_78, L_iload_n dMa_isSeen_13 rfl (L_iload_n dMa_isSeen_14 rfl (L_aload_n dMa_isSeen_15 rfl (L_getF (b := 88) fw_Ma_40 rfl rfl (by decide) dMa_isSeen_16 ⟨ob_78, L_iload dMa_isSeen_19 rfl (L_ialoadL kd_88 dMa_isSeen_21 ⟨(h.2 c1).1, L_callVV rfl cv_Wd_decode (As := [vI x1, vI x2, vI (σ 88 x4)]) rfl (tk6 109 rfl rfl) rfl (Nat.le_of_ble_eq_true rfl) dMa_isSeen_22 ⟨ob_86, Tri.mono ((h.2 c1).2) (fun r2 σ2 q2 => L_aload_n dMa_isSeen_25 rfl (L_aload_n dMa_isSeen_26 rfl (L_getF (b := 84) fw_Ma_33 rfl rfl (by decide) dMa_isSeen_27 ⟨ob_78, L_aload_n dMa_isSeen_30 rfl (L_getF (b := 86) fw_Ma_37 rfl rfl (by decide) dMa_isSeen_31 ⟨ob_78, L_iconst dMa_isSeen_34 in_1 (L_callVI rfl cv_Ma_look (As := [vA 84, vA 86, vI 1]) rfl (tk6 118 rfl rfl) rfl (Nat.le_of_ble_eq_true rfl) dMa_isSeen_35 ⟨ob_78, Tri.mono q2 (fun r3 σ3 q3 => L_if_eq dMa_isSeen_38 (by decide) ⟨fun c4 => L_iinc dMa_isSeen_43 rfl (by decide) (L_goto dMa_isSeen_46 (by decide) (q3.1 c4)), fun c4 => L_iconst dMa_isSeen_41 in_1 (L_zreturn1 rfl dMa_isSeen_42 (q3.2 c4))⟩)⟩)⟩)⟩)))⟩⟩)⟩)))⟩)⟩))
theorem dWo_changeBase_0 : decode prog_11_method_2_code 0 = .ok (.aload_n 1, 1) := by decide +kernel
theorem dWo_changeBase_1 : decode prog_11_method_2_code 1 = .ok (.getfield 40, 3) := by decide +kernel
theorem dWo_changeBase_4 : decode prog_11_method_2_code 4 = .ok (.istore_n 2, 1) := by decide +kernel
theorem dWo_changeBase_5 : decode prog_11_method_2_code 5 = .ok (.aload_n 0, 1) := by decide +kernel
theorem dWo_changeBase_6 : decode prog_11_method_2_code 6 = .ok (.getfield 23, 3) := by decide +kernel
theorem dWo_changeBase_9 : decode prog_11_method_2_code 9 = .ok (.aload_n 1, 1) := by decide +kernel
theorem dWo_changeBase_10 : decode prog_11_method_2_code 10 = .ok (.getfield 44, 3) := by decide +kernel
theorem dWo_changeBase_13 : decode prog_11_method_2_code 13 = .ok (.iconst 2, 1) := by decide +kernel
theorem dWo_changeBase_14 : decode prog_11_method_2_code 14 = .ok (.iload_n 2, 1) := by decide +kernel
theorem dWo_changeBase_15 : decode prog_11_method_2_code 15 = .ok (.imul, 1) := by decide +kernel
theorem dWo_changeBase_16 : decode prog_11_method_2_code 16 = .ok (.invokevirtual 47, 3) := by decide +kernel
theorem dWo_changeBase_19 : decode prog_11_method_2_code 19 = .ok (.iconst 0, 1) := by decide +kernel
theorem dWo_changeBase_20 : decode prog_11_method_2_code 20 = .ok (.istore_n 3, 1) := by decide +kernel
theorem dWo_changeBase_21 : decode prog_11_method_2_code 21 = .ok (.iload_n 3, 1) := by decide +kernel
theorem dWo_changeBase_22 : decode prog_11_method_2_code 22 = .ok (.iload_n 2, 1) := by decide +kernel
theorem dWo_changeBase_23 : decode prog_11_method_2_code 23 = .ok (.if_icmp .ge 75, 3) := by decide +kernel
theorem dWo_changeBase_26 : decode prog_11_method_2_code 26 = .ok (.iconst 0, 1) := by decide +kernel
theorem dWo_changeBase_27 : decode prog_11_method_2_code 27 = .ok (.istore 4, 2) := by decide +kernel
theorem dWo_changeBase_29 : decode prog_11_method_2_code 29 = .ok (.iload 4, 2) := by decide +kernel
theorem dWo_changeBase_31 : decode prog_11_method_2_code 31 = .ok (.iload_n 2, 1) := by decide +kernel
theorem dWo_changeBase_32 : decode prog_11_method_2_code 32 = .ok (.if_icmp .ge 47, 3) := by decide +kernel
theorem dWo_changeBase_35 : decode prog_11_method_2_code 35 = .ok (.aload_n 0, 1) := by decide +kernel
theorem dWo_changeBase_36 : decode prog_11_method_2_code 36 = .ok (.getfield 31, 3) := by decide +kernel
theorem dWo_changeBase_39 : decode prog_11_method_2_code 39 = .ok (.iload 4, 2) := by decide +kernel
theorem dWo_changeBase_41 : decode prog_11_method_2_code 41 = .ok (.aload_n 0, 1) := by decide +kernel
theorem dWo_changeBase_42 : decode prog_11_method_2_code 42 = .ok (.getfield 27, 3) := by decide +kernel
theorem dWo_changeBase_45 : decode prog_11_method_2_code 45 = .ok (.iload_n 3, 1) := by decide +kernel
theorem dWo_changeBase_46 : decode prog_11_method_2_code 46 = .ok (.iconst 5, 1) := by decide +kernel
theorem dWo_changeBase_47 : decode prog_11_method_2_code 47 = .ok (.imul, 1) := by decide +kernel
theorem dWo_changeBase_48 : decode prog_11_method_2_code 48 = .ok (.iload 4, 2) := by decide +kernel
theorem dWo_changeBase_50 : decode prog_11_method_2_code 50 = .ok (.iadd, 1) := by decide +kernel
theorem dWo_changeBase_51 : decode prog_11_method_2_code 51 = .ok (.iaload, 1) := by decide +kernel
theorem dWo_changeBase_52 : decode prog_11_method_2_code 52 = .ok (.iastore, 1) := by decide +kernel
theorem dWo_changeBase_53 : decode prog_11_method_2_code 53 = .ok (.aload_n 0, 1) := by decide +kernel
theorem dWo_changeBase_54 : decode prog_11_method_2_code 54 = .ok (.getfield 31, 3) := by decide +kernel
theorem dWo_changeBase_57 : decode prog_11_method_2_code 57 = .ok (.iload_n 2, 1) := by decide +kernel
theorem dWo_changeBase_58 : decode prog_11_method_2_code 58 = .ok (.iload 4, 2) := by decide +kernel
theorem dWo_changeBase_60 : decode prog_11_method_2_code 60 = .ok (.iadd, 1) := by decide +kernel
theorem dWo_changeBase_61 : decode prog_11_method_2_code 61 = .ok (.iload_n 3, 1) := by decide +kernel
theorem dWo_changeBase_62 : decode prog_11_method_2_code 62 = .ok (.iload 4, 2) := by decide +kernel
theorem dWo_changeBase_64 : decode prog_11_method_2_code 64 = .ok (.if_icmp .ne 7, 3) := by decide +kernel
theorem dWo_changeBase_67 : decode prog_11_method_2_code 67 = .ok (.iconst 1, 1) := by decide +kernel
theorem dWo_changeBase_68 : decode prog_11_method_2_code 68 = .ok (.goto 4, 3) := by decide +kernel
theorem dWo_changeBase_71 : decode prog_11_method_2_code 71 = .ok (.iconst 0, 1) := by decide +kernel
theorem dWo_changeBase_72 : decode prog_11_method_2_code 72 = .ok (.iastore, 1) := by decide +kernel
theorem dWo_changeBase_73 : decode prog_11_method_2_code 73 = .ok (.iinc 4 1, 3) := by decide +kernel
theorem dWo_changeBase_76 : decode prog_11_method_2_code 76 = .ok (.goto (-47), 3) := by decide +kernel
theorem dWo_changeBase_79 : decode prog_11_method_2_code 79 = .ok (.aload_n 0, 1) := by decide +kernel
theorem dWo_changeBase_80 : decode prog_11_method_2_code 80 = .ok (.getfield 23, 3) := by decide +kernel
theorem dWo_changeBase_83 : decode prog_11_method_2_code 83 = .ok (.aload_n 0, 1) := by decide +kernel
theorem dWo_changeBase_84 : decode prog_11_method_2_code 84 = .ok (.getfield 31, 3) := by decide +kernel
theorem dWo_changeBase_87 : decode prog_11_method_2_code 87 = .ok (.iconst 0, 1) := by decide +kernel
theorem dWo_changeBase_88 : decode prog_11_method_2_code 88 = .ok (.invokevirtual 51, 3) := by decide +kernel
theorem dWo_changeBase_91 : decode prog_11_method_2_code 91 = .ok (.pop, 1) := by decide +kernel
theorem dWo_changeBase_92 : decode prog_11_method_2_code 92 = .ok (.iinc 3 1, 3) := by decide +kernel
theorem dWo_changeBase_95 : decode prog_11_method_2_code 95 = .ok (.goto (-74), 3) := by decide +kernel
theorem dWo_changeBase_98 : decode prog_11_method_2_code 98 = .ok (.aload_n 0, 1) := by decide +kernel
theorem dWo_changeBase_99 : decode prog_11_method_2_code 99 = .ok (.getfield 23, 3) := by decide +kernel
theorem dWo_changeBase_102 : decode prog_11_method_2_code 102 = .ok (.getfield 55, 3) := by decide +kernel
theorem dWo_changeBase_105 : decode prog_11_method_2_code 105 = .ok (.iconst 1, 1) := by decide +kernel
theorem dWo_changeBase_106 : decode prog_11_method_2_code 106 = .ok (.iload_n 2, 1) := by decide +kernel
theorem dWo_changeBase_107 : decode prog_11_method_2_code 107 = .ok (.ishl, 1) := by decide +kernel
theorem dWo_changeBase_108 : decode prog_11_method_2_code 108 = .ok (.iconst 1, 1) := by decide +kernel
theorem dWo_changeBase_109 : decode prog_11_method_2_code 109 = .ok (.isub, 1) := by decide +kernel
theorem dWo_changeBase_110 : decode prog_11_method_2_code 110 = .ok (.iand, 1) := by decide +kernel
theorem dWo_changeBase_111 : decode prog_11_method_2_code 111 = .ok (.iconst 1, 1) := by decide +kernel
theorem dWo_changeBase_112 : decode prog_11_method_2_code 112 = .ok (.iload_n 2, 1) := by decide +kernel
theorem dWo_changeBase_113 : decode prog_11_method_2_code 113 = .ok (.ishl, 1) := by decide +kernel
theorem dWo_changeBase_114 : decode prog_11_method_2_code 114 = .ok (.iconst 1, 1) := by decide +kernel
theorem dWo_changeBase_115 : decode prog_11_method_2_code 115 = .ok (.isub, 1) := by decide +kernel
theorem dWo_changeBase_116 : decode prog_11_method_2_code 116 = .ok (.if_icmp .eq 5, 3) := by decide +kernel
theorem dWo_changeBase_119 : decode prog_11_method_2_code 119 = .ok (.iconst 0, 1) := by decide +kernel
theorem dWo_changeBase_120 : decode prog_11_method_2_code 120 = .ok (.ireturn, 1) := by decide +kernel
theorem dWo_changeBase_121 : decode prog_11_method_2_code 121 = .ok (.aload_n 0, 1) := by decide +kernel
theorem dWo_changeBase_122 : decode prog_11_method_2_code 122 = .ok (.getfield 12, 3) := by decide +kernel
theorem dWo_changeBase_125 : decode prog_11_method_2_code 125 = .ok (.aload_n 1, 1) := by decide +kernel
theorem dWo_changeBase_126 : decode prog_11_method_2_code 126 = .ok (.getfield 44, 3) := by decide +kernel
theorem dWo_changeBase_129 : decode prog_11_method_2_code 129 = .ok (.iload_n 2, 1) := by decide +kernel
theorem dWo_changeBase_130 : decode prog_11_method_2_code 130 = .ok (.invokevirtual 58, 3) := by decide +kernel
theorem dWo_changeBase_133 : decode prog_11_method_2_code 133 = .ok (.iconst 0, 1) := by decide +kernel
theorem dWo_changeBase_134 : decode prog_11_method_2_code 134 = .ok (.istore_n 3, 1) := by decide +kernel
theorem dWo_changeBase_135 : decode prog_11_method_2_code 135 = .ok (.iload_n 3, 1) := by decide +kernel
theorem dWo_changeBase_136 : decode prog_11_method_2_code 136 = .ok (.iload_n 2, 1) := by decide +kernel
theorem dWo_changeBase_137 : decode prog_11_method_2_code 137 = .ok (.if_icmp .ge 56, 3) := by decide +kernel
theorem dWo_changeBase_140 : decode prog_11_method_2_code 140 = .ok (.iload_n 3, 1) := by decide +kernel
theorem dWo_changeBase_141 : decode prog_11_method_2_code 141 = .ok (.iconst 1, 1) := by decide +kernel
theorem dWo_changeBase_142 : decode prog_11_method_2_code 142 = .ok (.iadd, 1) := by decide +kernel
theorem dWo_changeBase_143 : decode prog_11_method_2_code 143 = .ok (.istore 4, 2) := by decide +kernel
theorem dWo_changeBase_145 : decode prog_11_method_2_code 145 = .ok (.iload 4, 2) := by decide +kernel
theorem dWo_changeBase_147 : decode prog_11_method_2_code 147 = .ok (.iload_n 2, 1) := by decide +kernel
theorem dWo_changeBase_148 : decode prog_11_method_2_code 148 = .ok (.if_icmp .ge 39, 3) := by decide +kernel
theorem dWo_changeBase_151 : decode prog_11_method_2_code 151 = .ok (.aload_n 1, 1) := by decide +kernel
theorem dWo_changeBase_152 : decode prog_11_method_2_code 152 = .ok (.aload_n 0, 1) := by decide +kernel
theorem dWo_changeBase_153 : decode prog_11_method_2_code 153 = .ok (.getfield 27, 3) := by decide +kernel
theorem dWo_changeBase_156 : decode prog_11_method_2_code 156 = .ok (.iload_n 3, 1) := by decide +kernel
theorem dWo_changeBase_157 : decode prog_11_method_2_code 157 = .ok (.iconst 5, 1) := by decide +kernel
theorem dWo_changeBase_158 : decode prog_11_method_2_code 158 = .ok (.imul, 1) := by decide +kernel
theorem dWo_changeBase_159 : decode prog_11_method_2_code 159 = .ok (.aload_n 0, 1) := by decide +kernel
theorem dWo_changeBase_160 : decode prog_11_method_2_code 160 = .ok (.getfield 27, 3) := by decide +kernel
theorem dWo_changeBase_163 : decode prog_11_method_2_code 163 = .ok (.iload 4, 2) := by decide +kernel
theorem dWo_changeBase_165 : decode prog_11_method_2_code 165 = .ok (.iconst 5, 1) := by decide +kernel
theorem dWo_changeBase_166 : decode prog_11_method_2_code 166 = .ok (.imul, 1) := by decide +kernel
theorem dWo_changeBase_167 : decode prog_11_method_2_code 167 = .ok (.aload_n 0, 1) := by decide +kernel
theorem dWo_changeBase_168 : decode prog_11_method_2_code 168 = .ok (.getfield 34, 3) := by decide +kernel
theorem dWo_changeBase_171 : decode prog_11_method_2_code 171 = .ok (.invokevirtual 61, 3) := by decide +kernel
theorem dWo_changeBase_174 : decode prog_11_method_2_code 174 = .ok (.aload_n 0, 1) := by decide +kernel
theorem dWo_changeBase_175 : decode prog_11_method_2_code 175 = .ok (.iload_n 3, 1) := by decide +kernel
theorem dWo_changeBase_176 : decode prog_11_method_2_code 176 = .ok (.iload 4, 2) := by decide +kernel
theorem dWo_changeBase_178 : decode prog_11_method_2_code 178 = .ok (.invokevirtual 65, 3) := by decide +kernel
theorem dWo_changeBase_181 : decode prog_11_method_2_code 181 = .ok (.iinc 4 1, 3) := by decide +kernel
theorem dWo_changeBase_184 : decode prog_11_method_2_code 184 = .ok (.goto (-39), 3) := by decide +kernel
theorem dWo_changeBase_187 : decode prog_11_method_2_code 187 = .ok (.iinc 3 1, 3) := by decide +kernel
theorem dWo_changeBase_190 : decode prog_11_method_2_code 190 = .ok (.goto (-55), 3) := by decide +kernel
theorem dWo_changeBase_193 : decode prog_11_method_2_code 193 = .ok (.aload_n 1, 1) := by decide +kernel
theorem dWo_changeBase_194 : decode prog_11_method_2_code 194 = .ok (.aload_n 0, 1) := by decide +kernel
theorem dWo_changeBase_195 : decode prog_11_method_2_code 195 = .ok (.getfield 12, 3) := by decide +kernel
theorem dWo_changeBase_198 : decode prog_11_method_2_code 198 = .ok (.invokevirtual 68, 3) := by decide +kernel
theorem dWo_changeBase_201 : decode prog_11_method_2_code 201 = .ok (.iconst 1, 1) := by decide +kernel
theorem dWo_changeBase_202 : decode prog_11_method_2_code 202 = .ok (.ireturn, 1) := by decide +kernel
theorem t_Wo_changeBase {d : Nat} {x1 : Int} {σ : SG} {Q : Int → SG → Prop} (h : obok 10 x1 ∧ obok 10 x1 ∧ Tri d M_Ec_begin [vA 107, vI (σ x1 1), vI (w32 (2 * (σ x1 2)))] σ (fun r1 σ1 => L (d + 1) M_Wo_changeBase 21 [vA 104, vA x1, vI (σ x1 2), vI 0, vU] [] σ1 Q)) : Tri (d + 1) M_Wo_changeBase [vA 104, vA x1] σ Q :=
  Tri_intro rfl (Nat.le_of_ble_eq_true rfl) (ls := [vA 104, vA x1, vU, vU, vU]) rfl (fun hok => L_aload_n dWo_changeBase_0 rfl (L_getf fw_Wo_40 rfl dWo_changeBase_1 ⟨h.1, L_istore_n dWo_changeBase_4 (by decide) (L_aload_n dWo_changeBase_5 rfl (L_getF (b := 107) fw_Wo_23 rfl rfl (by decide) dWo_changeBase_6 ⟨ob_104, L_aload_n dWo_changeBase_9 rfl (L_getf fw_Wo_44 rfl dWo_changeBase_10 ⟨h.2.1, L_iconst dWo_changeBase_13 in_2 (L_iload_n dWo_changeBase_14 rfl (L_imul dWo_changeBase_15 (L_callVV rfl cv_Ec_begin (As := [vI (σ x1 1), vI (w32 (2 * (σ x1 2)))]) rfl (tk6 9 rfl rfl) rfl (Nat.le_of_ble_eq_true rfl) dWo_changeBase_16 ⟨ob_107, Tri.mono (h.2.2) (fun r1 σ1 q1 => L_iconst dWo_changeBase_19 in_0 (L_istore_n dWo_changeBase_20 (by decide) q1))⟩)))⟩)⟩))⟩))
theorem s_Wo_changeBase_21 {d : Nat} {x1 x2 x3 : Int} {σ : SG} {Q : Int → SG → Prop} (h : (x2 ≤ x3 → (and32 (σ 107 6) (w32 ((shl32 1 x2) - 1)) = w32 ((shl32 1 x2) - 1) → obok 10 x1 ∧ Tri d M_Wd_makeEmpty [vA 105, vI (σ x1 1), vI x2] σ (fun r3 σ3 => L (d + 1) M_Wo_changeBase 135 [vA 104, vA x1, vI x2, vI 0, vU] [] σ3 Q)) ∧ (and32 (σ 107 6) (w32 ((shl32 1 x2) - 1)) ≠ w32 ((shl32 1 x2) - 1) → Q 0 σ)) ∧ (x3 < x2 → L (d + 1) M_Wo_changeBase 29 [vA 104, vA x1, vI x2, vI x3, vI 0] [] σ Q)) : L (d + 1) M_Wo_changeBase 21 [vA 104, vA x1, vI x2, vI x3, vU] [] σ Q :=
  L_iload_n dWo_changeBase_21 rfl (L_iload_n dWo_changeBase_22 rfl (L_icmp_ge dWo_changeBase_23 (by decide) ⟨fun c1 => L_aload_n dWo_changeBase_98 rfl (L_getF (b := 107) fw_Wo_23 rfl rfl (by decide) dWo_changeBase_99 ⟨ob_104, L_getf fw_Wo_55 rfl dWo_changeBase_102 ⟨ob_107, L_iconst dWo_changeBase_105 in_1 (L_iload_n dWo_changeBase_106 rfl (L_ishl dWo_changeBase_107 (L_iconst dWo_changeBase_108 in_1 (L_isub dWo_changeBase_109 (L_iand dWo_changeBase_110 (L_iconst dWo_changeBase_111 in_1 (L_iload_n dWo_changeBase_112 rfl (L_ishl dWo_changeBase_113 (L_iconst dWo_changeBase_114 in_1 (L_isub dWo_changeBase_115 (L_icmp_eq dWo_changeBase_116 (by decide) ⟨fun c2 => L_aload_n dWo_changeBase_121 rfl (L_getF (b := 105) fw_Wo_12 rfl rfl (by decide) dWo_changeBase_122 ⟨ob_104, L_aload_n dWo_changeBase_125 rfl (L_getf fw_Wo_44 rfl dWo_changeBase_126 ⟨((h.1 c1).1 c2).1, L_iload_n dWo_changeBase_129 rfl (L_callVV rfl cv_Wd_makeEmpty (As := [vI (σ x1 1), vI x2]) rfl (tk6 11 rfl rfl) rfl (Nat.le_of_ble_eq_true rfl) dWo_changeBase_130 ⟨ob_105, Tri.mono (((h.1 c1).1 c2).2) (fun r3 σ3 q3 => L_iconst dWo_changeBase_133 in_0 (L_istore_n dWo_changeBase_134 (by decide) q3))⟩)⟩)⟩), fun c2 => L_iconst dWo_changeBase_119 in_0 (L_zreturn0 rfl dWo_changeBase_120 ((h.1 c1).2 c2))⟩)))))))))))⟩⟩), fun c1 => L_iconst dWo_changeBase_26 in_0 (L_istore dWo_changeBase_27 (by decide) (h.2 c1))⟩))
theorem s_Wo_changeBase_135 {d : Nat} {x1 x2 x3 : Int} {σ : SG} {Q : Int → SG → Prop} (h : (x2 ≤ x3 → obok 10 x1 ∧ Tri d M_Wd_copyFrom [vA x1, vA 105] σ (fun r2 σ2 => Q 1 σ2)) ∧ (x3 < x2 → L (d + 1) M_Wo_changeBase 145 [vA 104, vA x1, vI x2, vI x3, vI (w32 (x3 + 1))] [] σ Q)) : L (d + 1) M_Wo_changeBase 135 [vA 104, vA x1, vI x2, vI x3, vU] [] σ Q :=
  L_iload_n dWo_changeBase_135 rfl (L_iload_n dWo_changeBase_136 rfl (L_icmp_ge dWo_changeBase_137 (by decide) ⟨fun c1 => L_aload_n dWo_changeBase_193 rfl (L_aload_n dWo_changeBase_194 rfl (L_getF (b := 105) fw_Wo_12 rfl rfl (by decide) dWo_changeBase_195 ⟨ob_104, L_callVV rfl cv_Wd_copyFrom (As := [vA 105]) rfl (tk6 18 rfl rfl) rfl (Nat.le_of_ble_eq_true rfl) dWo_changeBase_198 ⟨(h.1 c1).1, Tri.mono ((h.1 c1).2) (fun r2 σ2 q2 => L_iconst dWo_changeBase_201 in_1 (L_zreturn1 rfl dWo_changeBase_202 q2))⟩⟩)), fun c1 => L_iload_n dWo_changeBase_140 rfl (L_iconst dWo_changeBase_141 in_1 (L_iadd dWo_changeBase_142 (L_istore dWo_changeBase_143 (by decide) (h.2 c1))))⟩))
theorem s_Wo_changeBase_29 {d : Nat} {x1 x2 x3 x4 : Int} {σ : SG} {Q : Int → SG → Prop} (h : (x2 ≤ x4 → Tri d M_Ec_add [vA 107, vA 111, vI 0] σ (fun r2 σ2 => L (d + 1) M_Wo_changeBase 21 [vA 104, vA x1, vI x2, vI (w32 (x3 + 1)), vU] [] σ2 Q)) ∧ (x4 < x2 → (0 ≤ w32 ((w32 (x3 * 5)) + x4) ∧ w32 ((w32 (x3 * 5)) + x4) < 25) ∧ (0 ≤ x4 ∧ x4 < 10) ∧ (∀ σ3, σ3 = up σ 111 x4 (σ 110 (w32 ((w32 (x3 * 5)) + x4))) → (x3 ≠ x4 → (0 ≤ w32 (x2 + x4) ∧ w32 (x2 + x4) < 10) ∧ (∀ σ5, σ5 = up σ3 111 (w32 (x2 + x4)) 0 → L (d + 1) M_Wo_changeBase 29 [vA 104, vA x1, vI x2, vI x3, vI (w32 (x4 + 1))] [] σ5 Q)) ∧ (x3 = x4 → (0 ≤ w32 (x2 + x4) ∧ w32 (x2 + x4) < 10) ∧ (∀ σ6, σ6 = up σ3 111 (w32 (x2 + x4)) 1 → L (d + 1) M_Wo_changeBase 29 [vA 104, vA x1, vI x2, vI x3, vI (w32 (x4 + 1))] [] σ6 Q))))) : L (d + 1) M_Wo_changeBase 29 [vA 104, vA x1, vI x2, vI x3, vI x4] [] σ Q :=
  L_iload dWo_changeBase_29 rfl (L_iload_n dWo_changeBase_31 rfl (L_icmp_ge dWo_changeBase_32 (by decide) ⟨fun c1 => L_aload_n dWo_changeBase_79 rfl (L_getF (b := 107) fw_Wo_23 rfl rfl (by decide) dWo_changeBase_80 ⟨ob_104, L_aload_n dWo_changeBase_83 rfl (L_getF (b := 111) fw_Wo_31 rfl rfl (by decide) dWo_changeBase_84 ⟨ob_104, L_iconst dWo_changeBase_87 in_0 (L_callVI rfl cv_Ec_add (As := [vA 111, vI 0]) rfl (tk6 10 rfl rfl) rfl (Nat.le_of_ble_eq_true rfl) dWo_changeBase_88 ⟨ob_107, Tri.mono (h.1 c1) (fun r2 σ2 q2 => L_pop dWo_changeBase_91 n01 (L_iinc dWo_changeBase_92 rfl (by decide) (L_goto dWo_changeBase_95 (by decide) (L_weak [true, true, true, true, false] q2))))⟩)⟩)⟩), fun c1 => L_aload_n dWo_changeBase_35 rfl (L_getF (b := 111) fw_Wo_31 rfl rfl (by decide) dWo_changeBase_36 ⟨ob_104, L_iload dWo_changeBase_39 rfl (L_aload_n dWo_changeBase_41 rfl (L_getF (b := 110) fw_Wo_27 rfl rfl (by decide) dWo_changeBase_42 ⟨ob_104, L_iload_n dWo_changeBase_45 rfl (L_iconst dWo_changeBase_46 in_5 (L_imul dWo_changeBase_47 (L_iload dWo_changeBase_48 rfl (L_iadd dWo_changeBase_50 (L_ialoadL kd_110 dWo_changeBase_51 ⟨(h.2 c1).1, L_iastoreL (by decide) kd_111 dWo_changeBase_52 ⟨(h.2 c1).2.1, fun σ3 e3 => L_aload_n dWo_changeBase_53 rfl (L_getF (b := 111) fw_Wo_31 rfl rfl (by decide) dWo_changeBase_54 ⟨ob_104, L_iload_n dWo_changeBase_57 rfl (L_iload dWo_changeBase_58 rfl (L_iadd dWo_changeBase_60 (L_iload_n dWo_changeBase_61 rfl (L_iload dWo_changeBase_62 rfl (L_icmp_ne dWo_changeBase_64 (by decide) ⟨fun c4 => L_iconst dWo_changeBase_71 in_0 (L_iastoreL (by decide) kd_111 dWo_changeBase_72 ⟨(((h.2 c1).2.2 σ3 e3).1 c4).1, fun σ5 e5 => L_iinc dWo_changeBase_73 rfl (by decide) (L_goto dWo_changeBase_76 (by decide) ((((h.2 c1).2.2 σ3 e3).1 c4).2 σ5 e5))⟩), fun c4 => L_iconst dWo_changeBase_67 in_1 (L_goto dWo_changeBase_68 (by decide) (L_iastoreL (by decide) kd_111 dWo_changeBase_72 ⟨(((h.2 c1).2.2 σ3 e3).2 c4).1, fun σ6 e6 => L_iinc dWo_changeBase_73 rfl (by decide) (L_goto dWo_changeBase_76 (by decide) ((((h.2 c1).2.2 σ3 e3).2 c4).2 σ6 e6))⟩))⟩)))))⟩)⟩⟩)))))⟩))⟩)⟩))
theorem s_Wo_changeBase_145 {d : Nat} {x1 x2 x3 x4 : Int} {σ : SG} {Q : Int → SG → Prop} (h : (x2 ≤ x4 → L (d + 1) M_Wo_changeBase 135 [vA 104, vA x1, vI x2, vI (w32 (x3 + 1)), vU] [] σ Q) ∧ (x4 < x2 → obok 10 x1 ∧ Tri d M_Wd_bracketInto [vA x1, vA 110, vI (w32 (x3 * 5)), vA 110, vI (w32 (x4 * 5)), vA 112] σ (fun r2 σ2 => Tri d M_Wo_tellByNew [vA 104, vI x3, vI x4] σ2 (fun r3 σ3 => L (d + 1) M_Wo_changeBase 145 [vA 104, vA x1, vI x2, vI x3, vI (w32 (x4 + 1))] [] σ3 Q)))) : L (d + 1) M_Wo_changeBase 145 [vA 104, vA x1, vI x2, vI x3, vI x4] [] σ Q :=
  L_iload dWo_changeBase_145 rfl (L_iload_n dWo_changeBase_147 rfl (L_icmp_ge dWo_changeBase_148 (by decide) ⟨fun c1 => L_iinc dWo_changeBase_187 rfl (by decide) (L_goto dWo_changeBase_190 (by decide) (L_weak [true, true, true, true, false] (h.1 c1))), fun c1 => L_aload_n dWo_changeBase_151 rfl (L_aload_n dWo_changeBase_152 rfl (L_getF (b := 110) fw_Wo_27 rfl rfl (by decide) dWo_changeBase_153 ⟨ob_104, L_iload_n dWo_changeBase_156 rfl (L_iconst dWo_changeBase_157 in_5 (L_imul dWo_changeBase_158 (L_aload_n dWo_changeBase_159 rfl (L_getF (b := 110) fw_Wo_27 rfl rfl (by decide) dWo_changeBase_160 ⟨ob_104, L_iload dWo_changeBase_163 rfl (L_iconst dWo_changeBase_165 in_5 (L_imul dWo_changeBase_166 (L_aload_n dWo_changeBase_167 rfl (L_getF (b := 112) fw_Wo_34 rfl rfl (by decide) dWo_changeBase_168 ⟨ob_104, L_callVV rfl cv_Wd_bracketInto (As := [vA 110, vI (w32 (x3 * 5)), vA 110, vI (w32 (x4 * 5)), vA 112]) rfl (tk6 12 rfl rfl) rfl (Nat.le_of_ble_eq_true rfl) dWo_changeBase_171 ⟨(h.2 c1).1, Tri.mono ((h.2 c1).2) (fun r2 σ2 q2 => L_aload_n dWo_changeBase_174 rfl (L_iload_n dWo_changeBase_175 rfl (L_iload dWo_changeBase_176 rfl (L_callVV rfl cv_Wo_tellByNew (As := [vI x3, vI x4]) rfl (tk6 13 rfl rfl) rfl (Nat.le_of_ble_eq_true rfl) dWo_changeBase_178 ⟨ob_104, Tri.mono q2 (fun r3 σ3 q3 => L_iinc dWo_changeBase_181 rfl (by decide) (L_goto dWo_changeBase_184 (by decide) q3))⟩))))⟩⟩))))⟩))))⟩))⟩))
theorem dWo_tellByNew_0 : decode prog_11_method_3_code 0 = .ok (.aload_n 0, 1) := by decide +kernel
theorem dWo_tellByNew_1 : decode prog_11_method_3_code 1 = .ok (.getfield 12, 3) := by decide +kernel
theorem dWo_tellByNew_4 : decode prog_11_method_3_code 4 = .ok (.getfield 40, 3) := by decide +kernel
theorem dWo_tellByNew_7 : decode prog_11_method_3_code 7 = .ok (.istore_n 3, 1) := by decide +kernel
theorem dWo_tellByNew_8 : decode prog_11_method_3_code 8 = .ok (.iconst 0, 1) := by decide +kernel
theorem dWo_tellByNew_9 : decode prog_11_method_3_code 9 = .ok (.istore 4, 2) := by decide +kernel
theorem dWo_tellByNew_11 : decode prog_11_method_3_code 11 = .ok (.iload 4, 2) := by decide +kernel
theorem dWo_tellByNew_13 : decode prog_11_method_3_code 13 = .ok (.iload_n 3, 1) := by decide +kernel
theorem dWo_tellByNew_14 : decode prog_11_method_3_code 14 = .ok (.if_icmp .ge 76, 3) := by decide +kernel
theorem dWo_tellByNew_17 : decode prog_11_method_3_code 17 = .ok (.iconst 0, 1) := by decide +kernel
theorem dWo_tellByNew_18 : decode prog_11_method_3_code 18 = .ok (.istore 5, 2) := by decide +kernel
theorem dWo_tellByNew_20 : decode prog_11_method_3_code 20 = .ok (.iconst 0, 1) := by decide +kernel
theorem dWo_tellByNew_21 : decode prog_11_method_3_code 21 = .ok (.istore 6, 2) := by decide +kernel
theorem dWo_tellByNew_23 : decode prog_11_method_3_code 23 = .ok (.iload 6, 2) := by decide +kernel
theorem dWo_tellByNew_25 : decode prog_11_method_3_code 25 = .ok (.iload_n 3, 1) := by decide +kernel
theorem dWo_tellByNew_26 : decode prog_11_method_3_code 26 = .ok (.if_icmp .ge 45, 3) := by decide +kernel
theorem dWo_tellByNew_29 : decode prog_11_method_3_code 29 = .ok (.iload 5, 2) := by decide +kernel
theorem dWo_tellByNew_31 : decode prog_11_method_3_code 31 = .ok (.aload_n 0, 1) := by decide +kernel
theorem dWo_tellByNew_32 : decode prog_11_method_3_code 32 = .ok (.getfield 34, 3) := by decide +kernel
theorem dWo_tellByNew_35 : decode prog_11_method_3_code 35 = .ok (.iload 6, 2) := by decide +kernel
theorem dWo_tellByNew_37 : decode prog_11_method_3_code 37 = .ok (.iaload, 1) := by decide +kernel
theorem dWo_tellByNew_38 : decode prog_11_method_3_code 38 = .ok (.aload_n 0, 1) := by decide +kernel
theorem dWo_tellByNew_39 : decode prog_11_method_3_code 39 = .ok (.getfield 23, 3) := by decide +kernel
theorem dWo_tellByNew_42 : decode prog_11_method_3_code 42 = .ok (.getfield 72, 3) := by decide +kernel
theorem dWo_tellByNew_45 : decode prog_11_method_3_code 45 = .ok (.iload 6, 2) := by decide +kernel
theorem dWo_tellByNew_47 : decode prog_11_method_3_code 47 = .ok (.aload_n 0, 1) := by decide +kernel
theorem dWo_tellByNew_48 : decode prog_11_method_3_code 48 = .ok (.getfield 23, 3) := by decide +kernel
theorem dWo_tellByNew_51 : decode prog_11_method_3_code 51 = .ok (.getfield 75, 3) := by decide +kernel
theorem dWo_tellByNew_54 : decode prog_11_method_3_code 54 = .ok (.imul, 1) := by decide +kernel
theorem dWo_tellByNew_55 : decode prog_11_method_3_code 55 = .ok (.iload_n 3, 1) := by decide +kernel
theorem dWo_tellByNew_56 : decode prog_11_method_3_code 56 = .ok (.iadd, 1) := by decide +kernel
theorem dWo_tellByNew_57 : decode prog_11_method_3_code 57 = .ok (.iload 4, 2) := by decide +kernel
theorem dWo_tellByNew_59 : decode prog_11_method_3_code 59 = .ok (.iadd, 1) := by decide +kernel
theorem dWo_tellByNew_60 : decode prog_11_method_3_code 60 = .ok (.iaload, 1) := by decide +kernel
theorem dWo_tellByNew_61 : decode prog_11_method_3_code 61 = .ok (.imul, 1) := by decide +kernel
theorem dWo_tellByNew_62 : decode prog_11_method_3_code 62 = .ok (.iadd, 1) := by decide +kernel
theorem dWo_tellByNew_63 : decode prog_11_method_3_code 63 = .ok (.istore 5, 2) := by decide +kernel
theorem dWo_tellByNew_65 : decode prog_11_method_3_code 65 = .ok (.iinc 6 1, 3) := by decide +kernel
theorem dWo_tellByNew_68 : decode prog_11_method_3_code 68 = .ok (.goto (-45), 3) := by decide +kernel
theorem dWo_tellByNew_71 : decode prog_11_method_3_code 71 = .ok (.aload_n 0, 1) := by decide +kernel
theorem dWo_tellByNew_72 : decode prog_11_method_3_code 72 = .ok (.getfield 12, 3) := by decide +kernel
theorem dWo_tellByNew_75 : decode prog_11_method_3_code 75 = .ok (.iload_n 1, 1) := by decide +kernel
theorem dWo_tellByNew_76 : decode prog_11_method_3_code 76 = .ok (.iload_n 2, 1) := by decide +kernel
theorem dWo_tellByNew_77 : decode prog_11_method_3_code 77 = .ok (.iload 4, 2) := by decide +kernel
theorem dWo_tellByNew_79 : decode prog_11_method_3_code 79 = .ok (.iload 5, 2) := by decide +kernel
theorem dWo_tellByNew_81 : decode prog_11_method_3_code 81 = .ok (.invokevirtual 78, 3) := by decide +kernel
theorem dWo_tellByNew_84 : decode prog_11_method_3_code 84 = .ok (.iinc 4 1, 3) := by decide +kernel
theorem dWo_tellByNew_87 : decode prog_11_method_3_code 87 = .ok (.goto (-76), 3) := by decide +kernel
theorem dWo_tellByNew_90 : decode prog_11_method_3_code 90 = .ok (.return_, 1) := by decide +kernel
theorem t_Wo_tellByNew {d : Nat} {x1 x2 : Int} {σ : SG} {Q : Int → SG → Prop} (h : inI x1 → inI x2 → (L (d + 1) M_Wo_tellByNew 11 [vA 104, vI x1, vI x2, vI (σ 105 2), vI 0, vU, vU] [] σ Q)) : Tri (d + 1) M_Wo_tellByNew [vA 104, vI x1, vI x2] σ Q :=
  Tri_intro rfl (Nat.le_of_ble_eq_true rfl) (ls := [vA 104, vI x1, vI x2, vU, vU, vU, vU]) rfl (fun hok => L_aload_n dWo_tellByNew_0 rfl (L_getF (b := 105) fw_Wo_12 rfl rfl (by decide) dWo_tellByNew_1 ⟨ob_104, L_getf fw_Wo_40 rfl dWo_tellByNew_4 ⟨ob_105, L_istore_n dWo_tellByNew_7 (by decide) (L_iconst dWo_tellByNew_8 in_0 (L_istore dWo_tellByNew_9 (by decide) ((h (hok _ (List.mem_of_getElem? (i := 1) rfl)) (hok _ (List.mem_of_getElem? (i := 2) rfl))))))⟩⟩))
theorem s_Wo_tellByNew_11 {d : Nat} {x1 x2 x3 x4 : Int} {σ : SG} {Q : Int → SG → Prop} (h : (x3 ≤ x4 → Q 0 σ) ∧ (x4 < x3 → L (d + 1) M_Wo_tellByNew 23 [vA 104, vI x1, vI x2, vI x3, vI x4, vI 0, vI 0] [] σ Q)) : L (d + 1) M_Wo_tellByNew 11 [vA 104, vI x1, vI x2, vI x3, vI x4, vU, vU] [] σ Q :=
  L_iload dWo_tellByNew_11 rfl (L_iload_n dWo_tellByNew_13 rfl (L_icmp_ge dWo_tellByNew_14 (by decide) ⟨fun c1 => L_return rfl dWo_tellByNew_90 (h.1 c1), fun c1 => L_iconst dWo_tellByNew_17 in_0 (L_istore dWo_tellByNew_18 (by decide) (L_iconst dWo_tellByNew_20 in_0 (L_istore dWo_tellByNew_21 (by decide) (h.2 c1))))⟩))
theorem s_Wo_tellByNew_23 {d : Nat} {x1 x2 x3 x4 x5 x6 : Int} {σ : SG} {Q : Int → SG → Prop} (h : (x3 ≤ x6 → Tri d M_Wd_setCell [vA 105, vI x1, vI x2, vI x4, vI x5] σ (fun r2 σ2 => L (d + 1) M_Wo_tellByNew 11 [vA 104, vI x1, vI x2, vI x3, vI (w32 (x4 + 1)), vU, vU] [] σ2 Q)) ∧ (x6 < x3 → (0 ≤ x6 ∧ x6 < 5) ∧ (0 ≤ w32 ((w32 ((w32 (x6 * (σ 107 0))) + x3)) + x4) ∧ w32 ((w32 ((w32 (x6 * (σ 107 0))) + x3)) + x4) < 625) ∧ L (d + 1) M_Wo_tellByNew 23 [vA 104, vI x1, vI x2, vI x3, vI x4, vI (w32 (x5 + (w32 ((σ 112 x6) * (σ 108 (w32 ((w32 ((w32 (x6 * (σ 107 0))) + x3)) + x4))))))), vI (w32 (x6 + 1))] [] σ Q)) : L (d + 1) M_Wo_tellByNew 23 [vA 104, vI x1, vI x2, vI x3, vI x4, vI x5, vI x6] [] σ Q :=
  L_iload dWo_tellByNew_23 rfl (L_iload_n dWo_tellByNew_25 rfl (L_icmp_ge dWo_tellByNew_26 (by decide) ⟨fun c1 => L_aload_n dWo_tellByNew_71 rfl (L_getF (b := 105) fw_Wo_12 rfl rfl (by decide) dWo_tellByNew_72 ⟨ob_104, L_iload_n dWo_tellByNew_75 rfl (L_iload_n dWo_tellByNew_76 rfl (L_iload dWo_tellByNew_77 rfl (L_iload dWo_tellByNew_79 rfl (L_callVV rfl cv_Wd_setCell (As := [vI x1, vI x2, vI x4, vI x5]) rfl (tk6 17 rfl rfl) rfl (Nat.le_of_ble_eq_true rfl) dWo_tellByNew_81 ⟨ob_105, Tri.mono (h.1 c1) (fun r2 σ2 q2 => L_iinc dWo_tellByNew_84 rfl (by decide) (L_goto dWo_tellByNew_87 (by decide) (L_weak [true, true, true, true, true, false, false] q2)))⟩))))⟩), fun c1 => L_iload dWo_tellByNew_29 rfl (L_aload_n dWo_tellByNew_31 rfl (L_getF (b := 112) fw_Wo_34 rfl rfl (by decide) dWo_tellByNew_32 ⟨ob_104, L_iload dWo_tellByNew_35 rfl (L_ialoadL kd_112 dWo_tellByNew_37 ⟨(h.2 c1).1, L_aload_n dWo_tellByNew_38 rfl (L_getF (b := 107) fw_Wo_23 rfl rfl (by decide) dWo_tellByNew_39 ⟨ob_104, L_getF (b := 108) fw_Wo_72 rfl rfl (by decide) dWo_tellByNew_42 ⟨ob_107, L_iload dWo_tellByNew_45 rfl (L_aload_n dWo_tellByNew_47 rfl (L_getF (b := 107) fw_Wo_23 rfl rfl (by decide) dWo_tellByNew_48 ⟨ob_104, L_getf fw_Wo_75 rfl dWo_tellByNew_51 ⟨ob_107, L_imul dWo_tellByNew_54 (L_iload_n dWo_tellByNew_55 rfl (L_iadd dWo_tellByNew_56 (L_iload dWo_tellByNew_57 rfl (L_iadd dWo_tellByNew_59 (L_ialoadL kd_108 dWo_tellByNew_60 ⟨(h.2 c1).2.1, L_imul dWo_tellByNew_61 (L_iadd dWo_tellByNew_62 (L_istore dWo_tellByNew_63 (by decide) (L_iinc dWo_tellByNew_65 rfl (by decide) (L_goto dWo_tellByNew_68 (by decide) ((h.2 c1).2.2)))))⟩)))))⟩⟩))⟩⟩)⟩)⟩))⟩))
theorem dWo_layBase_0 : decode prog_11_method_4_code 0 = .ok (.iconst 0, 1) := by decide +kernel
theorem dWo_layBase_1 : decode prog_11_method_4_code 1 = .ok (.istore_n 3, 1) := by decide +kernel
theorem dWo_layBase_2 : decode prog_11_method_4_code 2 = .ok (.iload_n 3, 1) := by decide +kernel
theorem dWo_layBase_3 : decode prog_11_method_4_code 3 = .ok (.iload_n 1, 1) := by decide +kernel
theorem dWo_layBase_4 : decode prog_11_method_4_code 4 = .ok (.if_icmp .ge 65, 3) := by decide +kernel
theorem dWo_layBase_7 : decode prog_11_method_4_code 7 = .ok (.iload_n 3, 1) := by decide +kernel
theorem dWo_layBase_8 : decode prog_11_method_4_code 8 = .ok (.iconst 5, 1) := by decide +kernel
theorem dWo_layBase_9 : decode prog_11_method_4_code 9 = .ok (.if_icmp .ge 60, 3) := by decide +kernel
theorem dWo_layBase_12 : decode prog_11_method_4_code 12 = .ok (.iconst 0, 1) := by decide +kernel
theorem dWo_layBase_13 : decode prog_11_method_4_code 13 = .ok (.istore 4, 2) := by decide +kernel
theorem dWo_layBase_15 : decode prog_11_method_4_code 15 = .ok (.iload 4, 2) := by decide +kernel
theorem dWo_layBase_17 : decode prog_11_method_4_code 17 = .ok (.iload_n 1, 1) := by decide +kernel
theorem dWo_layBase_18 : decode prog_11_method_4_code 18 = .ok (.if_icmp .ge 45, 3) := by decide +kernel
theorem dWo_layBase_21 : decode prog_11_method_4_code 21 = .ok (.iload 4, 2) := by decide +kernel
theorem dWo_layBase_23 : decode prog_11_method_4_code 23 = .ok (.iconst 5, 1) := by decide +kernel
theorem dWo_layBase_24 : decode prog_11_method_4_code 24 = .ok (.if_icmp .ge 39, 3) := by decide +kernel
theorem dWo_layBase_27 : decode prog_11_method_4_code 27 = .ok (.iload_n 3, 1) := by decide +kernel
theorem dWo_layBase_28 : decode prog_11_method_4_code 28 = .ok (.iload_n 1, 1) := by decide +kernel
theorem dWo_layBase_29 : decode prog_11_method_4_code 29 = .ok (.imul, 1) := by decide +kernel
theorem dWo_layBase_30 : decode prog_11_method_4_code 30 = .ok (.iload 4, 2) := by decide +kernel
theorem dWo_layBase_32 : decode prog_11_method_4_code 32 = .ok (.iadd, 1) := by decide +kernel
theorem dWo_layBase_33 : decode prog_11_method_4_code 33 = .ok (.aload_n 2, 1) := by decide +kernel
theorem dWo_layBase_34 : decode prog_11_method_4_code 34 = .ok (.arraylength, 1) := by decide +kernel
theorem dWo_layBase_35 : decode prog_11_method_4_code 35 = .ok (.if_icmp .ge 28, 3) := by decide +kernel
theorem dWo_layBase_38 : decode prog_11_method_4_code 38 = .ok (.aload_n 0, 1) := by decide +kernel
theorem dWo_layBase_39 : decode prog_11_method_4_code 39 = .ok (.getfield 27, 3) := by decide +kernel
theorem dWo_layBase_42 : decode prog_11_method_4_code 42 = .ok (.iload_n 3, 1) := by decide +kernel
theorem dWo_layBase_43 : decode prog_11_method_4_code 43 = .ok (.iconst 5, 1) := by decide +kernel
theorem dWo_layBase_44 : decode prog_11_method_4_code 44 = .ok (.imul, 1) := by decide +kernel
theorem dWo_layBase_45 : decode prog_11_method_4_code 45 = .ok (.iload 4, 2) := by decide +kernel
theorem dWo_layBase_47 : decode prog_11_method_4_code 47 = .ok (.iadd, 1) := by decide +kernel
theorem dWo_layBase_48 : decode prog_11_method_4_code 48 = .ok (.aload_n 2, 1) := by decide +kernel
theorem dWo_layBase_49 : decode prog_11_method_4_code 49 = .ok (.iload_n 3, 1) := by decide +kernel
theorem dWo_layBase_50 : decode prog_11_method_4_code 50 = .ok (.iload_n 1, 1) := by decide +kernel
theorem dWo_layBase_51 : decode prog_11_method_4_code 51 = .ok (.imul, 1) := by decide +kernel
theorem dWo_layBase_52 : decode prog_11_method_4_code 52 = .ok (.iload 4, 2) := by decide +kernel
theorem dWo_layBase_54 : decode prog_11_method_4_code 54 = .ok (.iadd, 1) := by decide +kernel
theorem dWo_layBase_55 : decode prog_11_method_4_code 55 = .ok (.iaload, 1) := by decide +kernel
theorem dWo_layBase_56 : decode prog_11_method_4_code 56 = .ok (.iastore, 1) := by decide +kernel
theorem dWo_layBase_57 : decode prog_11_method_4_code 57 = .ok (.iinc 4 1, 3) := by decide +kernel
theorem dWo_layBase_60 : decode prog_11_method_4_code 60 = .ok (.goto (-45), 3) := by decide +kernel
theorem dWo_layBase_63 : decode prog_11_method_4_code 63 = .ok (.iinc 3 1, 3) := by decide +kernel
theorem dWo_layBase_66 : decode prog_11_method_4_code 66 = .ok (.goto (-64), 3) := by decide +kernel
theorem dWo_layBase_69 : decode prog_11_method_4_code 69 = .ok (.return_, 1) := by decide +kernel
theorem t_Wo_layBase {d : Nat} {x1 x2 : Int} {σ : SG} {Q : Int → SG → Prop} (h : inI x1 → (L (d + 1) M_Wo_layBase 2 [vA 104, vI x1, vA x2, vI 0, vU] [] σ Q)) : Tri (d + 1) M_Wo_layBase [vA 104, vI x1, vA x2] σ Q :=
  Tri_intro rfl (Nat.le_of_ble_eq_true rfl) (ls := [vA 104, vI x1, vA x2, vU, vU]) rfl (fun hok => L_iconst dWo_layBase_0 in_0 (L_istore_n dWo_layBase_1 (by decide) ((h (hok _ (List.mem_of_getElem? (i := 1) rfl))))))
theorem s_Wo_layBase_2 {d : Nat} {x1 x2 x3 : Int} {σ : SG} {Q : Int → SG → Prop} (h : (x1 ≤ x3 → Q 0 σ) ∧ (x3 < x1 → (5 ≤ x3 → Q 0 σ) ∧ (x3 < 5 → L (d + 1) M_Wo_layBase 15 [vA 104, vI x1, vA x2, vI x3, vI 0] [] σ Q))) : L (d + 1) M_Wo_layBase 2 [vA 104, vI x1, vA x2, vI x3, vU] [] σ Q :=
  L_iload_n dWo_layBase_2 rfl (L_iload_n dWo_layBase_3 rfl (L_icmp_ge dWo_layBase_4 (by decide) ⟨fun c1 => L_return rfl dWo_layBase_69 (h.1 c1), fun c1 => L_iload_n dWo_layBase_7 rfl (L_iconst dWo_layBase_8 in_5 (L_icmp_ge dWo_layBase_9 (by decide) ⟨fun c2 => L_return rfl dWo_layBase_69 ((h.2 c1).1 c2), fun c2 => L_iconst dWo_layBase_12 in_0 (L_istore dWo_layBase_13 (by decide) ((h.2 c1).2 c2))⟩))⟩))
theorem s_Wo_layBase_15 {d : Nat} {x1 x2 x3 x4 : Int} {σ : SG} {Q : Int → SG → Prop} (h : (x1 ≤ x4 → L (d + 1) M_Wo_layBase 2 [vA 104, vI x1, vA x2, vI (w32 (x3 + 1)), vU] [] σ Q) ∧ (x4 < x1 → (5 ≤ x4 → L (d + 1) M_Wo_layBase 2 [vA 104, vI x1, vA x2, vI (w32 (x3 + 1)), vU] [] σ Q) ∧ (x4 < 5 → (kd x2).1 = 100 ∧ (((kd x2).2 : Int) ≤ w32 ((w32 (x3 * x1)) + x4) → L (d + 1) M_Wo_layBase 2 [vA 104, vI x1, vA x2, vI (w32 (x3 + 1)), vU] [] σ Q) ∧ (w32 ((w32 (x3 * x1)) + x4) < ((kd x2).2 : Int) → rdok 100 x2 (w32 ((w32 (x3 * x1)) + x4)) ∧ (0 ≤ w32 ((w32 (x3 * 5)) + x4) ∧ w32 ((w32 (x3 * 5)) + x4) < 25) ∧ (∀ σ4, σ4 = up σ 110 (w32 ((w32 (x3 * 5)) + x4)) (σ x2 (w32 ((w32 (x3 * x1)) + x4))) → L (d + 1) M_Wo_layBase 15 [vA 104, vI x1, vA x2, vI x3, vI (w32 (x4 + 1))] [] σ4 Q))))) : L (d + 1) M_Wo_layBase 15 [vA 104, vI x1, vA x2, vI x3, vI x4] [] σ Q :=
  L_iload dWo_layBase_15 rfl (L_iload_n dWo_layBase_17 rfl (L_icmp_ge dWo_layBase_18 (by decide) ⟨fun c1 => L_iinc dWo_layBase_63 rfl (by decide) (L_goto dWo_layBase_66 (by decide) (L_weak [true, true, true, true, false] (h.1 c1))), fun c1 => L_iload dWo_layBase_21 rfl (L_iconst dWo_layBase_23 in_5 (L_icmp_ge dWo_layBase_24 (by decide) ⟨fun c2 => L_iinc dWo_layBase_63 rfl (by decide) (L_goto dWo_layBase_66 (by decide) (L_weak [true, true, true, true, false] ((h.2 c1).1 c2))), fun c2 => L_iload_n dWo_layBase_27 rfl (L_iload_n dWo_layBase_28 rfl (L_imul dWo_layBase_29 (L_iload dWo_layBase_30 rfl (L_iadd dWo_layBase_32 (L_aload_n dWo_layBase_33 rfl (L_alenU dWo_layBase_34 ⟨((h.2 c1).2 c2).1, L_icmp_ge dWo_layBase_35 (by decide) ⟨fun c3 => L_iinc dWo_layBase_63 rfl (by decide) (L_goto dWo_layBase_66 (by decide) (L_weak [true, true, true, true, false] (((h.2 c1).2 c2).2.1 c3))), fun c3 => L_aload_n dWo_layBase_38 rfl (L_getF (b := 110) fw_Wo_27 rfl rfl (by decide) dWo_layBase_39 ⟨ob_104, L_iload_n dWo_layBase_42 rfl (L_iconst dWo_layBase_43 in_5 (L_imul dWo_layBase_44 (L_iload dWo_layBase_45 rfl (L_iadd dWo_layBase_47 (L_aload_n dWo_layBase_48 rfl (L_iload_n dWo_layBase_49 rfl (L_iload_n dWo_layBase_50 rfl (L_imul dWo_layBase_51 (L_iload dWo_layBase_52 rfl (L_iadd dWo_layBase_54 (L_iaload dWo_layBase_55 ⟨(((h.2 c1).2 c2).2.2 c3).1, L_iastoreL (by decide) kd_110 dWo_layBase_56 ⟨(((h.2 c1).2 c2).2.2 c3).2.1, fun σ4 e4 => L_iinc dWo_layBase_57 rfl (by decide) (L_goto dWo_layBase_60 (by decide) ((((h.2 c1).2 c2).2.2 c3).2.2 σ4 e4))⟩⟩)))))))))))⟩)⟩⟩))))))⟩))⟩))
theorem dWo_laySwap_0 : decode prog_11_method_5_code 0 = .ok (.iload_n 2, 1) := by decide +kernel
theorem dWo_laySwap_1 : decode prog_11_method_5_code 1 = .ok (.iload_n 3, 1) := by decide +kernel
theorem dWo_laySwap_2 : decode prog_11_method_5_code 2 = .ok (.if_icmp .eq 19, 3) := by decide +kernel
theorem dWo_laySwap_5 : decode prog_11_method_5_code 5 = .ok (.aload_n 1, 1) := by decide +kernel
theorem dWo_laySwap_6 : decode prog_11_method_5_code 6 = .ok (.iload_n 2, 1) := by decide +kernel
theorem dWo_laySwap_7 : decode prog_11_method_5_code 7 = .ok (.invokestatic 82, 3) := by decide +kernel
theorem dWo_laySwap_10 : decode prog_11_method_5_code 10 = .ok (.ifCond .eq 11, 3) := by decide +kernel
theorem dWo_laySwap_13 : decode prog_11_method_5_code 13 = .ok (.aload_n 1, 1) := by decide +kernel
theorem dWo_laySwap_14 : decode prog_11_method_5_code 14 = .ok (.iload_n 3, 1) := by decide +kernel
theorem dWo_laySwap_15 : decode prog_11_method_5_code 15 = .ok (.invokestatic 82, 3) := by decide +kernel
theorem dWo_laySwap_18 : decode prog_11_method_5_code 18 = .ok (.ifCond .ne 5, 3) := by decide +kernel
theorem dWo_laySwap_21 : decode prog_11_method_5_code 21 = .ok (.iconst 0, 1) := by decide +kernel
theorem dWo_laySwap_22 : decode prog_11_method_5_code 22 = .ok (.ireturn, 1) := by decide +kernel
theorem dWo_laySwap_23 : decode prog_11_method_5_code 23 = .ok (.getstatic 86, 3) := by decide +kernel
theorem dWo_laySwap_26 : decode prog_11_method_5_code 26 = .ok (.iconst 0, 1) := by decide +kernel
theorem dWo_laySwap_27 : decode prog_11_method_5_code 27 = .ok (.aload_n 0, 1) := by decide +kernel
theorem dWo_laySwap_28 : decode prog_11_method_5_code 28 = .ok (.getfield 27, 3) := by decide +kernel
theorem dWo_laySwap_31 : decode prog_11_method_5_code 31 = .ok (.iconst 0, 1) := by decide +kernel
theorem dWo_laySwap_32 : decode prog_11_method_5_code 32 = .ok (.bipush 25, 2) := by decide +kernel
theorem dWo_laySwap_34 : decode prog_11_method_5_code 34 = .ok (.invokestatic 89, 3) := by decide +kernel
theorem dWo_laySwap_37 : decode prog_11_method_5_code 37 = .ok (.aload_n 0, 1) := by decide +kernel
theorem dWo_laySwap_38 : decode prog_11_method_5_code 38 = .ok (.getfield 27, 3) := by decide +kernel
theorem dWo_laySwap_41 : decode prog_11_method_5_code 41 = .ok (.iload_n 2, 1) := by decide +kernel
theorem dWo_laySwap_42 : decode prog_11_method_5_code 42 = .ok (.iconst 5, 1) := by decide +kernel
theorem dWo_laySwap_43 : decode prog_11_method_5_code 43 = .ok (.imul, 1) := by decide +kernel
theorem dWo_laySwap_44 : decode prog_11_method_5_code 44 = .ok (.iload_n 2, 1) := by decide +kernel
theorem dWo_laySwap_45 : decode prog_11_method_5_code 45 = .ok (.iadd, 1) := by decide +kernel
theorem dWo_laySwap_46 : decode prog_11_method_5_code 46 = .ok (.iconst 0, 1) := by decide +kernel
theorem dWo_laySwap_47 : decode prog_11_method_5_code 47 = .ok (.iastore, 1) := by decide +kernel
theorem dWo_laySwap_48 : decode prog_11_method_5_code 48 = .ok (.aload_n 0, 1) := by decide +kernel
theorem dWo_laySwap_49 : decode prog_11_method_5_code 49 = .ok (.getfield 27, 3) := by decide +kernel
theorem dWo_laySwap_52 : decode prog_11_method_5_code 52 = .ok (.iload_n 3, 1) := by decide +kernel
theorem dWo_laySwap_53 : decode prog_11_method_5_code 53 = .ok (.iconst 5, 1) := by decide +kernel
theorem dWo_laySwap_54 : decode prog_11_method_5_code 54 = .ok (.imul, 1) := by decide +kernel
theorem dWo_laySwap_55 : decode prog_11_method_5_code 55 = .ok (.iload_n 3, 1) := by decide +kernel
theorem dWo_laySwap_56 : decode prog_11_method_5_code 56 = .ok (.iadd, 1) := by decide +kernel
theorem dWo_laySwap_57 : decode prog_11_method_5_code 57 = .ok (.iconst 0, 1) := by decide +kernel
theorem dWo_laySwap_58 : decode prog_11_method_5_code 58 = .ok (.iastore, 1) := by decide +kernel
theorem dWo_laySwap_59 : decode prog_11_method_5_code 59 = .ok (.aload_n 0, 1) := by decide +kernel
theorem dWo_laySwap_60 : decode prog_11_method_5_code 60 = .ok (.getfield 27, 3) := by decide +kernel
theorem dWo_laySwap_63 : decode prog_11_method_5_code 63 = .ok (.iload_n 2, 1) := by decide +kernel
theorem dWo_laySwap_64 : decode prog_11_method_5_code 64 = .ok (.iconst 5, 1) := by decide +kernel
theorem dWo_laySwap_65 : decode prog_11_method_5_code 65 = .ok (.imul, 1) := by decide +kernel
theorem dWo_laySwap_66 : decode prog_11_method_5_code 66 = .ok (.iload_n 3, 1) := by decide +kernel
theorem dWo_laySwap_67 : decode prog_11_method_5_code 67 = .ok (.iadd, 1) := by decide +kernel
theorem dWo_laySwap_68 : decode prog_11_method_5_code 68 = .ok (.iconst 1, 1) := by decide +kernel
theorem dWo_laySwap_69 : decode prog_11_method_5_code 69 = .ok (.iastore, 1) := by decide +kernel
theorem dWo_laySwap_70 : decode prog_11_method_5_code 70 = .ok (.aload_n 0, 1) := by decide +kernel
theorem dWo_laySwap_71 : decode prog_11_method_5_code 71 = .ok (.getfield 27, 3) := by decide +kernel
theorem dWo_laySwap_74 : decode prog_11_method_5_code 74 = .ok (.iload_n 3, 1) := by decide +kernel
theorem dWo_laySwap_75 : decode prog_11_method_5_code 75 = .ok (.iconst 5, 1) := by decide +kernel
theorem dWo_laySwap_76 : decode prog_11_method_5_code 76 = .ok (.imul, 1) := by decide +kernel
theorem dWo_laySwap_77 : decode prog_11_method_5_code 77 = .ok (.iload_n 2, 1) := by decide +kernel
theorem dWo_laySwap_78 : decode prog_11_method_5_code 78 = .ok (.iadd, 1) := by decide +kernel
theorem dWo_laySwap_79 : decode prog_11_method_5_code 79 = .ok (.iconst 1, 1) := by decide +kernel
theorem dWo_laySwap_80 : decode prog_11_method_5_code 80 = .ok (.iastore, 1) := by decide +kernel
theorem dWo_laySwap_81 : decode prog_11_method_5_code 81 = .ok (.iconst 1, 1) := by decide +kernel
theorem dWo_laySwap_82 : decode prog_11_method_5_code 82 = .ok (.ireturn, 1) := by decide +kernel
theorem t_Wo_laySwap {d : Nat} {x1 x2 x3 : Int} {σ : SG} {Q : Int → SG → Prop} (h : inI x2 → inI x3 → ((x2 = x3 → Q 0 σ) ∧ (x2 ≠ x3 → Tri d M_Wo_isBaseOf [vA x1, vI x2] σ (fun r2 σ2 => (r2 = 0 → Q 0 σ2) ∧ (r2 ≠ 0 → Tri d M_Wo_isBaseOf [vA x1, vI x3] σ2 (fun r4 σ4 => (r4 ≠ 0 → ((0 : Int) ≤ 110 ∧ (kd 110).1 = 100 ∧ (kd (-2)).1 = 100 ∧ (0 : Int) ≤ 0 ∧ (0 : Int) ≤ 0 ∧ (0 : Int) ≤ 25 ∧ 0 + 25 ≤ ((kd (-2)).2 : Int) ∧ 0 + 25 ≤ ((kd 110).2 : Int)) ∧ (∀ σ6, σ6 = cpy σ4 (-2) 0 110 0 25 → (0 ≤ w32 ((w32 (x2 * 5)) + x2) ∧ w32 ((w32 (x2 * 5)) + x2) < 25) ∧ (∀ σ7, σ7 = up σ6 110 (w32 ((w32 (x2 * 5)) + x2)) 0 → (0 ≤ w32 ((w32 (x3 * 5)) + x3) ∧ w32 ((w32 (x3 * 5)) + x3) < 25) ∧ (∀ σ8, σ8 = up σ7 110 (w32 ((w32 (x3 * 5)) + x3)) 0 → (0 ≤ w32 ((w32 (x2 * 5)) + x3) ∧ w32 ((w32 (x2 * 5)) + x3) < 25) ∧ (∀ σ9, σ9 = up σ8 110 (w32 ((w32 (x2 * 5)) + x3)) 1 → (0 ≤ w32 ((w32 (x3 * 5)) + x2) ∧ w32 ((w32 (x3 * 5)) + x2) < 25) ∧ (∀ σ10, σ10 = up σ9 110 (w32 ((w32 (x3 * 5)) + x2)) 1 → Q 1 σ10)))))) ∧ (r4 = 0 → Q 0 σ4))))))) : Tri (d + 1) M_Wo_laySwap [vA 104, vA x1, vI x2, vI x3] σ Q :=
  Tri_intro rfl (Nat.le_of_ble_eq_true rfl) (ls := [vA 104, vA x1, vI x2, vI x3]) rfl (fun hok => L_iload_n dWo_laySwap_0 rfl (L_iload_n dWo_laySwap_1 rfl (L_icmp_eq dWo_laySwap_2 (by decide) ⟨fun c1 => L_iconst dWo_laySwap_21 in_0 (L_zreturn0 rfl dWo_laySwap_22 ((h (hok _ (List.mem_of_getElem? (i := 2) rfl)) (hok _ (List.mem_of_getElem? (i := 3) rfl))).1 c1)), fun c1 => L_aload_n dWo_laySwap_5 rfl (L_iload_n dWo_laySwap_6 rfl (L_callSI rfl cs_Wo_isBaseOf (As := [vA x1, vI x2]) rfl (tk6 157 rfl rfl) rfl (Nat.le_of_ble_eq_true rfl) dWo_laySwap_7 (Tri.mono ((h (hok _ (List.mem_of_getElem? (i := 2) rfl)) (hok _ (List.mem_of_getElem? (i := 3) rfl))).2 c1) (fun r2 σ2 q2 => L_if_eq dWo_laySwap_10 (by decide) ⟨fun c3 => L_iconst dWo_laySwap_21 in_0 (L_zreturn0 rfl dWo_laySwap_22 (q2.1 c3)), fun c3 => L_aload_n dWo_laySwap_13 rfl (L_iload_n dWo_laySwap_14 rfl (L_callSI rfl cs_Wo_isBaseOf (As := [vA x1, vI x3]) rfl (tk6 157 rfl rfl) rfl (Nat.le_of_ble_eq_true rfl) dWo_laySwap_15 (Tri.mono (q2.2 c3) (fun r4 σ4 q4 => L_if_ne dWo_laySwap_18 (by decide) ⟨fun c5 => L_units (by decide +kernel) dWo_laySwap_23 (L_iconst dWo_laySwap_26 in_0 (L_aload_n dWo_laySwap_27 rfl (L_getF (b := 110) fw_Wo_27 rfl rfl (by decide) dWo_laySwap_28 ⟨ob_104, L_iconst dWo_laySwap_31 in_0 (L_bipush dWo_laySwap_32 bp_25 in_25 (L_copyIN (tk6 160 rfl rfl) (Nat.le_of_ble_eq_true rfl) dWo_laySwap_34 ⟨(q4.1 c5).1, fun σ6 e6 => L_aload_n dWo_laySwap_37 rfl (L_getF (b := 110) fw_Wo_27 rfl rfl (by decide) dWo_laySwap_38 ⟨ob_104, L_iload_n dWo_laySwap_41 rfl (L_iconst dWo_laySwap_42 in_5 (L_imul dWo_laySwap_43 (L_iload_n dWo_laySwap_44 rfl (L_iadd dWo_laySwap_45 (L_iconst dWo_laySwap_46 in_0 (L_iastoreL (by decide) kd_110 dWo_laySwap_47 ⟨((q4.1 c5).2 σ6 e6).1, fun σ7 e7 => L_aload_n dWo_laySwap_48 rfl (L_getF (b := 110) fw_Wo_27 rfl rfl (by decide) dWo_laySwap_49 ⟨ob_104, L_iload_n dWo_laySwap_52 rfl (L_iconst dWo_laySwap_53 in_5 (L_imul dWo_laySwap_54 (L_iload_n dWo_laySwap_55 rfl (L_iadd dWo_laySwap_56 (L_iconst dWo_laySwap_57 in_0 (L_iastoreL (by decide) kd_110 dWo_laySwap_58 ⟨(((q4.1 c5).2 σ6 e6).2 σ7 e7).1, fun σ8 e8 => L_aload_n dWo_laySwap_59 rfl (L_getF (b := 110) fw_Wo_27 rfl rfl (by decide) dWo_laySwap_60 ⟨ob_104, L_iload_n dWo_laySwap_63 rfl (L_iconst dWo_laySwap_64 in_5 (L_imul dWo_laySwap_65 (L_iload_n dWo_laySwap_66 rfl (L_iadd dWo_laySwap_67 (L_iconst dWo_laySwap_68 in_1 (L_iastoreL (by decide) kd_110 dWo_laySwap_69 ⟨((((q4.1 c5).2 σ6 e6).2 σ7 e7).2 σ8 e8).1, fun σ9 e9 => L_aload_n dWo_laySwap_70 rfl (L_getF (b := 110) fw_Wo_27 rfl rfl (by decide) dWo_laySwap_71 ⟨ob_104, L_iload_n dWo_laySwap_74 rfl (L_iconst dWo_laySwap_75 in_5 (L_imul dWo_laySwap_76 (L_iload_n dWo_laySwap_77 rfl (L_iadd dWo_laySwap_78 (L_iconst dWo_laySwap_79 in_1 (L_iastoreL (by decide) kd_110 dWo_laySwap_80 ⟨(((((q4.1 c5).2 σ6 e6).2 σ7 e7).2 σ8 e8).2 σ9 e9).1, fun σ10 e10 => L_iconst dWo_laySwap_81 in_1 (L_zreturn1 rfl dWo_laySwap_82 ((((((q4.1 c5).2 σ6 e6).2 σ7 e7).2 σ8 e8).2 σ9 e9).2 σ10 e10))⟩))))))⟩)⟩))))))⟩)⟩))))))⟩)⟩))))))⟩)⟩))⟩))), fun c5 => L_iconst dWo_laySwap_21 in_0 (L_zreturn0 rfl dWo_laySwap_22 (q4.2 c5))⟩))))⟩))))⟩)))
theorem dWo_layScale_0 : decode prog_11_method_6_code 0 = .ok (.iload_n 3, 1) := by decide +kernel
theorem dWo_layScale_1 : decode prog_11_method_6_code 1 = .ok (.aload_n 1, 1) := by decide +kernel
theorem dWo_layScale_2 : decode prog_11_method_6_code 2 = .ok (.getfield 44, 3) := by decide +kernel
theorem dWo_layScale_5 : decode prog_11_method_6_code 5 = .ok (.invokestatic 95, 3) := by decide +kernel
theorem dWo_layScale_8 : decode prog_11_method_6_code 8 = .ok (.istore 4, 2) := by decide +kernel
theorem dWo_layScale_10 : decode prog_11_method_6_code 10 = .ok (.iload 4, 2) := by decide +kernel
theorem dWo_layScale_12 : decode prog_11_method_6_code 12 = .ok (.ifCond .eq 11, 3) := by decide +kernel
theorem dWo_layScale_15 : decode prog_11_method_6_code 15 = .ok (.aload_n 1, 1) := by decide +kernel
theorem dWo_layScale_16 : decode prog_11_method_6_code 16 = .ok (.iload_n 2, 1) := by decide +kernel
theorem dWo_layScale_17 : decode prog_11_method_6_code 17 = .ok (.invokestatic 82, 3) := by decide +kernel
theorem dWo_layScale_20 : decode prog_11_method_6_code 20 = .ok (.ifCond .ne 5, 3) := by decide +kernel
theorem dWo_layScale_23 : decode prog_11_method_6_code 23 = .ok (.iconst 0, 1) := by decide +kernel
theorem dWo_layScale_24 : decode prog_11_method_6_code 24 = .ok (.ireturn, 1) := by decide +kernel
theorem dWo_layScale_25 : decode prog_11_method_6_code 25 = .ok (.getstatic 86, 3) := by decide +kernel
theorem dWo_layScale_28 : decode prog_11_method_6_code 28 = .ok (.iconst 0, 1) := by decide +kernel
theorem dWo_layScale_29 : decode prog_11_method_6_code 29 = .ok (.aload_n 0, 1) := by decide +kernel
theorem dWo_layScale_30 : decode prog_11_method_6_code 30 = .ok (.getfield 27, 3) := by decide +kernel
theorem dWo_layScale_33 : decode prog_11_method_6_code 33 = .ok (.iconst 0, 1) := by decide +kernel
theorem dWo_layScale_34 : decode prog_11_method_6_code 34 = .ok (.bipush 25, 2) := by decide +kernel
theorem dWo_layScale_36 : decode prog_11_method_6_code 36 = .ok (.invokestatic 89, 3) := by decide +kernel
theorem dWo_layScale_39 : decode prog_11_method_6_code 39 = .ok (.aload_n 0, 1) := by decide +kernel
theorem dWo_layScale_40 : decode prog_11_method_6_code 40 = .ok (.getfield 27, 3) := by decide +kernel
theorem dWo_layScale_43 : decode prog_11_method_6_code 43 = .ok (.iload_n 2, 1) := by decide +kernel
theorem dWo_layScale_44 : decode prog_11_method_6_code 44 = .ok (.iconst 5, 1) := by decide +kernel
theorem dWo_layScale_45 : decode prog_11_method_6_code 45 = .ok (.imul, 1) := by decide +kernel
theorem dWo_layScale_46 : decode prog_11_method_6_code 46 = .ok (.iload_n 2, 1) := by decide +kernel
theorem dWo_layScale_47 : decode prog_11_method_6_code 47 = .ok (.iadd, 1) := by decide +kernel
theorem dWo_layScale_48 : decode prog_11_method_6_code 48 = .ok (.iload 4, 2) := by decide +kernel
theorem dWo_layScale_50 : decode prog_11_method_6_code 50 = .ok (.iastore, 1) := by decide +kernel
theorem dWo_layScale_51 : decode prog_11_method_6_code 51 = .ok (.iconst 1, 1) := by decide +kernel
theorem dWo_layScale_52 : decode prog_11_method_6_code 52 = .ok (.ireturn, 1) := by decide +kernel
theorem t_Wo_layScale {d : Nat} {x1 x2 x3 : Int} {σ : SG} {Q : Int → SG → Prop} (h : inI x2 → inI x3 → (obok 10 x1 ∧ Tri d M_X_mod [vI x3, vI (σ x1 1)] σ (fun r1 σ1 => (r1 = 0 → Q 0 σ1) ∧ (r1 ≠ 0 → Tri d M_Wo_isBaseOf [vA x1, vI x2] σ1 (fun r3 σ3 => (r3 ≠ 0 → ((0 : Int) ≤ 110 ∧ (kd 110).1 = 100 ∧ (kd (-2)).1 = 100 ∧ (0 : Int) ≤ 0 ∧ (0 : Int) ≤ 0 ∧ (0 : Int) ≤ 25 ∧ 0 + 25 ≤ ((kd (-2)).2 : Int) ∧ 0 + 25 ≤ ((kd 110).2 : Int)) ∧ (∀ σ5, σ5 = cpy σ3 (-2) 0 110 0 25 → (0 ≤ w32 ((w32 (x2 * 5)) + x2) ∧ w32 ((w32 (x2 * 5)) + x2) < 25) ∧ (∀ σ6, σ6 = up σ5 110 (w32 ((w32 (x2 * 5)) + x2)) r1 → Q 1 σ6))) ∧ (r3 = 0 → Q 0 σ3)))))) : Tri (d + 1) M_Wo_layScale [vA 104, vA x1, vI x2, vI x3] σ Q :=
  Tri_intro rfl (Nat.le_of_ble_eq_true rfl) (ls := [vA 104, vA x1, vI x2, vI x3, vU]) rfl (fun hok => L_iload_n dWo_layScale_0 rfl (L_aload_n dWo_layScale_1 rfl (L_getf fw_Wo_44 rfl dWo_layScale_2 ⟨(h (hok _ (List.mem_of_getElem? (i := 2) rfl)) (hok _ (List.mem_of_getElem? (i := 3) rfl))).1, L_callNI rfl cs_X_mod (As := [vI x3, vI (σ x1 1)]) rfl (by decide +kernel) rfl (Nat.le_of_ble_eq_true rfl) dWo_layScale_5 (Tri.mono ((h (hok _ (List.mem_of_getElem? (i := 2) rfl)) (hok _ (List.mem_of_getElem? (i := 3) rfl))).2) (fun r1 σ1 q1 => L_istore dWo_layScale_8 (by decide) (L_iload dWo_layScale_10 rfl (L_if_eq dWo_layScale_12 (by decide) ⟨fun c2 => L_iconst dWo_layScale_23 in_0 (L_zreturn0 rfl dWo_layScale_24 (q1.1 c2)), fun c2 => L_aload_n dWo_layScale_15 rfl (L_iload_n dWo_layScale_16 rfl (L_callSI rfl cs_Wo_isBaseOf (As := [vA x1, vI x2]) rfl (tk6 157 rfl rfl) rfl (Nat.le_of_ble_eq_true rfl) dWo_layScale_17 (Tri.mono (q1.2 c2) (fun r3 σ3 q3 => L_if_ne dWo_layScale_20 (by decide) ⟨fun c4 => L_units (by decide +kernel) dWo_layScale_25 (L_iconst dWo_layScale_28 in_0 (L_aload_n dWo_layScale_29 rfl (L_getF (b := 110) fw_Wo_27 rfl rfl (by decide) dWo_layScale_30 ⟨ob_104, L_iconst dWo_layScale_33 in_0 (L_bipush dWo_layScale_34 bp_25 in_25 (L_copyIN (tk6 160 rfl rfl) (Nat.le_of_ble_eq_true rfl) dWo_layScale_36 ⟨(q3.1 c4).1, fun σ5 e5 => L_aload_n dWo_layScale_39 rfl (L_getF (b := 110) fw_Wo_27 rfl rfl (by decide) dWo_layScale_40 ⟨ob_104, L_iload_n dWo_layScale_43 rfl (L_iconst dWo_layScale_44 in_5 (L_imul dWo_layScale_45 (L_iload_n dWo_layScale_46 rfl (L_iadd dWo_layScale_47 (L_iload dWo_layScale_48 rfl (L_iastoreL (by decide) kd_110 dWo_layScale_50 ⟨((q3.1 c4).2 σ5 e5).1, fun σ6 e6 => L_iconst dWo_layScale_51 in_1 (L_zreturn1 rfl dWo_layScale_52 (((q3.1 c4).2 σ5 e5).2 σ6 e6))⟩))))))⟩)⟩))⟩))), fun c4 => L_iconst dWo_layScale_23 in_0 (L_zreturn0 rfl dWo_layScale_24 (q3.2 c4))⟩))))⟩))))⟩)))
theorem dWo_layAdd_0 : decode prog_11_method_7_code 0 = .ok (.iload_n 3, 1) := by decide +kernel
theorem dWo_layAdd_1 : decode prog_11_method_7_code 1 = .ok (.iload 4, 2) := by decide +kernel
theorem dWo_layAdd_3 : decode prog_11_method_7_code 3 = .ok (.if_icmp .eq 20, 3) := by decide +kernel
theorem dWo_layAdd_6 : decode prog_11_method_7_code 6 = .ok (.aload_n 1, 1) := by decide +kernel
theorem dWo_layAdd_7 : decode prog_11_method_7_code 7 = .ok (.iload_n 3, 1) := by decide +kernel
theorem dWo_layAdd_8 : decode prog_11_method_7_code 8 = .ok (.invokestatic 82, 3) := by decide +kernel
theorem dWo_layAdd_11 : decode prog_11_method_7_code 11 = .ok (.ifCond .eq 12, 3) := by decide +kernel
theorem dWo_layAdd_14 : decode prog_11_method_7_code 14 = .ok (.aload_n 1, 1) := by decide +kernel
theorem dWo_layAdd_15 : decode prog_11_method_7_code 15 = .ok (.iload 4, 2) := by decide +kernel
theorem dWo_layAdd_17 : decode prog_11_method_7_code 17 = .ok (.invokestatic 82, 3) := by decide +kernel
theorem dWo_layAdd_20 : decode prog_11_method_7_code 20 = .ok (.ifCond .ne 5, 3) := by decide +kernel
theorem dWo_layAdd_23 : decode prog_11_method_7_code 23 = .ok (.iconst 0, 1) := by decide +kernel
theorem dWo_layAdd_24 : decode prog_11_method_7_code 24 = .ok (.ireturn, 1) := by decide +kernel
theorem dWo_layAdd_25 : decode prog_11_method_7_code 25 = .ok (.getstatic 86, 3) := by decide +kernel
theorem dWo_layAdd_28 : decode prog_11_method_7_code 28 = .ok (.iconst 0, 1) := by decide +kernel
theorem dWo_layAdd_29 : decode prog_11_method_7_code 29 = .ok (.aload_n 0, 1) := by decide +kernel
theorem dWo_layAdd_30 : decode prog_11_method_7_code 30 = .ok (.getfield 27, 3) := by decide +kernel
theorem dWo_layAdd_33 : decode prog_11_method_7_code 33 = .ok (.iconst 0, 1) := by decide +kernel
theorem dWo_layAdd_34 : decode prog_11_method_7_code 34 = .ok (.bipush 25, 2) := by decide +kernel
theorem dWo_layAdd_36 : decode prog_11_method_7_code 36 = .ok (.invokestatic 89, 3) := by decide +kernel
theorem dWo_layAdd_39 : decode prog_11_method_7_code 39 = .ok (.aload_n 0, 1) := by decide +kernel
theorem dWo_layAdd_40 : decode prog_11_method_7_code 40 = .ok (.getfield 27, 3) := by decide +kernel
theorem dWo_layAdd_43 : decode prog_11_method_7_code 43 = .ok (.iload 4, 2) := by decide +kernel
theorem dWo_layAdd_45 : decode prog_11_method_7_code 45 = .ok (.iconst 5, 1) := by decide +kernel
theorem dWo_layAdd_46 : decode prog_11_method_7_code 46 = .ok (.imul, 1) := by decide +kernel
theorem dWo_layAdd_47 : decode prog_11_method_7_code 47 = .ok (.iload_n 3, 1) := by decide +kernel
theorem dWo_layAdd_48 : decode prog_11_method_7_code 48 = .ok (.iadd, 1) := by decide +kernel
theorem dWo_layAdd_49 : decode prog_11_method_7_code 49 = .ok (.iload_n 2, 1) := by decide +kernel
theorem dWo_layAdd_50 : decode prog_11_method_7_code 50 = .ok (.aload_n 1, 1) := by decide +kernel
theorem dWo_layAdd_51 : decode prog_11_method_7_code 51 = .ok (.getfield 44, 3) := by decide +kernel
theorem dWo_layAdd_54 : decode prog_11_method_7_code 54 = .ok (.invokestatic 95, 3) := by decide +kernel
theorem dWo_layAdd_57 : decode prog_11_method_7_code 57 = .ok (.iastore, 1) := by decide +kernel
theorem dWo_layAdd_58 : decode prog_11_method_7_code 58 = .ok (.iconst 1, 1) := by decide +kernel
theorem dWo_layAdd_59 : decode prog_11_method_7_code 59 = .ok (.ireturn, 1) := by decide +kernel
theorem t_Wo_layAdd {d : Nat} {x1 x2 x3 x4 : Int} {σ : SG} {Q : Int → SG → Prop} (h : inI x2 → inI x3 → inI x4 → ((x3 = x4 → Q 0 σ) ∧ (x3 ≠ x4 → Tri d M_Wo_isBaseOf [vA x1, vI x3] σ (fun r2 σ2 => (r2 = 0 → Q 0 σ2) ∧ (r2 ≠ 0 → Tri d M_Wo_isBaseOf [vA x1, vI x4] σ2 (fun r4 σ4 => (r4 ≠ 0 → ((0 : Int) ≤ 110 ∧ (kd 110).1 = 100 ∧ (kd (-2)).1 = 100 ∧ (0 : Int) ≤ 0 ∧ (0 : Int) ≤ 0 ∧ (0 : Int) ≤ 25 ∧ 0 + 25 ≤ ((kd (-2)).2 : Int) ∧ 0 + 25 ≤ ((kd 110).2 : Int)) ∧ (∀ σ6, σ6 = cpy σ4 (-2) 0 110 0 25 → obok 10 x1 ∧ Tri d M_X_mod [vI x2, vI (σ6 x1 1)] σ6 (fun r7 σ7 => (0 ≤ w32 ((w32 (x4 * 5)) + x3) ∧ w32 ((w32 (x4 * 5)) + x3) < 25) ∧ (∀ σ8, σ8 = up σ7 110 (w32 ((w32 (x4 * 5)) + x3)) r7 → Q 1 σ8)))) ∧ (r4 = 0 → Q 0 σ4))))))) : Tri (d + 1) M_Wo_layAdd [vA 104, vA x1, vI x2, vI x3, vI x4] σ Q :=
  Tri_intro rfl (Nat.le_of_ble_eq_true rfl) (ls := [vA 104, vA x1, vI x2, vI x3, vI x4]) rfl (fun hok => L_iload_n dWo_layAdd_0 rfl (L_iload dWo_layAdd_1 rfl (L_icmp_eq dWo_layAdd_3 (by decide) ⟨fun c1 => L_iconst dWo_layAdd_23 in_0 (L_zreturn0 rfl dWo_layAdd_24 ((h (hok _ (List.mem_of_getElem? (i := 2) rfl)) (hok _ (List.mem_of_getElem? (i := 3) rfl)) (hok _ (List.mem_of_getElem? (i := 4) rfl))).1 c1)), fun c1 => L_aload_n dWo_layAdd_6 rfl (L_iload_n dWo_layAdd_7 rfl (L_callSI rfl cs_Wo_isBaseOf (As := [vA x1, vI x3]) rfl (tk6 157 rfl rfl) rfl (Nat.le_of_ble_eq_true rfl) dWo_layAdd_8 (Tri.mono ((h (hok _ (List.mem_of_getElem? (i := 2) rfl)) (hok _ (List.mem_of_getElem? (i := 3) rfl)) (hok _ (List.mem_of_getElem? (i := 4) rfl))).2 c1) (fun r2 σ2 q2 => L_if_eq dWo_layAdd_11 (by decide) ⟨fun c3 => L_iconst dWo_layAdd_23 in_0 (L_zreturn0 rfl dWo_layAdd_24 (q2.1 c3)), fun c3 => L_aload_n dWo_layAdd_14 rfl (L_iload dWo_layAdd_15 rfl (L_callSI rfl cs_Wo_isBaseOf (As := [vA x1, vI x4]) rfl (tk6 157 rfl rfl) rfl (Nat.le_of_ble_eq_true rfl) dWo_layAdd_17 (Tri.mono (q2.2 c3) (fun r4 σ4 q4 => L_if_ne dWo_layAdd_20 (by decide) ⟨fun c5 => L_units (by decide +kernel) dWo_layAdd_25 (L_iconst dWo_layAdd_28 in_0 (L_aload_n dWo_layAdd_29 rfl (L_getF (b := 110) fw_Wo_27 rfl rfl (by decide) dWo_layAdd_30 ⟨ob_104, L_iconst dWo_layAdd_33 in_0 (L_bipush dWo_layAdd_34 bp_25 in_25 (L_copyIN (tk6 160 rfl rfl) (Nat.le_of_ble_eq_true rfl) dWo_layAdd_36 ⟨(q4.1 c5).1, fun σ6 e6 => L_aload_n dWo_layAdd_39 rfl (L_getF (b := 110) fw_Wo_27 rfl rfl (by decide) dWo_layAdd_40 ⟨ob_104, L_iload dWo_layAdd_43 rfl (L_iconst dWo_layAdd_45 in_5 (L_imul dWo_layAdd_46 (L_iload_n dWo_layAdd_47 rfl (L_iadd dWo_layAdd_48 (L_iload_n dWo_layAdd_49 rfl (L_aload_n dWo_layAdd_50 rfl (L_getf fw_Wo_44 rfl dWo_layAdd_51 ⟨((q4.1 c5).2 σ6 e6).1, L_callNI rfl cs_X_mod (As := [vI x2, vI (σ6 x1 1)]) rfl (by decide +kernel) rfl (Nat.le_of_ble_eq_true rfl) dWo_layAdd_54 (Tri.mono (((q4.1 c5).2 σ6 e6).2) (fun r7 σ7 q7 => L_iastoreL (by decide) kd_110 dWo_layAdd_57 ⟨q7.1, fun σ8 e8 => L_iconst dWo_layAdd_58 in_1 (L_zreturn1 rfl dWo_layAdd_59 (q7.2 σ8 e8))⟩))⟩)))))))⟩)⟩))⟩))), fun c5 => L_iconst dWo_layAdd_23 in_0 (L_zreturn0 rfl dWo_layAdd_24 (q4.2 c5))⟩))))⟩))))⟩)))
theorem dWo_isBaseOf_0 : decode prog_11_method_8_code 0 = .ok (.iload_n 1, 1) := by decide +kernel
theorem dWo_isBaseOf_1 : decode prog_11_method_8_code 1 = .ok (.ifCond .lt 15, 3) := by decide +kernel
theorem dWo_isBaseOf_4 : decode prog_11_method_8_code 4 = .ok (.iload_n 1, 1) := by decide +kernel
theorem dWo_isBaseOf_5 : decode prog_11_method_8_code 5 = .ok (.aload_n 0, 1) := by decide +kernel
theorem dWo_isBaseOf_6 : decode prog_11_method_8_code 6 = .ok (.getfield 40, 3) := by decide +kernel
theorem dWo_isBaseOf_9 : decode prog_11_method_8_code 9 = .ok (.if_icmp .ge 7, 3) := by decide +kernel
theorem dWo_isBaseOf_12 : decode prog_11_method_8_code 12 = .ok (.iconst 1, 1) := by decide +kernel
theorem dWo_isBaseOf_13 : decode prog_11_method_8_code 13 = .ok (.goto 4, 3) := by decide +kernel
theorem dWo_isBaseOf_16 : decode prog_11_method_8_code 16 = .ok (.iconst 0, 1) := by decide +kernel
theorem dWo_isBaseOf_17 : decode prog_11_method_8_code 17 = .ok (.ireturn, 1) := by decide +kernel
theorem t_Wo_isBaseOf {d : Nat} {x0 x1 : Int} {σ : SG} {Q : Int → SG → Prop} (h : inI x1 → ((x1 < 0 → Q 0 σ) ∧ (0 ≤ x1 → obok 10 x0 ∧ (σ x0 2 ≤ x1 → Q 0 σ) ∧ (x1 < σ x0 2 → Q 1 σ)))) : Tri (d + 1) M_Wo_isBaseOf [vA x0, vI x1] σ Q :=
  Tri_intro rfl (Nat.le_of_ble_eq_true rfl) (ls := [vA x0, vI x1]) rfl (fun hok => L_iload_n dWo_isBaseOf_0 rfl (L_if_lt dWo_isBaseOf_1 (by decide) ⟨fun c1 => L_iconst dWo_isBaseOf_16 in_0 (L_zreturn0 rfl dWo_isBaseOf_17 ((h (hok _ (List.mem_of_getElem? (i := 1) rfl))).1 c1)), fun c1 => L_iload_n dWo_isBaseOf_4 rfl (L_aload_n dWo_isBaseOf_5 rfl (L_getf fw_Wo_40 rfl dWo_isBaseOf_6 ⟨((h (hok _ (List.mem_of_getElem? (i := 1) rfl))).2 c1).1, L_icmp_ge dWo_isBaseOf_9 (by decide) ⟨fun c2 => L_iconst dWo_isBaseOf_16 in_0 (L_zreturn0 rfl dWo_isBaseOf_17 (((h (hok _ (List.mem_of_getElem? (i := 1) rfl))).2 c1).2.1 c2)), fun c2 => L_iconst dWo_isBaseOf_12 in_1 (L_goto dWo_isBaseOf_13 (by decide) (L_zreturn1 rfl dWo_isBaseOf_17 (((h (hok _ (List.mem_of_getElem? (i := 1) rfl))).2 c1).2.2 c2)))⟩⟩))⟩))
theorem dWo_squeezeBy_0 : decode prog_11_method_9_code 0 = .ok (.aload_n 0, 1) := by decide +kernel
theorem dWo_squeezeBy_1 : decode prog_11_method_9_code 1 = .ok (.getfield 12, 3) := by decide +kernel
theorem dWo_squeezeBy_4 : decode prog_11_method_9_code 4 = .ok (.aload_n 1, 1) := by decide +kernel
theorem dWo_squeezeBy_5 : decode prog_11_method_9_code 5 = .ok (.invokevirtual 68, 3) := by decide +kernel
theorem dWo_squeezeBy_8 : decode prog_11_method_9_code 8 = .ok (.iconst 0, 1) := by decide +kernel
theorem dWo_squeezeBy_9 : decode prog_11_method_9_code 9 = .ok (.istore_n 3, 1) := by decide +kernel
theorem dWo_squeezeBy_10 : decode prog_11_method_9_code 10 = .ok (.iload_n 3, 1) := by decide +kernel
theorem dWo_squeezeBy_11 : decode prog_11_method_9_code 11 = .ok (.aload_n 1, 1) := by decide +kernel
theorem dWo_squeezeBy_12 : decode prog_11_method_9_code 12 = .ok (.getfield 40, 3) := by decide +kernel
theorem dWo_squeezeBy_15 : decode prog_11_method_9_code 15 = .ok (.if_icmp .ge 99, 3) := by decide +kernel
theorem dWo_squeezeBy_18 : decode prog_11_method_9_code 18 = .ok (.iload_n 3, 1) := by decide +kernel
theorem dWo_squeezeBy_19 : decode prog_11_method_9_code 19 = .ok (.iconst 1, 1) := by decide +kernel
theorem dWo_squeezeBy_20 : decode prog_11_method_9_code 20 = .ok (.iadd, 1) := by decide +kernel
theorem dWo_squeezeBy_21 : decode prog_11_method_9_code 21 = .ok (.istore 4, 2) := by decide +kernel
theorem dWo_squeezeBy_23 : decode prog_11_method_9_code 23 = .ok (.iload 4, 2) := by decide +kernel
theorem dWo_squeezeBy_25 : decode prog_11_method_9_code 25 = .ok (.aload_n 1, 1) := by decide +kernel
theorem dWo_squeezeBy_26 : decode prog_11_method_9_code 26 = .ok (.getfield 40, 3) := by decide +kernel
theorem dWo_squeezeBy_29 : decode prog_11_method_9_code 29 = .ok (.if_icmp .ge 79, 3) := by decide +kernel
theorem dWo_squeezeBy_32 : decode prog_11_method_9_code 32 = .ok (.iconst 0, 1) := by decide +kernel
theorem dWo_squeezeBy_33 : decode prog_11_method_9_code 33 = .ok (.istore 5, 2) := by decide +kernel
theorem dWo_squeezeBy_35 : decode prog_11_method_9_code 35 = .ok (.iload 5, 2) := by decide +kernel
theorem dWo_squeezeBy_37 : decode prog_11_method_9_code 37 = .ok (.aload_n 1, 1) := by decide +kernel
theorem dWo_squeezeBy_38 : decode prog_11_method_9_code 38 = .ok (.getfield 40, 3) := by decide +kernel
theorem dWo_squeezeBy_41 : decode prog_11_method_9_code 41 = .ok (.if_icmp .ge 61, 3) := by decide +kernel
theorem dWo_squeezeBy_44 : decode prog_11_method_9_code 44 = .ok (.aload_n 2, 1) := by decide +kernel
theorem dWo_squeezeBy_45 : decode prog_11_method_9_code 45 = .ok (.iload_n 3, 1) := by decide +kernel
theorem dWo_squeezeBy_46 : decode prog_11_method_9_code 46 = .ok (.iaload, 1) := by decide +kernel
theorem dWo_squeezeBy_47 : decode prog_11_method_9_code 47 = .ok (.aload_n 2, 1) := by decide +kernel
theorem dWo_squeezeBy_48 : decode prog_11_method_9_code 48 = .ok (.iload 4, 2) := by decide +kernel
theorem dWo_squeezeBy_50 : decode prog_11_method_9_code 50 = .ok (.iaload, 1) := by decide +kernel
theorem dWo_squeezeBy_51 : decode prog_11_method_9_code 51 = .ok (.iadd, 1) := by decide +kernel
theorem dWo_squeezeBy_52 : decode prog_11_method_9_code 52 = .ok (.aload_n 2, 1) := by decide +kernel
theorem dWo_squeezeBy_53 : decode prog_11_method_9_code 53 = .ok (.iload 5, 2) := by decide +kernel
theorem dWo_squeezeBy_55 : decode prog_11_method_9_code 55 = .ok (.iaload, 1) := by decide +kernel
theorem dWo_squeezeBy_56 : decode prog_11_method_9_code 56 = .ok (.isub, 1) := by decide +kernel
theorem dWo_squeezeBy_57 : decode prog_11_method_9_code 57 = .ok (.istore 6, 2) := by decide +kernel
theorem dWo_squeezeBy_59 : decode prog_11_method_9_code 59 = .ok (.iload 6, 2) := by decide +kernel
theorem dWo_squeezeBy_61 : decode prog_11_method_9_code 61 = .ok (.ifCond .ge 17, 3) := by decide +kernel
theorem dWo_squeezeBy_64 : decode prog_11_method_9_code 64 = .ok (.aload_n 1, 1) := by decide +kernel
theorem dWo_squeezeBy_65 : decode prog_11_method_9_code 65 = .ok (.iload_n 3, 1) := by decide +kernel
theorem dWo_squeezeBy_66 : decode prog_11_method_9_code 66 = .ok (.iload 4, 2) := by decide +kernel
theorem dWo_squeezeBy_68 : decode prog_11_method_9_code 68 = .ok (.iload 5, 2) := by decide +kernel
theorem dWo_squeezeBy_70 : decode prog_11_method_9_code 70 = .ok (.invokevirtual 99, 3) := by decide +kernel
theorem dWo_squeezeBy_73 : decode prog_11_method_9_code 73 = .ok (.ifCond .eq 5, 3) := by decide +kernel
theorem dWo_squeezeBy_76 : decode prog_11_method_9_code 76 = .ok (.iconst 0, 1) := by decide +kernel
theorem dWo_squeezeBy_77 : decode prog_11_method_9_code 77 = .ok (.ireturn, 1) := by decide +kernel
theorem dWo_squeezeBy_78 : decode prog_11_method_9_code 78 = .ok (.iload 6, 2) := by decide +kernel
theorem dWo_squeezeBy_80 : decode prog_11_method_9_code 80 = .ok (.ifCond .le 16, 3) := by decide +kernel
theorem dWo_squeezeBy_83 : decode prog_11_method_9_code 83 = .ok (.aload_n 0, 1) := by decide +kernel
theorem dWo_squeezeBy_84 : decode prog_11_method_9_code 84 = .ok (.getfield 12, 3) := by decide +kernel
theorem dWo_squeezeBy_87 : decode prog_11_method_9_code 87 = .ok (.iload_n 3, 1) := by decide +kernel
theorem dWo_squeezeBy_88 : decode prog_11_method_9_code 88 = .ok (.iload 4, 2) := by decide +kernel
theorem dWo_squeezeBy_90 : decode prog_11_method_9_code 90 = .ok (.iload 5, 2) := by decide +kernel
theorem dWo_squeezeBy_92 : decode prog_11_method_9_code 92 = .ok (.iconst 0, 1) := by decide +kernel
theorem dWo_squeezeBy_93 : decode prog_11_method_9_code 93 = .ok (.invokevirtual 78, 3) := by decide +kernel
theorem dWo_squeezeBy_96 : decode prog_11_method_9_code 96 = .ok (.iinc 5 1, 3) := by decide +kernel
theorem dWo_squeezeBy_99 : decode prog_11_method_9_code 99 = .ok (.goto (-64), 3) := by decide +kernel
theorem dWo_squeezeBy_102 : decode prog_11_method_9_code 102 = .ok (.iinc 4 1, 3) := by decide +kernel
theorem dWo_squeezeBy_105 : decode prog_11_method_9_code 105 = .ok (.goto (-82), 3) := by decide +kernel
theorem dWo_squeezeBy_108 : decode prog_11_method_9_code 108 = .ok (.iinc 3 1, 3) := by decide +kernel
theorem dWo_squeezeBy_111 : decode prog_11_method_9_code 111 = .ok (.goto (-101), 3) := by decide +kernel
theorem dWo_squeezeBy_114 : decode prog_11_method_9_code 114 = .ok (.aload_n 1, 1) := by decide +kernel
theorem dWo_squeezeBy_115 : decode prog_11_method_9_code 115 = .ok (.aload_n 0, 1) := by decide +kernel
theorem dWo_squeezeBy_116 : decode prog_11_method_9_code 116 = .ok (.getfield 12, 3) := by decide +kernel
theorem dWo_squeezeBy_119 : decode prog_11_method_9_code 119 = .ok (.invokevirtual 68, 3) := by decide +kernel
theorem dWo_squeezeBy_122 : decode prog_11_method_9_code 122 = .ok (.iconst 1, 1) := by decide +kernel
theorem dWo_squeezeBy_123 : decode prog_11_method_9_code 123 = .ok (.ireturn, 1) := by decide +kernel
theorem t_Wo_squeezeBy {d : Nat} {x1 x2 : Int} {σ : SG} {Q : Int → SG → Prop} (h : Tri d M_Wd_copyFrom [vA 105, vA x1] σ (fun r1 σ1 => L (d + 1) M_Wo_squeezeBy 10 [vA 104, vA x1, vA x2, vI 0, vU, vU, vU] [] σ1 Q)) : Tri (d + 1) M_Wo_squeezeBy [vA 104, vA x1, vA x2] σ Q :=
  Tri_intro rfl (Nat.le_of_ble_eq_true rfl) (ls := [vA 104, vA x1, vA x2, vU, vU, vU, vU]) rfl (fun hok => L_aload_n dWo_squeezeBy_0 rfl (L_getF (b := 105) fw_Wo_12 rfl rfl (by decide) dWo_squeezeBy_1 ⟨ob_104, L_aload_n dWo_squeezeBy_4 rfl (L_callVV rfl cv_Wd_copyFrom (As := [vA x1]) rfl (tk6 18 rfl rfl) rfl (Nat.le_of_ble_eq_true rfl) dWo_squeezeBy_5 ⟨ob_105, Tri.mono (h) (fun r1 σ1 q1 => L_iconst dWo_squeezeBy_8 in_0 (L_istore_n dWo_squeezeBy_9 (by decide) q1))⟩)⟩))
theorem s_Wo_squeezeBy_10 {d : Nat} {x1 x2 x3 : Int} {σ : SG} {Q : Int → SG → Prop} (h : obok 10 x1 ∧ (σ x1 2 ≤ x3 → obok 10 x1 ∧ Tri d M_Wd_copyFrom [vA x1, vA 105] σ (fun r2 σ2 => Q 1 σ2)) ∧ (x3 < σ x1 2 → L (d + 1) M_Wo_squeezeBy 23 [vA 104, vA x1, vA x2, vI x3, vI (w32 (x3 + 1)), vU, vU] [] σ Q)) : L (d + 1) M_Wo_squeezeBy 10 [vA 104, vA x1, vA x2, vI x3, vU, vU, vU] [] σ Q :=
  L_iload_n dWo_squeezeBy_10 rfl (L_aload_n dWo_squeezeBy_11 rfl (L_getf fw_Wo_40 rfl dWo_squeezeBy_12 ⟨h.1, L_icmp_ge dWo_squeezeBy_15 (by decide) ⟨fun c1 => L_aload_n dWo_squeezeBy_114 rfl (L_aload_n dWo_squeezeBy_115 rfl (L_getF (b := 105) fw_Wo_12 rfl rfl (by decide) dWo_squeezeBy_116 ⟨ob_104, L_callVV rfl cv_Wd_copyFrom (As := [vA 105]) rfl (tk6 18 rfl rfl) rfl (Nat.le_of_ble_eq_true rfl) dWo_squeezeBy_119 ⟨(h.2.1 c1).1, Tri.mono ((h.2.1 c1).2) (fun r2 σ2 q2 => L_iconst dWo_squeezeBy_122 in_1 (L_zreturn1 rfl dWo_squeezeBy_123 q2))⟩⟩)), fun c1 => L_iload_n dWo_squeezeBy_18 rfl (L_iconst dWo_squeezeBy_19 in_1 (L_iadd dWo_squeezeBy_20 (L_istore dWo_squeezeBy_21 (by decide) (h.2.2 c1))))⟩⟩))
theorem s_Wo_squeezeBy_23 {d : Nat} {x1 x2 x3 x4 : Int} {σ : SG} {Q : Int → SG → Prop} (h : obok 10 x1 ∧ (σ x1 2 ≤ x4 → L (d + 1) M_Wo_squeezeBy 10 [vA 104, vA x1, vA x2, vI (w32 (x3 + 1)), vU, vU, vU] [] σ Q) ∧ (x4 < σ x1 2 → L (d + 1) M_Wo_squeezeBy 35 [vA 104, vA x1, vA x2, vI x3, vI x4, vI 0, vU] [] σ Q)) : L (d + 1) M_Wo_squeezeBy 23 [vA 104, vA x1, vA x2, vI x3, vI x4, vU, vU] [] σ Q :=
  L_iload dWo_squeezeBy_23 rfl (L_aload_n dWo_squeezeBy_25 rfl (L_getf fw_Wo_40 rfl dWo_squeezeBy_26 ⟨h.1, L_icmp_ge dWo_squeezeBy_29 (by decide) ⟨fun c1 => L_iinc dWo_squeezeBy_108 rfl (by decide) (L_goto dWo_squeezeBy_111 (by decide) (L_weak [true, true, true, true, false, true, true] (h.2.1 c1))), fun c1 => L_iconst dWo_squeezeBy_32 in_0 (L_istore dWo_squeezeBy_33 (by decide) (h.2.2 c1))⟩⟩))
theorem s_Wo_squeezeBy_35 {d : Nat} {x1 x2 x3 x4 x5 : Int} {σ : SG} {Q : Int → SG → Prop} (h : obok 10 x1 ∧ (σ x1 2 ≤ x5 → L (d + 1) M_Wo_squeezeBy 23 [vA 104, vA x1, vA x2, vI x3, vI (w32 (x4 + 1)), vU, vU] [] σ Q) ∧ (x5 < σ x1 2 → rdok 100 x2 x3 ∧ rdok 100 x2 x4 ∧ rdok 100 x2 x5 ∧ (0 ≤ w32 ((w32 ((σ x2 x3) + (σ x2 x4))) - (σ x2 x5)) → L (d + 1) M_Wo_squeezeBy 78 [vA 104, vA x1, vA x2, vI x3, vI x4, vI x5, vI (w32 ((w32 ((σ x2 x3) + (σ x2 x4))) - (σ x2 x5)))] [] σ Q) ∧ (w32 ((w32 ((σ x2 x3) + (σ x2 x4))) - (σ x2 x5)) < 0 → obok 10 x1 ∧ Tri d M_Wd_cell [vA x1, vI x3, vI x4, vI x5] σ (fun r3 σ3 => (r3 = 0 → L (d + 1) M_Wo_squeezeBy 78 [vA 104, vA x1, vA x2, vI x3, vI x4, vI x5, vI (w32 ((w32 ((σ x2 x3) + (σ x2 x4))) - (σ x2 x5)))] [] σ3 Q) ∧ (r3 ≠ 0 → Q 0 σ3))))) : L (d + 1) M_Wo_squeezeBy 35 [vA 104, vA x1, vA x2, vI x3, vI x4, vI x5, vU] [] σ Q :=
  L_iload dWo_squeezeBy_35 rfl (L_aload_n dWo_squeezeBy_37 rfl (L_getf fw_Wo_40 rfl dWo_squeezeBy_38 ⟨h.1, L_icmp_ge dWo_squeezeBy_41 (by decide) ⟨fun c1 => L_iinc dWo_squeezeBy_102 rfl (by decide) (L_goto dWo_squeezeBy_105 (by decide) (L_weak [true, true, true, true, true, false, true] (h.2.1 c1))), fun c1 => L_aload_n dWo_squeezeBy_44 rfl (L_iload_n dWo_squeezeBy_45 rfl (L_iaload dWo_squeezeBy_46 ⟨(h.2.2 c1).1, L_aload_n dWo_squeezeBy_47 rfl (L_iload dWo_squeezeBy_48 rfl (L_iaload dWo_squeezeBy_50 ⟨(h.2.2 c1).2.1, L_iadd dWo_squeezeBy_51 (L_aload_n dWo_squeezeBy_52 rfl (L_iload dWo_squeezeBy_53 rfl (L_iaload dWo_squeezeBy_55 ⟨(h.2.2 c1).2.2.1, L_isub dWo_squeezeBy_56 (L_istore dWo_squeezeBy_57 (by decide) (L_iload dWo_squeezeBy_59 rfl (L_if_ge dWo_squeezeBy_61 (by decide) ⟨fun c2 => ((h.2.2 c1).2.2.2.1 c2), fun c2 => L_aload_n dWo_squeezeBy_64 rfl (L_iload_n dWo_squeezeBy_65 rfl (L_iload dWo_squeezeBy_66 rfl (L_iload dWo_squeezeBy_68 rfl (L_callVI rfl cv_Wd_cell (As := [vI x3, vI x4, vI x5]) rfl (tk6 27 rfl rfl) rfl (Nat.le_of_ble_eq_true rfl) dWo_squeezeBy_70 ⟨((h.2.2 c1).2.2.2.2 c2).1, Tri.mono (((h.2.2 c1).2.2.2.2 c2).2) (fun r3 σ3 q3 => L_if_eq dWo_squeezeBy_73 (by decide) ⟨fun c4 => (q3.1 c4), fun c4 => L_iconst dWo_squeezeBy_76 in_0 (L_zreturn0 rfl dWo_squeezeBy_77 (q3.2 c4))⟩)⟩))))⟩)))⟩)))⟩))⟩))⟩⟩))
theorem s_Wo_squeezeBy_78 {d : Nat} {x1 x2 x3 x4 x5 x6 : Int} {σ : SG} {Q : Int → SG → Prop} (h : (x6 ≤ 0 → L (d + 1) M_Wo_squeezeBy 35 [vA 104, vA x1, vA x2, vI x3, vI x4, vI (w32 (x5 + 1)), vU] [] σ Q) ∧ (0 < x6 → Tri d M_Wd_setCell [vA 105, vI x3, vI x4, vI x5, vI 0] σ (fun r2 σ2 => L (d + 1) M_Wo_squeezeBy 35 [vA 104, vA x1, vA x2, vI x3, vI x4, vI (w32 (x5 + 1)), vU] [] σ2 Q))) : L (d + 1) M_Wo_squeezeBy 78 [vA 104, vA x1, vA x2, vI x3, vI x4, vI x5, vI x6] [] σ Q :=
  L_iload dWo_squeezeBy_78 rfl (L_if_le dWo_squeezeBy_80 (by decide) ⟨fun c1 => L_iinc dWo_squeezeBy_96 rfl (by decide) (L_goto dWo_squeezeBy_99 (by decide) (L_weak [true, true, true, true, true, true, false] (h.1 c1))), fun c1 => L_aload_n dWo_squeezeBy_83 rfl (L_getF (b := 105) fw_Wo_12 rfl rfl (by decide) dWo_squeezeBy_84 ⟨ob_104, L_iload_n dWo_squeezeBy_87 rfl (L_iload dWo_squeezeBy_88 rfl (L_iload dWo_squeezeBy_90 rfl (L_iconst dWo_squeezeBy_92 in_0 (L_callVV rfl cv_Wd_setCell (As := [vI x3, vI x4, vI x5, vI 0]) rfl (tk6 17 rfl rfl) rfl (Nat.le_of_ble_eq_true rfl) dWo_squeezeBy_93 ⟨ob_105, Tri.mono (h.2 c1) (fun r2 σ2 q2 => L_iinc dWo_squeezeBy_96 rfl (by decide) (L_goto dWo_squeezeBy_99 (by decide) (L_weak [true, true, true, true, true, true, false] q2)))⟩))))⟩)⟩)
theorem dWo_growBy_0 : decode prog_11_method_10_code 0 = .ok (.aload_n 1, 1) := by decide +kernel
theorem dWo_growBy_1 : decode prog_11_method_10_code 1 = .ok (.getfield 40, 3) := by decide +kernel
theorem dWo_growBy_4 : decode prog_11_method_10_code 4 = .ok (.istore_n 3, 1) := by decide +kernel
theorem dWo_growBy_5 : decode prog_11_method_10_code 5 = .ok (.aload_n 0, 1) := by decide +kernel
theorem dWo_growBy_6 : decode prog_11_method_10_code 6 = .ok (.getfield 12, 3) := by decide +kernel
theorem dWo_growBy_9 : decode prog_11_method_10_code 9 = .ok (.aload_n 1, 1) := by decide +kernel
theorem dWo_growBy_10 : decode prog_11_method_10_code 10 = .ok (.getfield 44, 3) := by decide +kernel
theorem dWo_growBy_13 : decode prog_11_method_10_code 13 = .ok (.iload_n 3, 1) := by decide +kernel
theorem dWo_growBy_14 : decode prog_11_method_10_code 14 = .ok (.iconst 1, 1) := by decide +kernel
theorem dWo_growBy_15 : decode prog_11_method_10_code 15 = .ok (.iadd, 1) := by decide +kernel
theorem dWo_growBy_16 : decode prog_11_method_10_code 16 = .ok (.invokevirtual 58, 3) := by decide +kernel
theorem dWo_growBy_19 : decode prog_11_method_10_code 19 = .ok (.aload_n 0, 1) := by decide +kernel
theorem dWo_growBy_20 : decode prog_11_method_10_code 20 = .ok (.aload_n 1, 1) := by decide +kernel
theorem dWo_growBy_21 : decode prog_11_method_10_code 21 = .ok (.iconst 0, 1) := by decide +kernel
theorem dWo_growBy_22 : decode prog_11_method_10_code 22 = .ok (.invokevirtual 103, 3) := by decide +kernel
theorem dWo_growBy_25 : decode prog_11_method_10_code 25 = .ok (.iconst 0, 1) := by decide +kernel
theorem dWo_growBy_26 : decode prog_11_method_10_code 26 = .ok (.istore 4, 2) := by decide +kernel
theorem dWo_growBy_28 : decode prog_11_method_10_code 28 = .ok (.iconst 0, 1) := by decide +kernel
theorem dWo_growBy_29 : decode prog_11_method_10_code 29 = .ok (.istore 5, 2) := by decide +kernel
theorem dWo_growBy_31 : decode prog_11_method_10_code 31 = .ok (.iload 5, 2) := by decide +kernel
theorem dWo_growBy_33 : decode prog_11_method_10_code 33 = .ok (.iload_n 3, 1) := by decide +kernel
theorem dWo_growBy_34 : decode prog_11_method_10_code 34 = .ok (.if_icmp .ge 53, 3) := by decide +kernel
theorem dWo_growBy_37 : decode prog_11_method_10_code 37 = .ok (.iload 5, 2) := by decide +kernel
theorem dWo_growBy_39 : decode prog_11_method_10_code 39 = .ok (.iconst 1, 1) := by decide +kernel
theorem dWo_growBy_40 : decode prog_11_method_10_code 40 = .ok (.iadd, 1) := by decide +kernel
theorem dWo_growBy_41 : decode prog_11_method_10_code 41 = .ok (.istore 6, 2) := by decide +kernel
theorem dWo_growBy_43 : decode prog_11_method_10_code 43 = .ok (.iload 6, 2) := by decide +kernel
theorem dWo_growBy_45 : decode prog_11_method_10_code 45 = .ok (.iload_n 3, 1) := by decide +kernel
theorem dWo_growBy_46 : decode prog_11_method_10_code 46 = .ok (.if_icmp .ge 35, 3) := by decide +kernel
theorem dWo_growBy_49 : decode prog_11_method_10_code 49 = .ok (.iload 4, 2) := by decide +kernel
theorem dWo_growBy_51 : decode prog_11_method_10_code 51 = .ok (.aload_n 2, 1) := by decide +kernel
theorem dWo_growBy_52 : decode prog_11_method_10_code 52 = .ok (.arraylength, 1) := by decide +kernel
theorem dWo_growBy_53 : decode prog_11_method_10_code 53 = .ok (.if_icmp .ge 28, 3) := by decide +kernel
theorem dWo_growBy_56 : decode prog_11_method_10_code 56 = .ok (.aload_n 0, 1) := by decide +kernel
theorem dWo_growBy_57 : decode prog_11_method_10_code 57 = .ok (.getfield 12, 3) := by decide +kernel
theorem dWo_growBy_60 : decode prog_11_method_10_code 60 = .ok (.iload 5, 2) := by decide +kernel
theorem dWo_growBy_62 : decode prog_11_method_10_code 62 = .ok (.iload 6, 2) := by decide +kernel
theorem dWo_growBy_64 : decode prog_11_method_10_code 64 = .ok (.iload_n 3, 1) := by decide +kernel
theorem dWo_growBy_65 : decode prog_11_method_10_code 65 = .ok (.aload_n 2, 1) := by decide +kernel
theorem dWo_growBy_66 : decode prog_11_method_10_code 66 = .ok (.iload 4, 2) := by decide +kernel
theorem dWo_growBy_68 : decode prog_11_method_10_code 68 = .ok (.iaload, 1) := by decide +kernel
theorem dWo_growBy_69 : decode prog_11_method_10_code 69 = .ok (.invokevirtual 78, 3) := by decide +kernel
theorem dWo_growBy_72 : decode prog_11_method_10_code 72 = .ok (.iinc 4 1, 3) := by decide +kernel
theorem dWo_growBy_75 : decode prog_11_method_10_code 75 = .ok (.iinc 6 1, 3) := by decide +kernel
theorem dWo_growBy_78 : decode prog_11_method_10_code 78 = .ok (.goto (-35), 3) := by decide +kernel
theorem dWo_growBy_81 : decode prog_11_method_10_code 81 = .ok (.iinc 5 1, 3) := by decide +kernel
theorem dWo_growBy_84 : decode prog_11_method_10_code 84 = .ok (.goto (-53), 3) := by decide +kernel
theorem dWo_growBy_87 : decode prog_11_method_10_code 87 = .ok (.aload_n 1, 1) := by decide +kernel
theorem dWo_growBy_88 : decode prog_11_method_10_code 88 = .ok (.aload_n 0, 1) := by decide +kernel
theorem dWo_growBy_89 : decode prog_11_method_10_code 89 = .ok (.getfield 12, 3) := by decide +kernel
theorem dWo_growBy_92 : decode prog_11_method_10_code 92 = .ok (.invokevirtual 68, 3) := by decide +kernel
theorem dWo_growBy_95 : decode prog_11_method_10_code 95 = .ok (.return_, 1) := by decide +kernel
theorem t_Wo_growBy {d : Nat} {x1 x2 : Int} {σ : SG} {Q : Int → SG → Prop} (h : obok 10 x1 ∧ obok 10 x1 ∧ Tri d M_Wd_makeEmpty [vA 105, vI (σ x1 1), vI (w32 ((σ x1 2) + 1))] σ (fun r1 σ1 => Tri d M_Wo_layInto [vA 104, vA x1, vI 0] σ1 (fun r2 σ2 => L (d + 1) M_Wo_growBy 31 [vA 104, vA x1, vA x2, vI (σ x1 2), vI 0, vI 0, vU] [] σ2 Q))) : Tri (d + 1) M_Wo_growBy [vA 104, vA x1, vA x2] σ Q :=
  Tri_intro rfl (Nat.le_of_ble_eq_true rfl) (ls := [vA 104, vA x1, vA x2, vU, vU, vU, vU]) rfl (fun hok => L_aload_n dWo_growBy_0 rfl (L_getf fw_Wo_40 rfl dWo_growBy_1 ⟨h.1, L_istore_n dWo_growBy_4 (by decide) (L_aload_n dWo_growBy_5 rfl (L_getF (b := 105) fw_Wo_12 rfl rfl (by decide) dWo_growBy_6 ⟨ob_104, L_aload_n dWo_growBy_9 rfl (L_getf fw_Wo_44 rfl dWo_growBy_10 ⟨h.2.1, L_iload_n dWo_growBy_13 rfl (L_iconst dWo_growBy_14 in_1 (L_iadd dWo_growBy_15 (L_callVV rfl cv_Wd_makeEmpty (As := [vI (σ x1 1), vI (w32 ((σ x1 2) + 1))]) rfl (tk6 11 rfl rfl) rfl (Nat.le_of_ble_eq_true rfl) dWo_growBy_16 ⟨ob_105, Tri.mono (h.2.2) (fun r1 σ1 q1 => L_aload_n dWo_growBy_19 rfl (L_aload_n dWo_growBy_20 rfl (L_iconst dWo_growBy_21 in_0 (L_callVV rfl cv_Wo_layInto (As := [vA x1, vI 0]) rfl (tk6 57 rfl rfl) rfl (Nat.le_of_ble_eq_true rfl) dWo_growBy_22 ⟨ob_104, Tri.mono q1 (fun r2 σ2 q2 => L_iconst dWo_growBy_25 in_0 (L_istore dWo_growBy_26 (by decide) (L_iconst dWo_growBy_28 in_0 (L_istore dWo_growBy_29 (by decide) q2))))⟩))))⟩)))⟩)⟩))⟩))
theorem s_Wo_growBy_31 {d : Nat} {x1 x2 x3 x4 x5 : Int} {σ : SG} {Q : Int → SG → Prop} (h : (x3 ≤ x5 → obok 10 x1 ∧ Tri d M_Wd_copyFrom [vA x1, vA 105] σ (fun r2 σ2 => Q 0 σ2)) ∧ (x5 < x3 → L (d + 1) M_Wo_growBy 43 [vA 104, vA x1, vA x2, vI x3, vI x4, vI x5, vI (w32 (x5 + 1))] [] σ Q)) : L (d + 1) M_Wo_growBy 31 [vA 104, vA x1, vA x2, vI x3, vI x4, vI x5, vU] [] σ Q :=
  L_iload dWo_growBy_31 rfl (L_iload_n dWo_growBy_33 rfl (L_icmp_ge dWo_growBy_34 (by decide) ⟨fun c1 => L_aload_n dWo_growBy_87 rfl (L_aload_n dWo_growBy_88 rfl (L_getF (b := 105) fw_Wo_12 rfl rfl (by decide) dWo_growBy_89 ⟨ob_104, L_callVV rfl cv_Wd_copyFrom (As := [vA 105]) rfl (tk6 18 rfl rfl) rfl (Nat.le_of_ble_eq_true rfl) dWo_growBy_92 ⟨(h.1 c1).1, Tri.mono ((h.1 c1).2) (fun r2 σ2 q2 => L_return rfl dWo_growBy_95 q2)⟩⟩)), fun c1 => L_iload dWo_growBy_37 rfl (L_iconst dWo_growBy_39 in_1 (L_iadd dWo_growBy_40 (L_istore dWo_growBy_41 (by decide) (h.2 c1))))⟩))
theorem s_Wo_growBy_43 {d : Nat} {x1 x2 x3 x4 x5 x6 : Int} {σ : SG} {Q : Int → SG → Prop} (h : (x3 ≤ x6 → L (d + 1) M_Wo_growBy 31 [vA 104, vA x1, vA x2, vI x3, vI x4, vI (w32 (x5 + 1)), vU] [] σ Q) ∧ (x6 < x3 → (kd x2).1 = 100 ∧ (((kd x2).2 : Int) ≤ x4 → L (d + 1) M_Wo_growBy 31 [vA 104, vA x1, vA x2, vI x3, vI x4, vI (w32 (x5 + 1)), vU] [] σ Q) ∧ (x4 < ((kd x2).2 : Int) → rdok 100 x2 x4 ∧ Tri d M_Wd_setCell [vA 105, vI x5, vI x6, vI x3, vI (σ x2 x4)] σ (fun r3 σ3 => L (d + 1) M_Wo_growBy 43 [vA 104, vA x1, vA x2, vI x3, vI (w32 (x4 + 1)), vI x5, vI (w32 (x6 + 1))] [] σ3 Q)))) : L (d + 1) M_Wo_growBy 43 [vA 104, vA x1, vA x2, vI x3, vI x4, vI x5, vI x6] [] σ Q :=
  L_iload dWo_growBy_43 rfl (L_iload_n dWo_growBy_45 rfl (L_icmp_ge dWo_growBy_46 (by decide) ⟨fun c1 => L_iinc dWo_growBy_81 rfl (by decide) (L_goto dWo_growBy_84 (by decide) (L_weak [true, true, true, true, true, true, false] (h.1 c1))), fun c1 => L_iload dWo_growBy_49 rfl (L_aload_n dWo_growBy_51 rfl (L_alenU dWo_growBy_52 ⟨(h.2 c1).1, L_icmp_ge dWo_growBy_53 (by decide) ⟨fun c2 => L_iinc dWo_growBy_81 rfl (by decide) (L_goto dWo_growBy_84 (by decide) (L_weak [true, true, true, true, true, true, false] ((h.2 c1).2.1 c2))), fun c2 => L_aload_n dWo_growBy_56 rfl (L_getF (b := 105) fw_Wo_12 rfl rfl (by decide) dWo_growBy_57 ⟨ob_104, L_iload dWo_growBy_60 rfl (L_iload dWo_growBy_62 rfl (L_iload_n dWo_growBy_64 rfl (L_aload_n dWo_growBy_65 rfl (L_iload dWo_growBy_66 rfl (L_iaload dWo_growBy_68 ⟨((h.2 c1).2.2 c2).1, L_callVV rfl cv_Wd_setCell (As := [vI x5, vI x6, vI x3, vI (σ x2 x4)]) rfl (tk6 17 rfl rfl) rfl (Nat.le_of_ble_eq_true rfl) dWo_growBy_69 ⟨ob_105, Tri.mono (((h.2 c1).2.2 c2).2) (fun r3 σ3 q3 => L_iinc dWo_growBy_72 rfl (by decide) (L_iinc dWo_growBy_75 rfl (by decide) (L_goto dWo_growBy_78 (by decide) q3)))⟩⟩)))))⟩)⟩⟩))⟩))
theorem dWo_join_0 : decode prog_11_method_11_code 0 = .ok (.aload_n 1, 1) := by decide +kernel
theorem dWo_join_1 : decode prog_11_method_11_code 1 = .ok (.getfield 44, 3) := by decide +kernel
theorem dWo_join_4 : decode prog_11_method_11_code 4 = .ok (.aload_n 2, 1) := by decide +kernel
theorem dWo_join_5 : decode prog_11_method_11_code 5 = .ok (.getfield 44, 3) := by decide +kernel
theorem dWo_join_8 : decode prog_11_method_11_code 8 = .ok (.if_icmp .eq 5, 3) := by decide +kernel
theorem dWo_join_11 : decode prog_11_method_11_code 11 = .ok (.iconst 5, 1) := by decide +kernel
theorem dWo_join_12 : decode prog_11_method_11_code 12 = .ok (.ireturn, 1) := by decide +kernel
theorem dWo_join_13 : decode prog_11_method_11_code 13 = .ok (.aload_n 1, 1) := by decide +kernel
theorem dWo_join_14 : decode prog_11_method_11_code 14 = .ok (.getfield 40, 3) := by decide +kernel
theorem dWo_join_17 : decode prog_11_method_11_code 17 = .ok (.aload_n 2, 1) := by decide +kernel
theorem dWo_join_18 : decode prog_11_method_11_code 18 = .ok (.getfield 40, 3) := by decide +kernel
theorem dWo_join_21 : decode prog_11_method_11_code 21 = .ok (.iadd, 1) := by decide +kernel
theorem dWo_join_22 : decode prog_11_method_11_code 22 = .ok (.aload_n 1, 1) := by decide +kernel
theorem dWo_join_23 : decode prog_11_method_11_code 23 = .ok (.getfield 44, 3) := by decide +kernel
theorem dWo_join_26 : decode prog_11_method_11_code 26 = .ok (.invokestatic 107, 3) := by decide +kernel
theorem dWo_join_29 : decode prog_11_method_11_code 29 = .ok (.if_icmp .le 6, 3) := by decide +kernel
theorem dWo_join_32 : decode prog_11_method_11_code 32 = .ok (.bipush 7, 2) := by decide +kernel
theorem dWo_join_34 : decode prog_11_method_11_code 34 = .ok (.ireturn, 1) := by decide +kernel
theorem dWo_join_35 : decode prog_11_method_11_code 35 = .ok (.aload_n 0, 1) := by decide +kernel
theorem dWo_join_36 : decode prog_11_method_11_code 36 = .ok (.getfield 12, 3) := by decide +kernel
theorem dWo_join_39 : decode prog_11_method_11_code 39 = .ok (.aload_n 1, 1) := by decide +kernel
theorem dWo_join_40 : decode prog_11_method_11_code 40 = .ok (.getfield 44, 3) := by decide +kernel
theorem dWo_join_43 : decode prog_11_method_11_code 43 = .ok (.aload_n 1, 1) := by decide +kernel
theorem dWo_join_44 : decode prog_11_method_11_code 44 = .ok (.getfield 40, 3) := by decide +kernel
theorem dWo_join_47 : decode prog_11_method_11_code 47 = .ok (.aload_n 2, 1) := by decide +kernel
theorem dWo_join_48 : decode prog_11_method_11_code 48 = .ok (.getfield 40, 3) := by decide +kernel
theorem dWo_join_51 : decode prog_11_method_11_code 51 = .ok (.iadd, 1) := by decide +kernel
theorem dWo_join_52 : decode prog_11_method_11_code 52 = .ok (.invokevirtual 58, 3) := by decide +kernel
theorem dWo_join_55 : decode prog_11_method_11_code 55 = .ok (.aload_n 0, 1) := by decide +kernel
theorem dWo_join_56 : decode prog_11_method_11_code 56 = .ok (.aload_n 1, 1) := by decide +kernel
theorem dWo_join_57 : decode prog_11_method_11_code 57 = .ok (.iconst 0, 1) := by decide +kernel
theorem dWo_join_58 : decode prog_11_method_11_code 58 = .ok (.invokevirtual 103, 3) := by decide +kernel
theorem dWo_join_61 : decode prog_11_method_11_code 61 = .ok (.aload_n 0, 1) := by decide +kernel
theorem dWo_join_62 : decode prog_11_method_11_code 62 = .ok (.aload_n 2, 1) := by decide +kernel
theorem dWo_join_63 : decode prog_11_method_11_code 63 = .ok (.aload_n 1, 1) := by decide +kernel
theorem dWo_join_64 : decode prog_11_method_11_code 64 = .ok (.getfield 40, 3) := by decide +kernel
theorem dWo_join_67 : decode prog_11_method_11_code 67 = .ok (.invokevirtual 103, 3) := by decide +kernel
theorem dWo_join_70 : decode prog_11_method_11_code 70 = .ok (.aload_n 1, 1) := by decide +kernel
theorem dWo_join_71 : decode prog_11_method_11_code 71 = .ok (.aload_n 0, 1) := by decide +kernel
theorem dWo_join_72 : decode prog_11_method_11_code 72 = .ok (.getfield 12, 3) := by decide +kernel
theorem dWo_join_75 : decode prog_11_method_11_code 75 = .ok (.invokevirtual 68, 3) := by decide +kernel
theorem dWo_join_78 : decode prog_11_method_11_code 78 = .ok (.iconst 0, 1) := by decide +kernel
theorem dWo_join_79 : decode prog_11_method_11_code 79 = .ok (.ireturn, 1) := by decide +kernel
theorem t_Wo_join {d : Nat} {x1 x2 : Int} {σ : SG} {Q : Int → SG → Prop} (h : obok 10 x1 ∧ obok 10 x2 ∧ (σ x1 1 = σ x2 1 → obok 10 x1 ∧ obok 10 x2 ∧ obok 10 x1 ∧ Tri d M_X_sizeLimit [vI (σ x1 1)] σ (fun r2 σ2 => (w32 ((σ x1 2) + (σ x2 2)) ≤ r2 → obok 10 x1 ∧ obok 10 x1 ∧ obok 10 x2 ∧ Tri d M_Wd_makeEmpty [vA 105, vI (σ2 x1 1), vI (w32 ((σ2 x1 2) + (σ2 x2 2)))] σ2 (fun r4 σ4 => Tri d M_Wo_layInto [vA 104, vA x1, vI 0] σ4 (fun r5 σ5 => obok 10 x1 ∧ Tri d M_Wo_layInto [vA 104, vA x2, vI (σ5 x1 2)] σ5 (fun r6 σ6 => obok 10 x1 ∧ Tri d M_Wd_copyFrom [vA x1, vA 105] σ6 (fun r7 σ7 => Q 0 σ7))))) ∧ (r2 < w32 ((σ x1 2) + (σ x2 2)) → Q 7 σ2))) ∧ (σ x1 1 ≠ σ x2 1 → Q 5 σ)) : Tri (d + 1) M_Wo_join [vA 104, vA x1, vA x2] σ Q :=
  Tri_intro rfl (Nat.le_of_ble_eq_true rfl) (ls := [vA 104, vA x1, vA x2]) rfl (fun hok => L_aload_n dWo_join_0 rfl (L_getf fw_Wo_44 rfl dWo_join_1 ⟨h.1, L_aload_n dWo_join_4 rfl (L_getf fw_Wo_44 rfl dWo_join_5 ⟨h.2.1, L_icmp_eq dWo_join_8 (by decide) ⟨fun c1 => L_aload_n dWo_join_13 rfl (L_getf fw_Wo_40 rfl dWo_join_14 ⟨(h.2.2.1 c1).1, L_aload_n dWo_join_17 rfl (L_getf fw_Wo_40 rfl dWo_join_18 ⟨(h.2.2.1 c1).2.1, L_iadd dWo_join_21 (L_aload_n dWo_join_22 rfl (L_getf fw_Wo_44 rfl dWo_join_23 ⟨(h.2.2.1 c1).2.2.1, L_callNI rfl cs_X_sizeLimit (As := [vI (σ x1 1)]) rfl (by decide +kernel) rfl (Nat.le_of_ble_eq_true rfl) dWo_join_26 (Tri.mono ((h.2.2.1 c1).2.2.2) (fun r2 σ2 q2 => L_icmp_le dWo_join_29 (by decide) ⟨fun c3 => L_aload_n dWo_join_35 rfl (L_getF (b := 105) fw_Wo_12 rfl rfl (by decide) dWo_join_36 ⟨ob_104, L_aload_n dWo_join_39 rfl (L_getf fw_Wo_44 rfl dWo_join_40 ⟨(q2.1 c3).1, L_aload_n dWo_join_43 rfl (L_getf fw_Wo_40 rfl dWo_join_44 ⟨(q2.1 c3).2.1, L_aload_n dWo_join_47 rfl (L_getf fw_Wo_40 rfl dWo_join_48 ⟨(q2.1 c3).2.2.1, L_iadd dWo_join_51 (L_callVV rfl cv_Wd_makeEmpty (As := [vI (σ2 x1 1), vI (w32 ((σ2 x1 2) + (σ2 x2 2)))]) rfl (tk6 11 rfl rfl) rfl (Nat.le_of_ble_eq_true rfl) dWo_join_52 ⟨ob_105, Tri.mono ((q2.1 c3).2.2.2) (fun r4 σ4 q4 => L_aload_n dWo_join_55 rfl (L_aload_n dWo_join_56 rfl (L_iconst dWo_join_57 in_0 (L_callVV rfl cv_Wo_layInto (As := [vA x1, vI 0]) rfl (tk6 57 rfl rfl) rfl (Nat.le_of_ble_eq_true rfl) dWo_join_58 ⟨ob_104, Tri.mono q4 (fun r5 σ5 q5 => L_aload_n dWo_join_61 rfl (L_aload_n dWo_join_62 rfl (L_aload_n dWo_join_63 rfl (L_getf fw_Wo_40 rfl dWo_join_64 ⟨q5.1, L_callVV rfl cv_Wo_layInto (As := [vA x2, vI (σ5 x1 2)]) rfl (tk6 57 rfl rfl) rfl (Nat.le_of_ble_eq_true rfl) dWo_join_67 ⟨ob_104, Tri.mono q5.2 (fun r6 σ6 q6 => L_aload_n dWo_join_70 rfl (L_aload_n dWo_join_71 rfl (L_getF (b := 105) fw_Wo_12 rfl rfl (by decide) dWo_join_72 ⟨ob_104, L_callVV rfl cv_Wd_copyFrom (As := [vA 105]) rfl (tk6 18 rfl rfl) rfl (Nat.le_of_ble_eq_true rfl) dWo_join_75 ⟨q6.1, Tri.mono q6.2 (fun r7 σ7 q7 => L_iconst dWo_join_78 in_0 (L_ireturn rfl dWo_join_79 q7))⟩⟩)))⟩⟩))))⟩))))⟩)⟩)⟩)⟩)⟩), fun c3 => L_bipush dWo_join_32 bp_7 in_7 (L_ireturn rfl dWo_join_34 (q2.2 c3))⟩))⟩))⟩)⟩), fun c1 => L_iconst dWo_join_11 in_5 (L_ireturn rfl dWo_join_12 (h.2.2.2 c1))⟩⟩)⟩))
theorem dWo_layInto_0 : decode prog_11_method_12_code 0 = .ok (.iconst 0, 1) := by decide +kernel
theorem dWo_layInto_1 : decode prog_11_method_12_code 1 = .ok (.istore_n 3, 1) := by decide +kernel
theorem dWo_layInto_2 : decode prog_11_method_12_code 2 = .ok (.iload_n 3, 1) := by decide +kernel
theorem dWo_layInto_3 : decode prog_11_method_12_code 3 = .ok (.aload_n 1, 1) := by decide +kernel
theorem dWo_layInto_4 : decode prog_11_method_12_code 4 = .ok (.getfield 40, 3) := by decide +kernel
theorem dWo_layInto_7 : decode prog_11_method_12_code 7 = .ok (.if_icmp .ge 74, 3) := by decide +kernel
theorem dWo_layInto_10 : decode prog_11_method_12_code 10 = .ok (.iload_n 3, 1) := by decide +kernel
theorem dWo_layInto_11 : decode prog_11_method_12_code 11 = .ok (.iconst 1, 1) := by decide +kernel
theorem dWo_layInto_12 : decode prog_11_method_12_code 12 = .ok (.iadd, 1) := by decide +kernel
theorem dWo_layInto_13 : decode prog_11_method_12_code 13 = .ok (.istore 4, 2) := by decide +kernel
theorem dWo_layInto_15 : decode prog_11_method_12_code 15 = .ok (.iload 4, 2) := by decide +kernel
theorem dWo_layInto_17 : decode prog_11_method_12_code 17 = .ok (.aload_n 1, 1) := by decide +kernel
theorem dWo_layInto_18 : decode prog_11_method_12_code 18 = .ok (.getfield 40, 3) := by decide +kernel
theorem dWo_layInto_21 : decode prog_11_method_12_code 21 = .ok (.if_icmp .ge 54, 3) := by decide +kernel
theorem dWo_layInto_24 : decode prog_11_method_12_code 24 = .ok (.iconst 0, 1) := by decide +kernel
theorem dWo_layInto_25 : decode prog_11_method_12_code 25 = .ok (.istore 5, 2) := by decide +kernel
theorem dWo_layInto_27 : decode prog_11_method_12_code 27 = .ok (.iload 5, 2) := by decide +kernel
theorem dWo_layInto_29 : decode prog_11_method_12_code 29 = .ok (.aload_n 1, 1) := by decide +kernel
theorem dWo_layInto_30 : decode prog_11_method_12_code 30 = .ok (.getfield 40, 3) := by decide +kernel
theorem dWo_layInto_33 : decode prog_11_method_12_code 33 = .ok (.if_icmp .ge 36, 3) := by decide +kernel
theorem dWo_layInto_36 : decode prog_11_method_12_code 36 = .ok (.aload_n 0, 1) := by decide +kernel
theorem dWo_layInto_37 : decode prog_11_method_12_code 37 = .ok (.getfield 12, 3) := by decide +kernel
theorem dWo_layInto_40 : decode prog_11_method_12_code 40 = .ok (.iload_n 2, 1) := by decide +kernel
theorem dWo_layInto_41 : decode prog_11_method_12_code 41 = .ok (.iload_n 3, 1) := by decide +kernel
theorem dWo_layInto_42 : decode prog_11_method_12_code 42 = .ok (.iadd, 1) := by decide +kernel
theorem dWo_layInto_43 : decode prog_11_method_12_code 43 = .ok (.iload_n 2, 1) := by decide +kernel
theorem dWo_layInto_44 : decode prog_11_method_12_code 44 = .ok (.iload 4, 2) := by decide +kernel
theorem dWo_layInto_46 : decode prog_11_method_12_code 46 = .ok (.iadd, 1) := by decide +kernel
theorem dWo_layInto_47 : decode prog_11_method_12_code 47 = .ok (.iload_n 2, 1) := by decide +kernel
theorem dWo_layInto_48 : decode prog_11_method_12_code 48 = .ok (.iload 5, 2) := by decide +kernel
theorem dWo_layInto_50 : decode prog_11_method_12_code 50 = .ok (.iadd, 1) := by decide +kernel
theorem dWo_layInto_51 : decode prog_11_method_12_code 51 = .ok (.aload_n 1, 1) := by decide +kernel
theorem dWo_layInto_52 : decode prog_11_method_12_code 52 = .ok (.iload_n 3, 1) := by decide +kernel
theorem dWo_layInto_53 : decode prog_11_method_12_code 53 = .ok (.iload 4, 2) := by decide +kernel
theorem dWo_layInto_55 : decode prog_11_method_12_code 55 = .ok (.iload 5, 2) := by decide +kernel
theorem dWo_layInto_57 : decode prog_11_method_12_code 57 = .ok (.invokevirtual 99, 3) := by decide +kernel
theorem dWo_layInto_60 : decode prog_11_method_12_code 60 = .ok (.invokevirtual 78, 3) := by decide +kernel
theorem dWo_layInto_63 : decode prog_11_method_12_code 63 = .ok (.iinc 5 1, 3) := by decide +kernel
theorem dWo_layInto_66 : decode prog_11_method_12_code 66 = .ok (.goto (-39), 3) := by decide +kernel
theorem dWo_layInto_69 : decode prog_11_method_12_code 69 = .ok (.iinc 4 1, 3) := by decide +kernel
theorem dWo_layInto_72 : decode prog_11_method_12_code 72 = .ok (.goto (-57), 3) := by decide +kernel
theorem dWo_layInto_75 : decode prog_11_method_12_code 75 = .ok (.iinc 3 1, 3) := by decide +kernel
theorem dWo_layInto_78 : decode prog_11_method_12_code 78 = .ok (.goto (-76), 3) := by decide +kernel
theorem dWo_layInto_81 : decode prog_11_method_12_code 81 = .ok (.return_, 1) := by decide +kernel
theorem t_Wo_layInto {d : Nat} {x1 x2 : Int} {σ : SG} {Q : Int → SG → Prop} (h : inI x2 → (L (d + 1) M_Wo_layInto 2 [vA 104, vA x1, vI x2, vI 0, vU, vU] [] σ Q)) : Tri (d + 1) M_Wo_layInto [vA 104, vA x1, vI x2] σ Q :=
  Tri_intro rfl (Nat.le_of_ble_eq_true rfl) (ls := [vA 104, vA x1, vI x2, vU, vU, vU]) rfl (fun hok => L_iconst dWo_layInto_0 in_0 (L_istore_n dWo_layInto_1 (by decide) ((h (hok _ (List.mem_of_getElem? (i := 2) rfl))))))
theorem s_Wo_layInto_2 {d : Nat} {x1 x2 x3 : Int} {σ : SG} {Q : Int → SG → Prop} (h : obok 10 x1 ∧ (σ x1 2 ≤ x3 → Q 0 σ) ∧ (x3 < σ x1 2 → L (d + 1) M_Wo_layInto 15 [vA 104, vA x1, vI x2, vI x3, vI (w32 (x3 + 1)), vU] [] σ Q)) : L (d + 1) M_Wo_layInto 2 [vA 104, vA x1, vI x2, vI x3, vU, vU] [] σ Q :=
  L_iload_n dWo_layInto_2 rfl (L_aload_n dWo_layInto_3 rfl (L_getf fw_Wo_40 rfl dWo_layInto_4 ⟨h.1, L_icmp_ge dWo_layInto_7 (by decide) ⟨fun c1 => L_return rfl dWo_layInto_81 (h.2.1 c1), fun c1 => L_iload_n dWo_layInto_10 rfl (L_iconst dWo_layInto_11 in_1 (L_iadd dWo_layInto_12 (L_istore dWo_layInto_13 (by decide) (h.2.2 c1))))⟩⟩))
theorem s_Wo_layInto_15 {d : Nat} {x1 x2 x3 x4 : Int} {σ : SG} {Q : Int → SG → Prop} (h : obok 10 x1 ∧ (σ x1 2 ≤ x4 → L (d + 1) M_Wo_layInto 2 [vA 104, vA x1, vI x2, vI (w32 (x3 + 1)), vU, vU] [] σ Q) ∧ (x4 < σ x1 2 → L (d + 1) M_Wo_layInto 27 [vA 104, vA x1, vI x2, vI x3, vI x4, vI 0] [] σ Q)) : L (d + 1) M_Wo_layInto 15 [vA 104, vA x1, vI x2, vI x3, vI x4, vU] [] σ Q :=
  L_iload dWo_layInto_15 rfl (L_aload_n dWo_layInto_17 rfl (L_getf fw_Wo_40 rfl dWo_layInto_18 ⟨h.1, L_icmp_ge dWo_layInto_21 (by decide) ⟨fun c1 => L_iinc dWo_layInto_75 rfl (by decide) (L_goto dWo_layInto_78 (by decide) (L_weak [true, true, true, true, false, true] (h.2.1 c1))), fun c1 => L_iconst dWo_layInto_24 in_0 (L_istore dWo_layInto_25 (by decide) (h.2.2 c1))⟩⟩))
theorem s_Wo_layInto_27 {d : Nat} {x1 x2 x3 x4 x5 : Int} {σ : SG} {Q : Int → SG → Prop} (h : obok 10 x1 ∧ (σ x1 2 ≤ x5 → L (d + 1) M_Wo_layInto 15 [vA 104, vA x1, vI x2, vI x3, vI (w32 (x4 + 1)), vU] [] σ Q) ∧ (x5 < σ x1 2 → obok 10 x1 ∧ Tri d M_Wd_cell [vA x1, vI x3, vI x4, vI x5] σ (fun r2 σ2 => Tri d M_Wd_setCell [vA 105, vI (w32 (x2 + x3)), vI (w32 (x2 + x4)), vI (w32 (x2 + x5)), vI r2] σ2 (fun r3 σ3 => L (d + 1) M_Wo_layInto 27 [vA 104, vA x1, vI x2, vI x3, vI x4, vI (w32 (x5 + 1))] [] σ3 Q)))) : L (d + 1) M_Wo_layInto 27 [vA 104, vA x1, vI x2, vI x3, vI x4, vI x5] [] σ Q :=
  L_iload dWo_layInto_27 rfl (L_aload_n dWo_layInto_29 rfl (L_getf fw_Wo_40 rfl dWo_layInto_30 ⟨h.1, L_icmp_ge dWo_layInto_33 (by decide) ⟨fun c1 => L_iinc dWo_layInto_69 rfl (by decide) (L_goto dWo_layInto_72 (by decide) (L_weak [true, true, true, true, true, false] (h.2.1 c1))), fun c1 => L_aload_n dWo_layInto_36 rfl (L_getF (b := 105) fw_Wo_12 rfl rfl (by decide) dWo_layInto_37 ⟨ob_104, L_iload_n dWo_layInto_40 rfl (L_iload_n dWo_layInto_41 rfl (L_iadd dWo_layInto_42 (L_iload_n dWo_layInto_43 rfl (L_iload dWo_layInto_44 rfl (L_iadd dWo_layInto_46 (L_iload_n dWo_layInto_47 rfl (L_iload dWo_layInto_48 rfl (L_iadd dWo_layInto_50 (L_aload_n dWo_layInto_51 rfl (L_iload_n dWo_layInto_52 rfl (L_iload dWo_layInto_53 rfl (L_iload dWo_layInto_55 rfl (L_callVI rfl cv_Wd_cell (As := [vI x3, vI x4, vI x5]) rfl (tk6 27 rfl rfl) rfl (Nat.le_of_ble_eq_true rfl) dWo_layInto_57 ⟨(h.2.2 c1).1, Tri.mono ((h.2.2 c1).2) (fun r2 σ2 q2 => L_callVV rfl cv_Wd_setCell (As := [vI (w32 (x2 + x3)), vI (w32 (x2 + x4)), vI (w32 (x2 + x5)), vI r2]) rfl (tk6 17 rfl rfl) rfl (Nat.le_of_ble_eq_true rfl) dWo_layInto_60 ⟨ob_105, Tri.mono q2 (fun r3 σ3 q3 => L_iinc dWo_layInto_63 rfl (by decide) (L_goto dWo_layInto_66 (by decide) q3))⟩)⟩)))))))))))))⟩)⟩⟩))
theorem dWo_leaveRest_0 : decode prog_11_method_13_code 0 = .ok (.aload_n 0, 1) := by decide +kernel
theorem dWo_leaveRest_1 : decode prog_11_method_13_code 1 = .ok (.aload_n 1, 1) := by decide +kernel
theorem dWo_leaveRest_2 : decode prog_11_method_13_code 2 = .ok (.getfield 40, 3) := by decide +kernel
theorem dWo_leaveRest_5 : decode prog_11_method_13_code 5 = .ok (.aload_n 2, 1) := by decide +kernel
theorem dWo_leaveRest_6 : decode prog_11_method_13_code 6 = .ok (.getfield 55, 3) := by decide +kernel
theorem dWo_leaveRest_9 : decode prog_11_method_13_code 9 = .ok (.iconst (-1), 1) := by decide +kernel
theorem dWo_leaveRest_10 : decode prog_11_method_13_code 10 = .ok (.ixor, 1) := by decide +kernel
theorem dWo_leaveRest_11 : decode prog_11_method_13_code 11 = .ok (.invokevirtual 111, 3) := by decide +kernel
theorem dWo_leaveRest_14 : decode prog_11_method_13_code 14 = .ok (.istore_n 3, 1) := by decide +kernel
theorem dWo_leaveRest_15 : decode prog_11_method_13_code 15 = .ok (.aload_n 0, 1) := by decide +kernel
theorem dWo_leaveRest_16 : decode prog_11_method_13_code 16 = .ok (.getfield 12, 3) := by decide +kernel
theorem dWo_leaveRest_19 : decode prog_11_method_13_code 19 = .ok (.aload_n 1, 1) := by decide +kernel
theorem dWo_leaveRest_20 : decode prog_11_method_13_code 20 = .ok (.getfield 44, 3) := by decide +kernel
theorem dWo_leaveRest_23 : decode prog_11_method_13_code 23 = .ok (.iload_n 3, 1) := by decide +kernel
theorem dWo_leaveRest_24 : decode prog_11_method_13_code 24 = .ok (.invokevirtual 58, 3) := by decide +kernel
theorem dWo_leaveRest_27 : decode prog_11_method_13_code 27 = .ok (.iconst 0, 1) := by decide +kernel
theorem dWo_leaveRest_28 : decode prog_11_method_13_code 28 = .ok (.istore 4, 2) := by decide +kernel
theorem dWo_leaveRest_30 : decode prog_11_method_13_code 30 = .ok (.iload 4, 2) := by decide +kernel
theorem dWo_leaveRest_32 : decode prog_11_method_13_code 32 = .ok (.iload_n 3, 1) := by decide +kernel
theorem dWo_leaveRest_33 : decode prog_11_method_13_code 33 = .ok (.if_icmp .ge 76, 3) := by decide +kernel
theorem dWo_leaveRest_36 : decode prog_11_method_13_code 36 = .ok (.iload 4, 2) := by decide +kernel
theorem dWo_leaveRest_38 : decode prog_11_method_13_code 38 = .ok (.iconst 1, 1) := by decide +kernel
theorem dWo_leaveRest_39 : decode prog_11_method_13_code 39 = .ok (.iadd, 1) := by decide +kernel
theorem dWo_leaveRest_40 : decode prog_11_method_13_code 40 = .ok (.istore 5, 2) := by decide +kernel
theorem dWo_leaveRest_42 : decode prog_11_method_13_code 42 = .ok (.iload 5, 2) := by decide +kernel
theorem dWo_leaveRest_44 : decode prog_11_method_13_code 44 = .ok (.iload_n 3, 1) := by decide +kernel
theorem dWo_leaveRest_45 : decode prog_11_method_13_code 45 = .ok (.if_icmp .ge 58, 3) := by decide +kernel
theorem dWo_leaveRest_48 : decode prog_11_method_13_code 48 = .ok (.aload_n 1, 1) := by decide +kernel
theorem dWo_leaveRest_49 : decode prog_11_method_13_code 49 = .ok (.getstatic 86, 3) := by decide +kernel
theorem dWo_leaveRest_52 : decode prog_11_method_13_code 52 = .ok (.aload_n 0, 1) := by decide +kernel
theorem dWo_leaveRest_53 : decode prog_11_method_13_code 53 = .ok (.getfield 37, 3) := by decide +kernel
theorem dWo_leaveRest_56 : decode prog_11_method_13_code 56 = .ok (.iload 4, 2) := by decide +kernel
theorem dWo_leaveRest_58 : decode prog_11_method_13_code 58 = .ok (.iaload, 1) := by decide +kernel
theorem dWo_leaveRest_59 : decode prog_11_method_13_code 59 = .ok (.iconst 5, 1) := by decide +kernel
theorem dWo_leaveRest_60 : decode prog_11_method_13_code 60 = .ok (.imul, 1) := by decide +kernel
theorem dWo_leaveRest_61 : decode prog_11_method_13_code 61 = .ok (.getstatic 86, 3) := by decide +kernel
theorem dWo_leaveRest_64 : decode prog_11_method_13_code 64 = .ok (.aload_n 0, 1) := by decide +kernel
theorem dWo_leaveRest_65 : decode prog_11_method_13_code 65 = .ok (.getfield 37, 3) := by decide +kernel
theorem dWo_leaveRest_68 : decode prog_11_method_13_code 68 = .ok (.iload 5, 2) := by decide +kernel
theorem dWo_leaveRest_70 : decode prog_11_method_13_code 70 = .ok (.iaload, 1) := by decide +kernel
theorem dWo_leaveRest_71 : decode prog_11_method_13_code 71 = .ok (.iconst 5, 1) := by decide +kernel
theorem dWo_leaveRest_72 : decode prog_11_method_13_code 72 = .ok (.imul, 1) := by decide +kernel
theorem dWo_leaveRest_73 : decode prog_11_method_13_code 73 = .ok (.aload_n 0, 1) := by decide +kernel
theorem dWo_leaveRest_74 : decode prog_11_method_13_code 74 = .ok (.getfield 34, 3) := by decide +kernel
theorem dWo_leaveRest_77 : decode prog_11_method_13_code 77 = .ok (.invokevirtual 61, 3) := by decide +kernel
theorem dWo_leaveRest_80 : decode prog_11_method_13_code 80 = .ok (.aload_n 2, 1) := by decide +kernel
theorem dWo_leaveRest_81 : decode prog_11_method_13_code 81 = .ok (.aload_n 0, 1) := by decide +kernel
theorem dWo_leaveRest_82 : decode prog_11_method_13_code 82 = .ok (.getfield 34, 3) := by decide +kernel
theorem dWo_leaveRest_85 : decode prog_11_method_13_code 85 = .ok (.invokevirtual 114, 3) := by decide +kernel
theorem dWo_leaveRest_88 : decode prog_11_method_13_code 88 = .ok (.aload_n 0, 1) := by decide +kernel
theorem dWo_leaveRest_89 : decode prog_11_method_13_code 89 = .ok (.iload 4, 2) := by decide +kernel
theorem dWo_leaveRest_91 : decode prog_11_method_13_code 91 = .ok (.iload 5, 2) := by decide +kernel
theorem dWo_leaveRest_93 : decode prog_11_method_13_code 93 = .ok (.iload_n 3, 1) := by decide +kernel
theorem dWo_leaveRest_94 : decode prog_11_method_13_code 94 = .ok (.invokevirtual 118, 3) := by decide +kernel
theorem dWo_leaveRest_97 : decode prog_11_method_13_code 97 = .ok (.iinc 5 1, 3) := by decide +kernel
theorem dWo_leaveRest_100 : decode prog_11_method_13_code 100 = .ok (.goto (-58), 3) := by decide +kernel
theorem dWo_leaveRest_103 : decode prog_11_method_13_code 103 = .ok (.iinc 4 1, 3) := by decide +kernel
theorem dWo_leaveRest_106 : decode prog_11_method_13_code 106 = .ok (.goto (-76), 3) := by decide +kernel
theorem dWo_leaveRest_109 : decode prog_11_method_13_code 109 = .ok (.aload_n 1, 1) := by decide +kernel
theorem dWo_leaveRest_110 : decode prog_11_method_13_code 110 = .ok (.aload_n 0, 1) := by decide +kernel
theorem dWo_leaveRest_111 : decode prog_11_method_13_code 111 = .ok (.getfield 12, 3) := by decide +kernel
theorem dWo_leaveRest_114 : decode prog_11_method_13_code 114 = .ok (.invokevirtual 68, 3) := by decide +kernel
theorem dWo_leaveRest_117 : decode prog_11_method_13_code 117 = .ok (.return_, 1) := by decide +kernel
theorem t_Wo_leaveRest {d : Nat} {x1 x2 : Int} {σ : SG} {Q : Int → SG → Prop} (h : obok 10 x1 ∧ obok 2 x2 ∧ Tri d M_Wo_noteKept [vA 104, vI (σ x1 2), vI (xor32 (σ x2 6) (-1))] σ (fun r1 σ1 => obok 10 x1 ∧ Tri d M_Wd_makeEmpty [vA 105, vI (σ1 x1 1), vI r1] σ1 (fun r2 σ2 => L (d + 1) M_Wo_leaveRest 30 [vA 104, vA x1, vA x2, vI r1, vI 0, vU] [] σ2 Q))) : Tri (d + 1) M_Wo_leaveRest [vA 104, vA x1, vA x2] σ Q :=
  Tri_intro rfl (Nat.le_of_ble_eq_true rfl) (ls := [vA 104, vA x1, vA x2, vU, vU, vU]) rfl (fun hok => L_aload_n dWo_leaveRest_0 rfl (L_aload_n dWo_leaveRest_1 rfl (L_getf fw_Wo_40 rfl dWo_leaveRest_2 ⟨h.1, L_aload_n dWo_leaveRest_5 rfl (L_getf fw_Wo_55 rfl dWo_leaveRest_6 ⟨h.2.1, L_iconst dWo_leaveRest_9 in_m1 (L_ixor dWo_leaveRest_10 (L_callVI rfl cv_Wo_noteKept (As := [vI (σ x1 2), vI (xor32 (σ x2 6) (-1))]) rfl (tk6 82 rfl rfl) rfl (Nat.le_of_ble_eq_true rfl) dWo_leaveRest_11 ⟨ob_104, Tri.mono (h.2.2) (fun r1 σ1 q1 => L_istore_n dWo_leaveRest_14 (by decide) (L_aload_n dWo_leaveRest_15 rfl (L_getF (b := 105) fw_Wo_12 rfl rfl (by decide) dWo_leaveRest_16 ⟨ob_104, L_aload_n dWo_leaveRest_19 rfl (L_getf fw_Wo_44 rfl dWo_leaveRest_20 ⟨q1.1, L_iload_n dWo_leaveRest_23 rfl (L_callVV rfl cv_Wd_makeEmpty (As := [vI (σ1 x1 1), vI r1]) rfl (tk6 11 rfl rfl) rfl (Nat.le_of_ble_eq_true rfl) dWo_leaveRest_24 ⟨ob_105, Tri.mono q1.2 (fun r2 σ2 q2 => L_iconst dWo_leaveRest_27 in_0 (L_istore dWo_leaveRest_28 (by decide) q2))⟩)⟩)⟩)))⟩))⟩)⟩)))
theorem s_Wo_leaveRest_30 {d : Nat} {x1 x2 x3 x4 : Int} {σ : SG} {Q : Int → SG → Prop} (h : (x3 ≤ x4 → obok 10 x1 ∧ Tri d M_Wd_copyFrom [vA x1, vA 105] σ (fun r2 σ2 => Q 0 σ2)) ∧ (x4 < x3 → L (d + 1) M_Wo_leaveRest 42 [vA 104, vA x1, vA x2, vI x3, vI x4, vI (w32 (x4 + 1))] [] σ Q)) : L (d + 1) M_Wo_leaveRest 30 [vA 104, vA x1, vA x2, vI x3, vI x4, vU] [] σ Q :=
  L_iload dWo_leaveRest_30 rfl (L_iload_n dWo_leaveRest_32 rfl (L_icmp_ge dWo_leaveRest_33 (by decide) ⟨fun c1 => L_aload_n dWo_leaveRest_109 rfl (L_aload_n dWo_leaveRest_110 rfl (L_getF (b := 105) fw_Wo_12 rfl rfl (by decide) dWo_leaveRest_111 ⟨ob_104, L_callVV rfl cv_Wd_copyFrom (As := [vA 105]) rfl (tk6 18 rfl rfl) rfl (Nat.le_of_ble_eq_true rfl) dWo_leaveRest_114 ⟨(h.1 c1).1, Tri.mono ((h.1 c1).2) (fun r2 σ2 q2 => L_return rfl dWo_leaveRest_117 q2)⟩⟩)), fun c1 => L_iload dWo_leaveRest_36 rfl (L_iconst dWo_leaveRest_38 in_1 (L_iadd dWo_leaveRest_39 (L_istore dWo_leaveRest_40 (by decide) (h.2 c1))))⟩))
theorem s_Wo_leaveRest_42 {d : Nat} {x1 x2 x3 x4 x5 : Int} {σ : SG} {Q : Int → SG → Prop} (h : (x3 ≤ x5 → L (d + 1) M_Wo_leaveRest 30 [vA 104, vA x1, vA x2, vI x3, vI (w32 (x4 + 1)), vU] [] σ Q) ∧ (x5 < x3 → (0 ≤ x4 ∧ x4 < 5) ∧ (0 ≤ x5 ∧ x5 < 5) ∧ obok 10 x1 ∧ Tri d M_Wd_bracketInto [vA x1, vA (-2), vI (w32 ((σ 113 x4) * 5)), vA (-2), vI (w32 ((σ 113 x5) * 5)), vA 112] σ (fun r2 σ2 => obok 2 x2 ∧ Tri d M_Ec_reduce [vA x2, vA 112] σ2 (fun r3 σ3 => Tri d M_Wo_tellByKept [vA 104, vI x4, vI x5, vI x3] σ3 (fun r4 σ4 => L (d + 1) M_Wo_leaveRest 42 [vA 104, vA x1, vA x2, vI x3, vI x4, vI (w32 (x5 + 1))] [] σ4 Q))))) : L (d + 1) M_Wo_leaveRest 42 [vA 104, vA x1, vA x2, vI x3, vI x4, vI x5] [] σ Q :=
  L_iload dWo_leaveRest_42 rfl (L_iload_n dWo_leaveRest_44 rfl (L_icmp_ge dWo_leaveRest_45 (by decide) ⟨fun c1 => L_iinc dWo_leaveRest_103 rfl (by decide) (L_goto dWo_leaveRest_106 (by decide) (L_weak [true, true, true, true, true, false] (h.1 c1))), fun c1 => L_aload_n dWo_leaveRest_48 rfl (L_units (by decide +kernel) dWo_leaveRest_49 (L_aload_n dWo_leaveRest_52 rfl (L_getF (b := 113) fw_Wo_37 rfl rfl (by decide) dWo_leaveRest_53 ⟨ob_104, L_iload dWo_leaveRest_56 rfl (L_ialoadL kd_113 dWo_leaveRest_58 ⟨(h.2 c1).1, L_iconst dWo_leaveRest_59 in_5 (L_imul dWo_leaveRest_60 (L_units (by decide +kernel) dWo_leaveRest_61 (L_aload_n dWo_leaveRest_64 rfl (L_getF (b := 113) fw_Wo_37 rfl rfl (by decide) dWo_leaveRest_65 ⟨ob_104, L_iload dWo_leaveRest_68 rfl (L_ialoadL kd_113 dWo_leaveRest_70 ⟨(h.2 c1).2.1, L_iconst dWo_leaveRest_71 in_5 (L_imul dWo_leaveRest_72 (L_aload_n dWo_leaveRest_73 rfl (L_getF (b := 112) fw_Wo_34 rfl rfl (by decide) dWo_leaveRest_74 ⟨ob_104, L_callVV rfl cv_Wd_bracketInto (As := [vA (-2), vI (w32 ((σ 113 x4) * 5)), vA (-2), vI (w32 ((σ 113 x5) * 5)), vA 112]) rfl (tk6 12 rfl rfl) rfl (Nat.le_of_ble_eq_true rfl) dWo_leaveRest_77 ⟨(h.2 c1).2.2.1, Tri.mono ((h.2 c1).2.2.2) (fun r2 σ2 q2 => L_aload_n dWo_leaveRest_80 rfl (L_aload_n dWo_leaveRest_81 rfl (L_getF (b := 112) fw_Wo_34 rfl rfl (by decide) dWo_leaveRest_82 ⟨ob_104, L_callVV rfl cv_Ec_reduce (As := [vA 112]) rfl (tk6 87 rfl rfl) rfl (Nat.le_of_ble_eq_true rfl) dWo_leaveRest_85 ⟨q2.1, Tri.mono q2.2 (fun r3 σ3 q3 => L_aload_n dWo_leaveRest_88 rfl (L_iload dWo_leaveRest_89 rfl (L_iload dWo_leaveRest_91 rfl (L_iload_n dWo_leaveRest_93 rfl (L_callVV rfl cv_Wo_tellByKept (As := [vI x4, vI x5, vI x3]) rfl (tk6 88 rfl rfl) rfl (Nat.le_of_ble_eq_true rfl) dWo_leaveRest_94 ⟨ob_104, Tri.mono q3 (fun r4 σ4 q4 => L_iinc dWo_leaveRest_97 rfl (by decide) (L_goto dWo_leaveRest_100 (by decide) q4))⟩)))))⟩⟩)))⟩⟩)))⟩)⟩))))⟩)⟩)))⟩))
theorem dWo_leavePart_0 : decode prog_11_method_14_code 0 = .ok (.aload_n 0, 1) := by decide +kernel
theorem dWo_leavePart_1 : decode prog_11_method_14_code 1 = .ok (.aload_n 1, 1) := by decide +kernel
theorem dWo_leavePart_2 : decode prog_11_method_14_code 2 = .ok (.getfield 40, 3) := by decide +kernel
theorem dWo_leavePart_5 : decode prog_11_method_14_code 5 = .ok (.aload_n 2, 1) := by decide +kernel
theorem dWo_leavePart_6 : decode prog_11_method_14_code 6 = .ok (.getfield 55, 3) := by decide +kernel
theorem dWo_leavePart_9 : decode prog_11_method_14_code 9 = .ok (.invokevirtual 111, 3) := by decide +kernel
theorem dWo_leavePart_12 : decode prog_11_method_14_code 12 = .ok (.istore_n 3, 1) := by decide +kernel
theorem dWo_leavePart_13 : decode prog_11_method_14_code 13 = .ok (.aload_n 0, 1) := by decide +kernel
theorem dWo_leavePart_14 : decode prog_11_method_14_code 14 = .ok (.getfield 12, 3) := by decide +kernel
theorem dWo_leavePart_17 : decode prog_11_method_14_code 17 = .ok (.aload_n 1, 1) := by decide +kernel
theorem dWo_leavePart_18 : decode prog_11_method_14_code 18 = .ok (.getfield 44, 3) := by decide +kernel
theorem dWo_leavePart_21 : decode prog_11_method_14_code 21 = .ok (.iload_n 3, 1) := by decide +kernel
theorem dWo_leavePart_22 : decode prog_11_method_14_code 22 = .ok (.invokevirtual 58, 3) := by decide +kernel
theorem dWo_leavePart_25 : decode prog_11_method_14_code 25 = .ok (.iconst 0, 1) := by decide +kernel
theorem dWo_leavePart_26 : decode prog_11_method_14_code 26 = .ok (.istore 4, 2) := by decide +kernel
theorem dWo_leavePart_28 : decode prog_11_method_14_code 28 = .ok (.iload 4, 2) := by decide +kernel
theorem dWo_leavePart_30 : decode prog_11_method_14_code 30 = .ok (.iload_n 3, 1) := by decide +kernel
theorem dWo_leavePart_31 : decode prog_11_method_14_code 31 = .ok (.if_icmp .ge 70, 3) := by decide +kernel
theorem dWo_leavePart_34 : decode prog_11_method_14_code 34 = .ok (.iload 4, 2) := by decide +kernel
theorem dWo_leavePart_36 : decode prog_11_method_14_code 36 = .ok (.iconst 1, 1) := by decide +kernel
theorem dWo_leavePart_37 : decode prog_11_method_14_code 37 = .ok (.iadd, 1) := by decide +kernel
theorem dWo_leavePart_38 : decode prog_11_method_14_code 38 = .ok (.istore 5, 2) := by decide +kernel
theorem dWo_leavePart_40 : decode prog_11_method_14_code 40 = .ok (.iload 5, 2) := by decide +kernel
theorem dWo_leavePart_42 : decode prog_11_method_14_code 42 = .ok (.iload_n 3, 1) := by decide +kernel
theorem dWo_leavePart_43 : decode prog_11_method_14_code 43 = .ok (.if_icmp .ge 52, 3) := by decide +kernel
theorem dWo_leavePart_46 : decode prog_11_method_14_code 46 = .ok (.aload_n 1, 1) := by decide +kernel
theorem dWo_leavePart_47 : decode prog_11_method_14_code 47 = .ok (.aload_n 2, 1) := by decide +kernel
theorem dWo_leavePart_48 : decode prog_11_method_14_code 48 = .ok (.getfield 72, 3) := by decide +kernel
theorem dWo_leavePart_51 : decode prog_11_method_14_code 51 = .ok (.aload_n 0, 1) := by decide +kernel
theorem dWo_leavePart_52 : decode prog_11_method_14_code 52 = .ok (.getfield 37, 3) := by decide +kernel
theorem dWo_leavePart_55 : decode prog_11_method_14_code 55 = .ok (.iload 4, 2) := by decide +kernel
theorem dWo_leavePart_57 : decode prog_11_method_14_code 57 = .ok (.iaload, 1) := by decide +kernel
theorem dWo_leavePart_58 : decode prog_11_method_14_code 58 = .ok (.iconst 5, 1) := by decide +kernel
theorem dWo_leavePart_59 : decode prog_11_method_14_code 59 = .ok (.imul, 1) := by decide +kernel
theorem dWo_leavePart_60 : decode prog_11_method_14_code 60 = .ok (.aload_n 2, 1) := by decide +kernel
theorem dWo_leavePart_61 : decode prog_11_method_14_code 61 = .ok (.getfield 72, 3) := by decide +kernel
theorem dWo_leavePart_64 : decode prog_11_method_14_code 64 = .ok (.aload_n 0, 1) := by decide +kernel
theorem dWo_leavePart_65 : decode prog_11_method_14_code 65 = .ok (.getfield 37, 3) := by decide +kernel
theorem dWo_leavePart_68 : decode prog_11_method_14_code 68 = .ok (.iload 5, 2) := by decide +kernel
theorem dWo_leavePart_70 : decode prog_11_method_14_code 70 = .ok (.iaload, 1) := by decide +kernel
theorem dWo_leavePart_71 : decode prog_11_method_14_code 71 = .ok (.iconst 5, 1) := by decide +kernel
theorem dWo_leavePart_72 : decode prog_11_method_14_code 72 = .ok (.imul, 1) := by decide +kernel
theorem dWo_leavePart_73 : decode prog_11_method_14_code 73 = .ok (.aload_n 0, 1) := by decide +kernel
theorem dWo_leavePart_74 : decode prog_11_method_14_code 74 = .ok (.getfield 34, 3) := by decide +kernel
theorem dWo_leavePart_77 : decode prog_11_method_14_code 77 = .ok (.invokevirtual 61, 3) := by decide +kernel
theorem dWo_leavePart_80 : decode prog_11_method_14_code 80 = .ok (.aload_n 0, 1) := by decide +kernel
theorem dWo_leavePart_81 : decode prog_11_method_14_code 81 = .ok (.iload 4, 2) := by decide +kernel
theorem dWo_leavePart_83 : decode prog_11_method_14_code 83 = .ok (.iload 5, 2) := by decide +kernel
theorem dWo_leavePart_85 : decode prog_11_method_14_code 85 = .ok (.iload_n 3, 1) := by decide +kernel
theorem dWo_leavePart_86 : decode prog_11_method_14_code 86 = .ok (.invokevirtual 118, 3) := by decide +kernel
theorem dWo_leavePart_89 : decode prog_11_method_14_code 89 = .ok (.iinc 5 1, 3) := by decide +kernel
theorem dWo_leavePart_92 : decode prog_11_method_14_code 92 = .ok (.goto (-52), 3) := by decide +kernel
theorem dWo_leavePart_95 : decode prog_11_method_14_code 95 = .ok (.iinc 4 1, 3) := by decide +kernel
theorem dWo_leavePart_98 : decode prog_11_method_14_code 98 = .ok (.goto (-70), 3) := by decide +kernel
theorem dWo_leavePart_101 : decode prog_11_method_14_code 101 = .ok (.aload_n 1, 1) := by decide +kernel
theorem dWo_leavePart_102 : decode prog_11_method_14_code 102 = .ok (.aload_n 0, 1) := by decide +kernel
theorem dWo_leavePart_103 : decode prog_11_method_14_code 103 = .ok (.getfield 12, 3) := by decide +kernel
theorem dWo_leavePart_106 : decode prog_11_method_14_code 106 = .ok (.invokevirtual 68, 3) := by decide +kernel
theorem dWo_leavePart_109 : decode prog_11_method_14_code 109 = .ok (.return_, 1) := by decide +kernel
theorem t_Wo_leavePart {d : Nat} {x1 x2 : Int} {σ : SG} {Q : Int → SG → Prop} (h : obok 10 x1 ∧ obok 2 x2 ∧ Tri d M_Wo_noteKept [vA 104, vI (σ x1 2), vI (σ x2 6)] σ (fun r1 σ1 => obok 10 x1 ∧ Tri d M_Wd_makeEmpty [vA 105, vI (σ1 x1 1), vI r1] σ1 (fun r2 σ2 => L (d + 1) M_Wo_leavePart 28 [vA 104, vA x1, vA x2, vI r1, vI 0, vU] [] σ2 Q))) : Tri (d + 1) M_Wo_leavePart [vA 104, vA x1, vA x2] σ Q :=
  Tri_intro rfl (Nat.le_of_ble_eq_true rfl) (ls := [vA 104, vA x1, vA x2, vU, vU, vU]) rfl (fun hok => L_aload_n dWo_leavePart_0 rfl (L_aload_n dWo_leavePart_1 rfl (L_getf fw_Wo_40 rfl dWo_leavePart_2 ⟨h.1, L_aload_n dWo_leavePart_5 rfl (L_getf fw_Wo_55 rfl dWo_leavePart_6 ⟨h.2.1, L_callVI rfl cv_Wo_noteKept (As := [vI (σ x1 2), vI (σ x2 6)]) rfl (tk6 82 rfl rfl) rfl (Nat.le_of_ble_eq_true rfl) dWo_leavePart_9 ⟨ob_104, Tri.mono (h.2.2) (fun r1 σ1 q1 => L_istore_n dWo_leavePart_12 (by decide) (L_aload_n dWo_leavePart_13 rfl (L_getF (b := 105) fw_Wo_12 rfl rfl (by decide) dWo_leavePart_14 ⟨ob_104, L_aload_n dWo_leavePart_17 rfl (L_getf fw_Wo_44 rfl dWo_leavePart_18 ⟨q1.1, L_iload_n dWo_leavePart_21 rfl (L_callVV rfl cv_Wd_makeEmpty (As := [vI (σ1 x1 1), vI r1]) rfl (tk6 11 rfl rfl) rfl (Nat.le_of_ble_eq_true rfl) dWo_leavePart_22 ⟨ob_105, Tri.mono q1.2 (fun r2 σ2 q2 => L_iconst dWo_leavePart_25 in_0 (L_istore dWo_leavePart_26 (by decide) q2))⟩)⟩)⟩)))⟩⟩)⟩)))
theorem s_Wo_leavePart_28 {d : Nat} {x1 x2 x3 x4 : Int} {σ : SG} {Q : Int → SG → Prop} (h : (x3 ≤ x4 → obok 10 x1 ∧ Tri d M_Wd_copyFrom [vA x1, vA 105] σ (fun r2 σ2 => Q 0 σ2)) ∧ (x4 < x3 → L (d + 1) M_Wo_leavePart 40 [vA 104, vA x1, vA x2, vI x3, vI x4, vI (w32 (x4 + 1))] [] σ Q)) : L (d + 1) M_Wo_leavePart 28 [vA 104, vA x1, vA x2, vI x3, vI x4, vU] [] σ Q :=
  L_iload dWo_leavePart_28 rfl (L_iload_n dWo_leavePart_30 rfl (L_icmp_ge dWo_leavePart_31 (by decide) ⟨fun c1 => L_aload_n dWo_leavePart_101 rfl (L_aload_n dWo_leavePart_102 rfl (L_getF (b := 105) fw_Wo_12 rfl rfl (by decide) dWo_leavePart_103 ⟨ob_104, L_callVV rfl cv_Wd_copyFrom (As := [vA 105]) rfl (tk6 18 rfl rfl) rfl (Nat.le_of_ble_eq_true rfl) dWo_leavePart_106 ⟨(h.1 c1).1, Tri.mono ((h.1 c1).2) (fun r2 σ2 q2 => L_return rfl dWo_leavePart_109 q2)⟩⟩)), fun c1 => L_iload dWo_leavePart_34 rfl (L_iconst dWo_leavePart_36 in_1 (L_iadd dWo_leavePart_37 (L_istore dWo_leavePart_38 (by decide) (h.2 c1))))⟩))
theorem s_Wo_leavePart_40 {d : Nat} {x1 x2 x3 x4 x5 : Int} {σ : SG} {Q : Int → SG → Prop} (h : (x3 ≤ x5 → L (d + 1) M_Wo_leavePart 28 [vA 104, vA x1, vA x2, vI x3, vI (w32 (x4 + 1)), vU] [] σ Q) ∧ (x5 < x3 → obok 2 x2 ∧ (0 ≤ x4 ∧ x4 < 5) ∧ obok 2 x2 ∧ (0 ≤ x5 ∧ x5 < 5) ∧ obok 10 x1 ∧ Tri d M_Wd_bracketInto [vA x1, vA (x2 + 1), vI (w32 ((σ 113 x4) * 5)), vA (x2 + 1), vI (w32 ((σ 113 x5) * 5)), vA 112] σ (fun r2 σ2 => Tri d M_Wo_tellByKept [vA 104, vI x4, vI x5, vI x3] σ2 (fun r3 σ3 => L (d + 1) M_Wo_leavePart 40 [vA 104, vA x1, vA x2, vI x3, vI x4, vI (w32 (x5 + 1))] [] σ3 Q)))) : L (d + 1) M_Wo_leavePart 40 [vA 104, vA x1, vA x2, vI x3, vI x4, vI x5] [] σ Q :=
  L_iload dWo_leavePart_40 rfl (L_iload_n dWo_leavePart_42 rfl (L_icmp_ge dWo_leavePart_43 (by decide) ⟨fun c1 => L_iinc dWo_leavePart_95 rfl (by decide) (L_goto dWo_leavePart_98 (by decide) (L_weak [true, true, true, true, true, false] (h.1 c1))), fun c1 => L_aload_n dWo_leavePart_46 rfl (L_aload_n dWo_leavePart_47 rfl (L_getF (b := x2 + 1) fw_Wo_72 rfl rfl (by omega) dWo_leavePart_48 ⟨(h.2 c1).1, L_aload_n dWo_leavePart_51 rfl (L_getF (b := 113) fw_Wo_37 rfl rfl (by decide) dWo_leavePart_52 ⟨ob_104, L_iload dWo_leavePart_55 rfl (L_ialoadL kd_113 dWo_leavePart_57 ⟨(h.2 c1).2.1, L_iconst dWo_leavePart_58 in_5 (L_imul dWo_leavePart_59 (L_aload_n dWo_leavePart_60 rfl (L_getF (b := x2 + 1) fw_Wo_72 rfl rfl (by omega) dWo_leavePart_61 ⟨(h.2 c1).2.2.1, L_aload_n dWo_leavePart_64 rfl (L_getF (b := 113) fw_Wo_37 rfl rfl (by decide) dWo_leavePart_65 ⟨ob_104, L_iload dWo_leavePart_68 rfl (L_ialoadL kd_113 dWo_leavePart_70 ⟨(h.2 c1).2.2.2.1, L_iconst dWo_leavePart_71 in_5 (L_imul dWo_leavePart_72 (L_aload_n dWo_leavePart_73 rfl (L_getF (b := 112) fw_Wo_34 rfl rfl (by decide) dWo_leavePart_74 ⟨ob_104, L_callVV rfl cv_Wd_bracketInto (As := [vA (x2 + 1), vI (w32 ((σ 113 x4) * 5)), vA (x2 + 1), vI (w32 ((σ 113 x5) * 5)), vA 112]) rfl (tk6 12 rfl rfl) rfl (Nat.le_of_ble_eq_true rfl) dWo_leavePart_77 ⟨(h.2 c1).2.2.2.2.1, Tri.mono ((h.2 c1).2.2.2.2.2) (fun r2 σ2 q2 => L_aload_n dWo_leavePart_80 rfl (L_iload dWo_leavePart_81 rfl (L_iload dWo_leavePart_83 rfl (L_iload_n dWo_leavePart_85 rfl (L_callVV rfl cv_Wo_tellByKept (As := [vI x4, vI x5, vI x3]) rfl (tk6 88 rfl rfl) rfl (Nat.le_of_ble_eq_true rfl) dWo_leavePart_86 ⟨ob_104, Tri.mono q2 (fun r3 σ3 q3 => L_iinc dWo_leavePart_89 rfl (by decide) (L_goto dWo_leavePart_92 (by decide) q3))⟩)))))⟩⟩)))⟩)⟩)⟩)))⟩)⟩)⟩))⟩))
theorem dWo_noteKept_0 : decode prog_11_method_15_code 0 = .ok (.iconst 0, 1) := by decide +kernel
theorem dWo_noteKept_1 : decode prog_11_method_15_code 1 = .ok (.istore_n 3, 1) := by decide +kernel
theorem dWo_noteKept_2 : decode prog_11_method_15_code 2 = .ok (.iconst 0, 1) := by decide +kernel
theorem dWo_noteKept_3 : decode prog_11_method_15_code 3 = .ok (.istore 4, 2) := by decide +kernel
theorem dWo_noteKept_5 : decode prog_11_method_15_code 5 = .ok (.iload 4, 2) := by decide +kernel
theorem dWo_noteKept_7 : decode prog_11_method_15_code 7 = .ok (.iload_n 1, 1) := by decide +kernel
theorem dWo_noteKept_8 : decode prog_11_method_15_code 8 = .ok (.if_icmp .ge 29, 3) := by decide +kernel
theorem dWo_noteKept_11 : decode prog_11_method_15_code 11 = .ok (.iload_n 2, 1) := by decide +kernel
theorem dWo_noteKept_12 : decode prog_11_method_15_code 12 = .ok (.iload 4, 2) := by decide +kernel
theorem dWo_noteKept_14 : decode prog_11_method_15_code 14 = .ok (.ishr, 1) := by decide +kernel
theorem dWo_noteKept_15 : decode prog_11_method_15_code 15 = .ok (.iconst 1, 1) := by decide +kernel
theorem dWo_noteKept_16 : decode prog_11_method_15_code 16 = .ok (.iand, 1) := by decide +kernel
theorem dWo_noteKept_17 : decode prog_11_method_15_code 17 = .ok (.ifCond .eq 14, 3) := by decide +kernel
theorem dWo_noteKept_20 : decode prog_11_method_15_code 20 = .ok (.aload_n 0, 1) := by decide +kernel
theorem dWo_noteKept_21 : decode prog_11_method_15_code 21 = .ok (.getfield 37, 3) := by decide +kernel
theorem dWo_noteKept_24 : decode prog_11_method_15_code 24 = .ok (.iload_n 3, 1) := by decide +kernel
theorem dWo_noteKept_25 : decode prog_11_method_15_code 25 = .ok (.iload 4, 2) := by decide +kernel
theorem dWo_noteKept_27 : decode prog_11_method_15_code 27 = .ok (.iastore, 1) := by decide +kernel
theorem dWo_noteKept_28 : decode prog_11_method_15_code 28 = .ok (.iinc 3 1, 3) := by decide +kernel
theorem dWo_noteKept_31 : decode prog_11_method_15_code 31 = .ok (.iinc 4 1, 3) := by decide +kernel
theorem dWo_noteKept_34 : decode prog_11_method_15_code 34 = .ok (.goto (-29), 3) := by decide +kernel
theorem dWo_noteKept_37 : decode prog_11_method_15_code 37 = .ok (.iload_n 3, 1) := by decide +kernel
theorem dWo_noteKept_38 : decode prog_11_method_15_code 38 = .ok (.ireturn, 1) := by decide +kernel
theorem t_Wo_noteKept {d : Nat} {x1 x2 : Int} {σ : SG} {Q : Int → SG → Prop} (h : inI x1 → inI x2 → (L (d + 1) M_Wo_noteKept 5 [vA 104, vI x1, vI x2, vI 0, vI 0] [] σ Q)) : Tri (d + 1) M_Wo_noteKept [vA 104, vI x1, vI x2] σ Q :=
  Tri_intro rfl (Nat.le_of_ble_eq_true rfl) (ls := [vA 104, vI x1, vI x2, vU, vU]) rfl (fun hok => L_iconst dWo_noteKept_0 in_0 (L_istore_n dWo_noteKept_1 (by decide) (L_iconst dWo_noteKept_2 in_0 (L_istore dWo_noteKept_3 (by decide) ((h (hok _ (List.mem_of_getElem? (i := 1) rfl)) (hok _ (List.mem_of_getElem? (i := 2) rfl))))))))
theorem s_Wo_noteKept_5 {d : Nat} {x1 x2 x3 x4 : Int} {σ : SG} {Q : Int → SG → Prop} (h : (x1 ≤ x4 → Q x3 σ) ∧ (x4 < x1 → (and32 (shr32 x2 x4) 1 = 0 → L (d + 1) M_Wo_noteKept 5 [vA 104, vI x1, vI x2, vI x3, vI (w32 (x4 + 1))] [] σ Q) ∧ (and32 (shr32 x2 x4) 1 ≠ 0 → (0 ≤ x3 ∧ x3 < 5) ∧ (∀ σ3, σ3 = up σ 113 x3 x4 → L (d + 1) M_Wo_noteKept 5 [vA 104, vI x1, vI x2, vI (w32 (x3 + 1)), vI (w32 (x4 + 1))] [] σ3 Q)))) : L (d + 1) M_Wo_noteKept 5 [vA 104, vI x1, vI x2, vI x3, vI x4] [] σ Q :=
  L_iload dWo_noteKept_5 rfl (L_iload_n dWo_noteKept_7 rfl (L_icmp_ge dWo_noteKept_8 (by decide) ⟨fun c1 => L_iload_n dWo_noteKept_37 rfl (L_ireturn rfl dWo_noteKept_38 (h.1 c1)), fun c1 => L_iload_n dWo_noteKept_11 rfl (L_iload dWo_noteKept_12 rfl (L_ishr dWo_noteKept_14 (L_iconst dWo_noteKept_15 in_1 (L_iand dWo_noteKept_16 (L_if_eq dWo_noteKept_17 (by decide) ⟨fun c2 => L_iinc dWo_noteKept_31 rfl (by decide) (L_goto dWo_noteKept_34 (by decide) ((h.2 c1).1 c2)), fun c2 => L_aload_n dWo_noteKept_20 rfl (L_getF (b := 113) fw_Wo_37 rfl rfl (by decide) dWo_noteKept_21 ⟨ob_104, L_iload_n dWo_noteKept_24 rfl (L_iload dWo_noteKept_25 rfl (L_iastoreL (by decide) kd_113 dWo_noteKept_27 ⟨((h.2 c1).2 c2).1, fun σ3 e3 => L_iinc dWo_noteKept_28 rfl (by decide) (L_iinc dWo_noteKept_31 rfl (by decide) (L_goto dWo_noteKept_34 (by decide) (((h.2 c1).2 c2).2 σ3 e3)))⟩))⟩)⟩)))))⟩))
theorem dWo_tellByKept_0 : decode prog_11_method_16_code 0 = .ok (.iconst 0, 1) := by decide +kernel
theorem dWo_tellByKept_1 : decode prog_11_method_16_code 1 = .ok (.istore 4, 2) := by decide +kernel
theorem dWo_tellByKept_3 : decode prog_11_method_16_code 3 = .ok (.iload 4, 2) := by decide +kernel
theorem dWo_tellByKept_5 : decode prog_11_method_16_code 5 = .ok (.iload_n 3, 1) := by decide +kernel
theorem dWo_tellByKept_6 : decode prog_11_method_16_code 6 = .ok (.if_icmp .ge 32, 3) := by decide +kernel
theorem dWo_tellByKept_9 : decode prog_11_method_16_code 9 = .ok (.aload_n 0, 1) := by decide +kernel
theorem dWo_tellByKept_10 : decode prog_11_method_16_code 10 = .ok (.getfield 12, 3) := by decide +kernel
theorem dWo_tellByKept_13 : decode prog_11_method_16_code 13 = .ok (.iload_n 1, 1) := by decide +kernel
theorem dWo_tellByKept_14 : decode prog_11_method_16_code 14 = .ok (.iload_n 2, 1) := by decide +kernel
theorem dWo_tellByKept_15 : decode prog_11_method_16_code 15 = .ok (.iload 4, 2) := by decide +kernel
theorem dWo_tellByKept_17 : decode prog_11_method_16_code 17 = .ok (.aload_n 0, 1) := by decide +kernel
theorem dWo_tellByKept_18 : decode prog_11_method_16_code 18 = .ok (.getfield 34, 3) := by decide +kernel
theorem dWo_tellByKept_21 : decode prog_11_method_16_code 21 = .ok (.aload_n 0, 1) := by decide +kernel
theorem dWo_tellByKept_22 : decode prog_11_method_16_code 22 = .ok (.getfield 37, 3) := by decide +kernel
theorem dWo_tellByKept_25 : decode prog_11_method_16_code 25 = .ok (.iload 4, 2) := by decide +kernel
theorem dWo_tellByKept_27 : decode prog_11_method_16_code 27 = .ok (.iaload, 1) := by decide +kernel
theorem dWo_tellByKept_28 : decode prog_11_method_16_code 28 = .ok (.iaload, 1) := by decide +kernel
theorem dWo_tellByKept_29 : decode prog_11_method_16_code 29 = .ok (.invokevirtual 78, 3) := by decide +kernel
theorem dWo_tellByKept_32 : decode prog_11_method_16_code 32 = .ok (.iinc 4 1, 3) := by decide +kernel
theorem dWo_tellByKept_35 : decode prog_11_method_16_code 35 = .ok (.goto (-32), 3) := by decide +kernel
theorem dWo_tellByKept_38 : decode prog_11_method_16_code 38 = .ok (.return_, 1) := by decide +kernel
theorem t_Wo_tellByKept {d : Nat} {x1 x2 x3 : Int} {σ : SG} {Q : Int → SG → Prop} (h : inI x1 → inI x2 → inI x3 → (L (d + 1) M_Wo_tellByKept 3 [vA 104, vI x1, vI x2, vI x3, vI 0] [] σ Q)) : Tri (d + 1) M_Wo_tellByKept [vA 104, vI x1, vI x2, vI x3] σ Q :=
  Tri_intro rfl (Nat.le_of_ble_eq_true rfl) (ls := [vA 104, vI x1, vI x2, vI x3, vU]) rfl (fun hok => L_iconst dWo_tellByKept_0 in_0 (L_istore dWo_tellByKept_1 (by decide) ((h (hok _ (List.mem_of_getElem? (i := 1) rfl)) (hok _ (List.mem_of_getElem? (i := 2) rfl)) (hok _ (List.mem_of_getElem? (i := 3) rfl))))))
theorem s_Wo_tellByKept_3 {d : Nat} {x1 x2 x3 x4 : Int} {σ : SG} {Q : Int → SG → Prop} (h : (x3 ≤ x4 → Q 0 σ) ∧ (x4 < x3 → (0 ≤ x4 ∧ x4 < 5) ∧ (0 ≤ σ 113 x4 ∧ σ 113 x4 < 5) ∧ Tri d M_Wd_setCell [vA 105, vI x1, vI x2, vI x4, vI (σ 112 (σ 113 x4))] σ (fun r2 σ2 => L (d + 1) M_Wo_tellByKept 3 [vA 104, vI x1, vI x2, vI x3, vI (w32 (x4 + 1))] [] σ2 Q))) : L (d + 1) M_Wo_tellByKept 3 [vA 104, vI x1, vI x2, vI x3, vI x4] [] σ Q :=
  L_iload dWo_tellByKept_3 rfl (L_iload_n dWo_tellByKept_5 rfl (L_icmp_ge dWo_tellByKept_6 (by decide) ⟨fun c1 => L_return rfl dWo_tellByKept_38 (h.1 c1), fun c1 => L_aload_n dWo_tellByKept_9 rfl (L_getF (b := 105) fw_Wo_12 rfl rfl (by decide) dWo_tellByKept_10 ⟨ob_104, L_iload_n dWo_tellByKept_13 rfl (L_iload_n dWo_tellByKept_14 rfl (L_iload dWo_tellByKept_15 rfl (L_aload_n dWo_tellByKept_17 rfl (L_getF (b := 112) fw_Wo_34 rfl rfl (by decide) dWo_tellByKept_18 ⟨ob_104, L_aload_n dWo_tellByKept_21 rfl (L_getF (b := 113) fw_Wo_37 rfl rfl (by decide) dWo_tellByKept_22 ⟨ob_104, L_iload dWo_tellByKept_25 rfl (L_ialoadL kd_113 dWo_tellByKept_27 ⟨(h.2 c1).1, L_ialoadL kd_112 dWo_tellByKept_28 ⟨(h.2 c1).2.1, L_callVV rfl cv_Wd_setCell (As := [vI x1, vI x2, vI x4, vI (σ 112 (σ 113 x4))]) rfl (tk6 17 rfl rfl) rfl (Nat.le_of_ble_eq_true rfl) dWo_tellByKept_29 ⟨ob_105, Tri.mono ((h.2 c1).2.2) (fun r2 σ2 q2 => L_iinc dWo_tellByKept_32 rfl (by decide) (L_goto dWo_tellByKept_35 (by decide) q2))⟩⟩⟩)⟩)⟩))))⟩)⟩))
theorem dSc_copyFrom_0 : decode prog_8_method_2_code 0 = .ok (.aload_n 0, 1) := by decide +kernel
theorem dSc_copyFrom_1 : decode prog_8_method_2_code 1 = .ok (.aload_n 1, 1) := by decide +kernel
theorem dSc_copyFrom_2 : decode prog_8_method_2_code 2 = .ok (.getfield 18, 3) := by decide +kernel
theorem dSc_copyFrom_5 : decode prog_8_method_2_code 5 = .ok (.putfield 18, 3) := by decide +kernel
theorem dSc_copyFrom_8 : decode prog_8_method_2_code 8 = .ok (.aload_n 0, 1) := by decide +kernel
theorem dSc_copyFrom_9 : decode prog_8_method_2_code 9 = .ok (.aload_n 1, 1) := by decide +kernel
theorem dSc_copyFrom_10 : decode prog_8_method_2_code 10 = .ok (.getfield 22, 3) := by decide +kernel
theorem dSc_copyFrom_13 : decode prog_8_method_2_code 13 = .ok (.putfield 22, 3) := by decide +kernel
theorem dSc_copyFrom_16 : decode prog_8_method_2_code 16 = .ok (.aload_n 0, 1) := by decide +kernel
theorem dSc_copyFrom_17 : decode prog_8_method_2_code 17 = .ok (.aload_n 1, 1) := by decide +kernel
theorem dSc_copyFrom_18 : decode prog_8_method_2_code 18 = .ok (.getfield 26, 3) := by decide +kernel
theorem dSc_copyFrom_21 : decode prog_8_method_2_code 21 = .ok (.putfield 26, 3) := by decide +kernel
theorem dSc_copyFrom_24 : decode prog_8_method_2_code 24 = .ok (.aload_n 1, 1) := by decide +kernel
theorem dSc_copyFrom_25 : decode prog_8_method_2_code 25 = .ok (.getfield 11, 3) := by decide +kernel
theorem dSc_copyFrom_28 : decode prog_8_method_2_code 28 = .ok (.iconst 0, 1) := by decide +kernel
theorem dSc_copyFrom_29 : decode prog_8_method_2_code 29 = .ok (.aload_n 0, 1) := by decide +kernel
theorem dSc_copyFrom_30 : decode prog_8_method_2_code 30 = .ok (.getfield 11, 3) := by decide +kernel
theorem dSc_copyFrom_33 : decode prog_8_method_2_code 33 = .ok (.iconst 0, 1) := by decide +kernel
theorem dSc_copyFrom_34 : decode prog_8_method_2_code 34 = .ok (.aload_n 0, 1) := by decide +kernel
theorem dSc_copyFrom_35 : decode prog_8_method_2_code 35 = .ok (.getfield 11, 3) := by decide +kernel
theorem dSc_copyFrom_38 : decode prog_8_method_2_code 38 = .ok (.arraylength, 1) := by decide +kernel
theorem dSc_copyFrom_39 : decode prog_8_method_2_code 39 = .ok (.invokestatic 29, 3) := by decide +kernel
theorem dSc_copyFrom_42 : decode prog_8_method_2_code 42 = .ok (.return_, 1) := by decide +kernel
theorem t_Sc_copyFrom {d : Nat} {x0 x1 : Int} {σ : SG} {Q : Int → SG → Prop} (h : obok 6 x1 ∧ ((σ x1 0 = 0 ∨ σ x1 0 = 1) ∧ obok 6 x0 ∧ ∀ σ1, σ1 = up σ x0 0 (σ x1 0) → obok 6 x1 ∧ (obok 6 x0 ∧ ∀ σ2, σ2 = up σ1 x0 1 (σ1 x1 1) → obok 6 x1 ∧ (obok 6 x0 ∧ ∀ σ3, σ3 = up σ2 x0 2 (σ2 x1 2) → obok 6 x1 ∧ obok 6 x0 ∧ obok 6 x0 ∧ (kd (x0 + 1)).1 = 100 ∧ ((0 : Int) ≤ x0 + 1 ∧ (kd (x0 + 1)).1 = 100 ∧ (kd (x1 + 1)).1 = 100 ∧ (0 : Int) ≤ 0 ∧ (0 : Int) ≤ 0 ∧ (0 : Int) ≤ ((kd (x0 + 1)).2 : Int) ∧ 0 + ((kd (x0 + 1)).2 : Int) ≤ ((kd (x1 + 1)).2 : Int) ∧ 0 + ((kd (x0 + 1)).2 : Int) ≤ ((kd (x0 + 1)).2 : Int)) ∧ (∀ σ4, σ4 = cpy σ3 (x1 + 1) 0 (x0 + 1) 0 ((kd (x0 + 1)).2 : Int) → Q 0 σ4))))) : Tri (d + 1) M_Sc_copyFrom [vA x0, vA x1] σ Q :=
  Tri_intro rfl (Nat.le_of_ble_eq_true rfl) (ls := [vA x0, vA x1]) rfl (fun hok => L_aload_n dSc_copyFrom_0 rfl (L_aload_n dSc_copyFrom_1 rfl (L_getf fw_Sc_18 rfl dSc_copyFrom_2 ⟨h.1, L_putfN fp_Sc_18 rfl rfl (fit_z h.2.1) dSc_copyFrom_5 ⟨h.2.2.1, fun σ1 e1 => L_aload_n dSc_copyFrom_8 rfl (L_aload_n dSc_copyFrom_9 rfl (L_getf fw_Sc_22 rfl dSc_copyFrom_10 ⟨(h.2.2.2 σ1 e1).1, L_putfN fp_Sc_22 rfl rfl (fun _ => ⟨rfl, rfl⟩) dSc_copyFrom_13 ⟨(h.2.2.2 σ1 e1).2.1, fun σ2 e2 => L_aload_n dSc_copyFrom_16 rfl (L_aload_n dSc_copyFrom_17 rfl (L_getf fw_Sc_26 rfl dSc_copyFrom_18 ⟨((h.2.2.2 σ1 e1).2.2 σ2 e2).1, L_putfN fp_Sc_26 rfl rfl (fun _ => ⟨rfl, rfl⟩) dSc_copyFrom_21 ⟨((h.2.2.2 σ1 e1).2.2 σ2 e2).2.1, fun σ3 e3 => L_aload_n dSc_copyFrom_24 rfl (L_getF (b := x1 + 1) fw_Sc_11 rfl rfl (by omega) dSc_copyFrom_25 ⟨(((h.2.2.2 σ1 e1).2.2 σ2 e2).2.2 σ3 e3).1, L_iconst dSc_copyFrom_28 in_0 (L_aload_n dSc_copyFrom_29 rfl (L_getF (b := x0 + 1) fw_Sc_11 rfl rfl (by omega) dSc_copyFrom_30 ⟨(((h.2.2.2 σ1 e1).2.2 σ2 e2).2.2 σ3 e3).2.1, L_iconst dSc_copyFrom_33 in_0 (L_aload_n dSc_copyFrom_34 rfl (L_getF (b := x0 + 1) fw_Sc_11 rfl rfl (by omega) dSc_copyFrom_35 ⟨(((h.2.2.2 σ1 e1).2.2 σ2 e2).2.2 σ3 e3).2.2.1, L_alenU dSc_copyFrom_38 ⟨(((h.2.2.2 σ1 e1).2.2 σ2 e2).2.2 σ3 e3).2.2.2.1, L_copyIN (tk4 32 rfl rfl) (Nat.le_of_ble_eq_true rfl) dSc_copyFrom_39 ⟨(((h.2.2.2 σ1 e1).2.2 σ2 e2).2.2 σ3 e3).2.2.2.2.1, fun σ4 e4 => L_return rfl dSc_copyFrom_42 ((((h.2.2.2 σ1 e1).2.2 σ2 e2).2.2 σ3 e3).2.2.2.2.2 σ4 e4)⟩⟩⟩))⟩))⟩)⟩⟩))⟩⟩))⟩⟩)))
theorem dSc_get_0 : decode prog_8_method_3_code 0 = .ok (.iload_n 1, 1) := by decide +kernel
theorem dSc_get_1 : decode prog_8_method_3_code 1 = .ok (.ifCond .lt 33, 3) := by decide +kernel
theorem dSc_get_4 : decode prog_8_method_3_code 4 = .ok (.iload_n 1, 1) := by decide +kernel
theorem dSc_get_5 : decode prog_8_method_3_code 5 = .ok (.bipush 60, 2) := by decide +kernel
theorem dSc_get_7 : decode prog_8_method_3_code 7 = .ok (.if_icmp .ge 27, 3) := by decide +kernel
theorem dSc_get_10 : decode prog_8_method_3_code 10 = .ok (.iload_n 2, 1) := by decide +kernel
theorem dSc_get_11 : decode prog_8_method_3_code 11 = .ok (.ifCond .lt 23, 3) := by decide +kernel
theorem dSc_get_14 : decode prog_8_method_3_code 14 = .ok (.iload_n 2, 1) := by decide +kernel
theorem dSc_get_15 : decode prog_8_method_3_code 15 = .ok (.bipush 6, 2) := by decide +kernel
theorem dSc_get_17 : decode prog_8_method_3_code 17 = .ok (.if_icmp .ge 17, 3) := by decide +kernel
theorem dSc_get_20 : decode prog_8_method_3_code 20 = .ok (.aload_n 0, 1) := by decide +kernel
theorem dSc_get_21 : decode prog_8_method_3_code 21 = .ok (.getfield 11, 3) := by decide +kernel
theorem dSc_get_24 : decode prog_8_method_3_code 24 = .ok (.iload_n 1, 1) := by decide +kernel
theorem dSc_get_25 : decode prog_8_method_3_code 25 = .ok (.bipush 6, 2) := by decide +kernel
theorem dSc_get_27 : decode prog_8_method_3_code 27 = .ok (.imul, 1) := by decide +kernel
theorem dSc_get_28 : decode prog_8_method_3_code 28 = .ok (.iload_n 2, 1) := by decide +kernel
theorem dSc_get_29 : decode prog_8_method_3_code 29 = .ok (.iadd, 1) := by decide +kernel
theorem dSc_get_30 : decode prog_8_method_3_code 30 = .ok (.iaload, 1) := by decide +kernel
theorem dSc_get_31 : decode prog_8_method_3_code 31 = .ok (.goto 4, 3) := by decide +kernel
theorem dSc_get_34 : decode prog_8_method_3_code 34 = .ok (.iconst 0, 1) := by decide +kernel
theorem dSc_get_35 : decode prog_8_method_3_code 35 = .ok (.ireturn, 1) := by decide +kernel
theorem t_Sc_get {d : Nat} {x0 x1 x2 : Int} {σ : SG} {Q : Int → SG → Prop} (h : inI x1 → inI x2 → ((x1 < 0 → Q 0 σ) ∧ (0 ≤ x1 → (60 ≤ x1 → Q 0 σ) ∧ (x1 < 60 → (x2 < 0 → Q 0 σ) ∧ (0 ≤ x2 → (6 ≤ x2 → Q 0 σ) ∧ (x2 < 6 → obok 6 x0 ∧ rdok 100 (x0 + 1) (w32 ((w32 (x1 * 6)) + x2)) ∧ Q (σ (x0 + 1) (w32 ((w32 (x1 * 6)) + x2))) σ)))))) : Tri (d + 1) M_Sc_get [vA x0, vI x1, vI x2] σ Q :=
  Tri_intro rfl (Nat.le_of_ble_eq_true rfl) (ls := [vA x0, vI x1, vI x2]) rfl (fun hok => L_iload_n dSc_get_0 rfl (L_if_lt dSc_get_1 (by decide) ⟨fun c1 => L_iconst dSc_get_34 in_0 (L_ireturn rfl dSc_get_35 ((h (hok _ (List.mem_of_getElem? (i := 1) rfl)) (hok _ (List.mem_of_getElem? (i := 2) rfl))).1 c1)), fun c1 => L_iload_n dSc_get_4 rfl (L_bipush dSc_get_5 bp_60 in_60 (L_icmp_ge dSc_get_7 (by decide) ⟨fun c2 => L_iconst dSc_get_34 in_0 (L_ireturn rfl dSc_get_35 (((h (hok _ (List.mem_of_getElem? (i := 1) rfl)) (hok _ (List.mem_of_getElem? (i := 2) rfl))).2 c1).1 c2)), fun c2 => L_iload_n dSc_get_10 rfl (L_if_lt dSc_get_11 (by decide) ⟨fun c3 => L_iconst dSc_get_34 in_0 (L_ireturn rfl dSc_get_35 ((((h (hok _ (List.mem_of_getElem? (i := 1) rfl)) (hok _ (List.mem_of_getElem? (i := 2) rfl))).2 c1).2 c2).1 c3)), fun c3 => L_iload_n dSc_get_14 rfl (L_bipush dSc_get_15 bp_6 in_6 (L_icmp_ge dSc_get_17 (by decide) ⟨fun c4 => L_iconst dSc_get_34 in_0 (L_ireturn rfl dSc_get_35 (((((h (hok _ (List.mem_of_getElem? (i := 1) rfl)) (hok _ (List.mem_of_getElem? (i := 2) rfl))).2 c1).2 c2).2 c3).1 c4)), fun c4 => L_aload_n dSc_get_20 rfl (L_getF (b := x0 + 1) fw_Sc_11 rfl rfl (by omega) dSc_get_21 ⟨(((((h (hok _ (List.mem_of_getElem? (i := 1) rfl)) (hok _ (List.mem_of_getElem? (i := 2) rfl))).2 c1).2 c2).2 c3).2 c4).1, L_iload_n dSc_get_24 rfl (L_bipush dSc_get_25 bp_6 in_6 (L_imul dSc_get_27 (L_iload_n dSc_get_28 rfl (L_iadd dSc_get_29 (L_iaload dSc_get_30 ⟨(((((h (hok _ (List.mem_of_getElem? (i := 1) rfl)) (hok _ (List.mem_of_getElem? (i := 2) rfl))).2 c1).2 c2).2 c3).2 c4).2.1, L_goto dSc_get_31 (by decide) (L_ireturn rfl dSc_get_35 ((((((h (hok _ (List.mem_of_getElem? (i := 1) rfl)) (hok _ (List.mem_of_getElem? (i := 2) rfl))).2 c1).2 c2).2 c3).2 c4).2.2))⟩)))))⟩)⟩))⟩)⟩))⟩))
theorem dSc_set_0 : decode prog_8_method_4_code 0 = .ok (.iload_n 1, 1) := by decide +kernel
theorem dSc_set_1 : decode prog_8_method_4_code 1 = .ok (.ifCond .lt 31, 3) := by decide +kernel
theorem dSc_set_4 : decode prog_8_method_4_code 4 = .ok (.iload_n 1, 1) := by decide +kernel
theorem dSc_set_5 : decode prog_8_method_4_code 5 = .ok (.bipush 60, 2) := by decide +kernel
theorem dSc_set_7 : decode prog_8_method_4_code 7 = .ok (.if_icmp .ge 25, 3) := by decide +kernel
theorem dSc_set_10 : decode prog_8_method_4_code 10 = .ok (.iload_n 2, 1) := by decide +kernel
theorem dSc_set_11 : decode prog_8_method_4_code 11 = .ok (.ifCond .lt 21, 3) := by decide +kernel
theorem dSc_set_14 : decode prog_8_method_4_code 14 = .ok (.iload_n 2, 1) := by decide +kernel
theorem dSc_set_15 : decode prog_8_method_4_code 15 = .ok (.bipush 6, 2) := by decide +kernel
theorem dSc_set_17 : decode prog_8_method_4_code 17 = .ok (.if_icmp .ge 15, 3) := by decide +kernel
theorem dSc_set_20 : decode prog_8_method_4_code 20 = .ok (.aload_n 0, 1) := by decide +kernel
theorem dSc_set_21 : decode prog_8_method_4_code 21 = .ok (.getfield 11, 3) := by decide +kernel
theorem dSc_set_24 : decode prog_8_method_4_code 24 = .ok (.iload_n 1, 1) := by decide +kernel
theorem dSc_set_25 : decode prog_8_method_4_code 25 = .ok (.bipush 6, 2) := by decide +kernel
theorem dSc_set_27 : decode prog_8_method_4_code 27 = .ok (.imul, 1) := by decide +kernel
theorem dSc_set_28 : decode prog_8_method_4_code 28 = .ok (.iload_n 2, 1) := by decide +kernel
theorem dSc_set_29 : decode prog_8_method_4_code 29 = .ok (.iadd, 1) := by decide +kernel
theorem dSc_set_30 : decode prog_8_method_4_code 30 = .ok (.iload_n 3, 1) := by decide +kernel
theorem dSc_set_31 : decode prog_8_method_4_code 31 = .ok (.iastore, 1) := by decide +kernel
theorem dSc_set_32 : decode prog_8_method_4_code 32 = .ok (.return_, 1) := by decide +kernel
theorem t_Sc_set {d : Nat} {x0 x1 x2 x3 : Int} {σ : SG} {Q : Int → SG → Prop} (h : inI x1 → inI x2 → inI x3 → ((x1 < 0 → Q 0 σ) ∧ (0 ≤ x1 → (60 ≤ x1 → Q 0 σ) ∧ (x1 < 60 → (x2 < 0 → Q 0 σ) ∧ (0 ≤ x2 → (6 ≤ x2 → Q 0 σ) ∧ (x2 < 6 → obok 6 x0 ∧ wrok 100 (x0 + 1) (w32 ((w32 (x1 * 6)) + x2)) ∧ (∀ σ5, σ5 = up σ (x0 + 1) (w32 ((w32 (x1 * 6)) + x2)) x3 → Q 0 σ5))))))) : Tri (d + 1) M_Sc_set [vA x0, vI x1, vI x2, vI x3] σ Q :=
  Tri_intro rfl (Nat.le_of_ble_eq_true rfl) (ls := [vA x0, vI x1, vI x2, vI x3]) rfl (fun hok => L_iload_n dSc_set_0 rfl (L_if_lt dSc_set_1 (by decide) ⟨fun c1 => L_return rfl dSc_set_32 ((h (hok _ (List.mem_of_getElem? (i := 1) rfl)) (hok _ (List.mem_of_getElem? (i := 2) rfl)) (hok _ (List.mem_of_getElem? (i := 3) rfl))).1 c1), fun c1 => L_iload_n dSc_set_4 rfl (L_bipush dSc_set_5 bp_60 in_60 (L_icmp_ge dSc_set_7 (by decide) ⟨fun c2 => L_return rfl dSc_set_32 (((h (hok _ (List.mem_of_getElem? (i := 1) rfl)) (hok _ (List.mem_of_getElem? (i := 2) rfl)) (hok _ (List.mem_of_getElem? (i := 3) rfl))).2 c1).1 c2), fun c2 => L_iload_n dSc_set_10 rfl (L_if_lt dSc_set_11 (by decide) ⟨fun c3 => L_return rfl dSc_set_32 ((((h (hok _ (List.mem_of_getElem? (i := 1) rfl)) (hok _ (List.mem_of_getElem? (i := 2) rfl)) (hok _ (List.mem_of_getElem? (i := 3) rfl))).2 c1).2 c2).1 c3), fun c3 => L_iload_n dSc_set_14 rfl (L_bipush dSc_set_15 bp_6 in_6 (L_icmp_ge dSc_set_17 (by decide) ⟨fun c4 => L_return rfl dSc_set_32 (((((h (hok _ (List.mem_of_getElem? (i := 1) rfl)) (hok _ (List.mem_of_getElem? (i := 2) rfl)) (hok _ (List.mem_of_getElem? (i := 3) rfl))).2 c1).2 c2).2 c3).1 c4), fun c4 => L_aload_n dSc_set_20 rfl (L_getF (b := x0 + 1) fw_Sc_11 rfl rfl (by omega) dSc_set_21 ⟨(((((h (hok _ (List.mem_of_getElem? (i := 1) rfl)) (hok _ (List.mem_of_getElem? (i := 2) rfl)) (hok _ (List.mem_of_getElem? (i := 3) rfl))).2 c1).2 c2).2 c3).2 c4).1, L_iload_n dSc_set_24 rfl (L_bipush dSc_set_25 bp_6 in_6 (L_imul dSc_set_27 (L_iload_n dSc_set_28 rfl (L_iadd dSc_set_29 (L_iload_n dSc_set_30 rfl (L_iastoreN dSc_set_31 ⟨(((((h (hok _ (List.mem_of_getElem? (i := 1) rfl)) (hok _ (List.mem_of_getElem? (i := 2) rfl)) (hok _ (List.mem_of_getElem? (i := 3) rfl))).2 c1).2 c2).2 c3).2 c4).2.1, fun σ5 e5 => L_return rfl dSc_set_32 ((((((h (hok _ (List.mem_of_getElem? (i := 1) rfl)) (hok _ (List.mem_of_getElem? (i := 2) rfl)) (hok _ (List.mem_of_getElem? (i := 3) rfl))).2 c1).2 c2).2 c3).2 c4).2.2 σ5 e5)⟩))))))⟩)⟩))⟩)⟩))⟩))
theorem dSc_readFrom_0 : decode prog_8_method_5_code 0 = .ok (.aload_n 0, 1) := by decide +kernel
theorem dSc_readFrom_1 : decode prog_8_method_5_code 1 = .ok (.iconst 1, 1) := by decide +kernel
theorem dSc_readFrom_2 : decode prog_8_method_5_code 2 = .ok (.putfield 18, 3) := by decide +kernel
theorem dSc_readFrom_5 : decode prog_8_method_5_code 5 = .ok (.aload_n 0, 1) := by decide +kernel
theorem dSc_readFrom_6 : decode prog_8_method_5_code 6 = .ok (.iconst 0, 1) := by decide +kernel
theorem dSc_readFrom_7 : decode prog_8_method_5_code 7 = .ok (.putfield 22, 3) := by decide +kernel
theorem dSc_readFrom_10 : decode prog_8_method_5_code 10 = .ok (.aload_n 0, 1) := by decide +kernel
theorem dSc_readFrom_11 : decode prog_8_method_5_code 11 = .ok (.iconst 0, 1) := by decide +kernel
theorem dSc_readFrom_12 : decode prog_8_method_5_code 12 = .ok (.putfield 26, 3) := by decide +kernel
theorem dSc_readFrom_15 : decode prog_8_method_5_code 15 = .ok (.aload_n 0, 1) := by decide +kernel
theorem dSc_readFrom_16 : decode prog_8_method_5_code 16 = .ok (.iconst 0, 1) := by decide +kernel
theorem dSc_readFrom_17 : decode prog_8_method_5_code 17 = .ok (.putfield 35, 3) := by decide +kernel
theorem dSc_readFrom_20 : decode prog_8_method_5_code 20 = .ok (.aload_n 0, 1) := by decide +kernel
theorem dSc_readFrom_21 : decode prog_8_method_5_code 21 = .ok (.getfield 11, 3) := by decide +kernel
theorem dSc_readFrom_24 : decode prog_8_method_5_code 24 = .ok (.iconst 0, 1) := by decide +kernel
theorem dSc_readFrom_25 : decode prog_8_method_5_code 25 = .ok (.invokestatic 38, 3) := by decide +kernel
theorem dSc_readFrom_28 : decode prog_8_method_5_code 28 = .ok (.iconst 0, 1) := by decide +kernel
theorem dSc_readFrom_29 : decode prog_8_method_5_code 29 = .ok (.istore_n 2, 1) := by decide +kernel
theorem dSc_readFrom_30 : decode prog_8_method_5_code 30 = .ok (.iload_n 2, 1) := by decide +kernel
theorem dSc_readFrom_31 : decode prog_8_method_5_code 31 = .ok (.sipush 300, 3) := by decide +kernel
theorem dSc_readFrom_34 : decode prog_8_method_5_code 34 = .ok (.if_icmp .ge 45, 3) := by decide +kernel
theorem dSc_readFrom_37 : decode prog_8_method_5_code 37 = .ok (.aload_n 1, 1) := by decide +kernel
theorem dSc_readFrom_38 : decode prog_8_method_5_code 38 = .ok (.invokevirtual 44, 3) := by decide +kernel
theorem dSc_readFrom_41 : decode prog_8_method_5_code 41 = .ok (.ifCond .ne 38, 3) := by decide +kernel
theorem dSc_readFrom_44 : decode prog_8_method_5_code 44 = .ok (.aload_n 1, 1) := by decide +kernel
theorem dSc_readFrom_45 : decode prog_8_method_5_code 45 = .ok (.ldc 50, 2) := by decide +kernel
theorem dSc_readFrom_47 : decode prog_8_method_5_code 47 = .ok (.invokevirtual 52, 3) := by decide +kernel
theorem dSc_readFrom_50 : decode prog_8_method_5_code 50 = .ok (.ifCond .eq 11, 3) := by decide +kernel
theorem dSc_readFrom_53 : decode prog_8_method_5_code 53 = .ok (.aload_n 0, 1) := by decide +kernel
theorem dSc_readFrom_54 : decode prog_8_method_5_code 54 = .ok (.aload_n 1, 1) := by decide +kernel
theorem dSc_readFrom_55 : decode prog_8_method_5_code 55 = .ok (.invokevirtual 56, 3) := by decide +kernel
theorem dSc_readFrom_58 : decode prog_8_method_5_code 58 = .ok (.goto 8, 3) := by decide +kernel
theorem dSc_readFrom_61 : decode prog_8_method_5_code 61 = .ok (.aload_n 0, 1) := by decide +kernel
theorem dSc_readFrom_62 : decode prog_8_method_5_code 62 = .ok (.aload_n 1, 1) := by decide +kernel
theorem dSc_readFrom_63 : decode prog_8_method_5_code 63 = .ok (.invokevirtual 60, 3) := by decide +kernel
theorem dSc_readFrom_66 : decode prog_8_method_5_code 66 = .ok (.istore_n 3, 1) := by decide +kernel
theorem dSc_readFrom_67 : decode prog_8_method_5_code 67 = .ok (.iload_n 3, 1) := by decide +kernel
theorem dSc_readFrom_68 : decode prog_8_method_5_code 68 = .ok (.ifCond .ne 5, 3) := by decide +kernel
theorem dSc_readFrom_71 : decode prog_8_method_5_code 71 = .ok (.iconst 0, 1) := by decide +kernel
theorem dSc_readFrom_72 : decode prog_8_method_5_code 72 = .ok (.ireturn, 1) := by decide +kernel
theorem dSc_readFrom_73 : decode prog_8_method_5_code 73 = .ok (.iinc 2 1, 3) := by decide +kernel
theorem dSc_readFrom_76 : decode prog_8_method_5_code 76 = .ok (.goto (-46), 3) := by decide +kernel
theorem dSc_readFrom_79 : decode prog_8_method_5_code 79 = .ok (.aload_n 0, 1) := by decide +kernel
theorem dSc_readFrom_80 : decode prog_8_method_5_code 80 = .ok (.getfield 35, 3) := by decide +kernel
theorem dSc_readFrom_83 : decode prog_8_method_5_code 83 = .ok (.ifCond .le 11, 3) := by decide +kernel
theorem dSc_readFrom_86 : decode prog_8_method_5_code 86 = .ok (.aload_n 1, 1) := by decide +kernel
theorem dSc_readFrom_87 : decode prog_8_method_5_code 87 = .ok (.iconst 2, 1) := by decide +kernel
theorem dSc_readFrom_88 : decode prog_8_method_5_code 88 = .ok (.invokevirtual 63, 3) := by decide +kernel
theorem dSc_readFrom_91 : decode prog_8_method_5_code 91 = .ok (.goto 7, 3) := by decide +kernel
theorem dSc_readFrom_94 : decode prog_8_method_5_code 94 = .ok (.aload_n 1, 1) := by decide +kernel
theorem dSc_readFrom_95 : decode prog_8_method_5_code 95 = .ok (.invokevirtual 67, 3) := by decide +kernel
theorem dSc_readFrom_98 : decode prog_8_method_5_code 98 = .ok (.ireturn, 1) := by decide +kernel
theorem t_Sc_readFrom {d : Nat} {x0 x1 : Int} {σ : SG} {Q : Int → SG → Prop} (h : (obok 6 x0 ∧ ∀ σ1, σ1 = up σ x0 0 1 → (obok 6 x0 ∧ ∀ σ2, σ2 = up σ1 x0 1 0 → (obok 6 x0 ∧ ∀ σ3, σ3 = up σ2 x0 2 0 → (obok 6 x0 ∧ ∀ σ4, σ4 = up σ3 x0 5 0 → obok 6 x0 ∧ Tri d M_JA_fill___II_V [vA (x0 + 1), vI 0] σ4 (fun r5 σ5 => L (d + 1) M_Sc_readFrom 30 [vA x0, vA x1, vI 0, vU] [] σ5 Q)))))) : Tri (d + 1) M_Sc_readFrom [vA x0, vA x1] σ Q :=
  Tri_intro rfl (Nat.le_of_ble_eq_true rfl) (ls := [vA x0, vA x1, vU, vU]) rfl (fun hok => L_aload_n dSc_readFrom_0 rfl (L_iconst dSc_readFrom_1 in_1 (L_putfN fp_Sc_18 rfl rfl (fit_z (by decide)) dSc_readFrom_2 ⟨h.1, fun σ1 e1 => L_aload_n dSc_readFrom_5 rfl (L_iconst dSc_readFrom_6 in_0 (L_putfN fp_Sc_22 rfl rfl (fun _ => ⟨rfl, rfl⟩) dSc_readFrom_7 ⟨(h.2 σ1 e1).1, fun σ2 e2 => L_aload_n dSc_readFrom_10 rfl (L_iconst dSc_readFrom_11 in_0 (L_putfN fp_Sc_26 rfl rfl (fun _ => ⟨rfl, rfl⟩) dSc_readFrom_12 ⟨((h.2 σ1 e1).2 σ2 e2).1, fun σ3 e3 => L_aload_n dSc_readFrom_15 rfl (L_iconst dSc_readFrom_16 in_0 (L_putfN fp_Sc_35 rfl rfl (fun _ => ⟨rfl, rfl⟩) dSc_readFrom_17 ⟨(((h.2 σ1 e1).2 σ2 e2).2 σ3 e3).1, fun σ4 e4 => L_aload_n dSc_readFrom_20 rfl (L_getF (b := x0 + 1) fw_Sc_11 rfl rfl (by omega) dSc_readFrom_21 ⟨((((h.2 σ1 e1).2 σ2 e2).2 σ3 e3).2 σ4 e4).1, L_iconst dSc_readFrom_24 in_0 (L_callSV rfl cs_JA_fill___II_V (As := [vA (x0 + 1), vI 0]) rfl (tk3 220 rfl rfl) rfl (Nat.le_of_ble_eq_true rfl) dSc_readFrom_25 (Tri.mono (((((h.2 σ1 e1).2 σ2 e2).2 σ3 e3).2 σ4 e4).2) (fun r5 σ5 q5 => L_iconst dSc_readFrom_28 in_0 (L_istore_n dSc_readFrom_29 (by decide) q5))))⟩)⟩))⟩))⟩))⟩)))
theorem s_Sc_readFrom_30 {d : Nat} {x0 x1 x2 : Int} {σ : SG} {Q : Int → SG → Prop} (h : (300 ≤ x2 → obok 6 x0 ∧ (σ x0 5 ≤ 0 → obok 8 x1 ∧ Tri d M_To_praise [vA x1] σ (fun r3 σ3 => (r3 = 0 ∨ r3 = 1) ∧ Q r3 σ3)) ∧ (0 < σ x0 5 → obok 8 x1 ∧ Tri d M_To_blame [vA x1, vI 2] σ (fun r4 σ4 => (r4 = 0 ∨ r4 = 1) ∧ Q r4 σ4))) ∧ (x2 < 300 → obok 8 x1 ∧ Tri d M_To_atEnd [vA x1] σ (fun r5 σ5 => (r5 ≠ 0 → obok 6 x0 ∧ (σ5 x0 5 ≤ 0 → obok 8 x1 ∧ Tri d M_To_praise [vA x1] σ5 (fun r8 σ8 => (r8 = 0 ∨ r8 = 1) ∧ Q r8 σ8)) ∧ (0 < σ5 x0 5 → obok 8 x1 ∧ Tri d M_To_blame [vA x1, vI 2] σ5 (fun r9 σ9 => (r9 = 0 ∨ r9 = 1) ∧ Q r9 σ9))) ∧ (r5 = 0 → obok 8 x1 ∧ Tri d M_To_isWord [vA x1, vA (-10 - (6 : Int))] σ5 (fun r10 σ10 => (r10 = 0 → obok 6 x0 ∧ Tri d M_Sc_readStep [vA x0, vA x1] σ10 (fun r12 σ12 => (r12 ≠ 0 → L (d + 1) M_Sc_readFrom 30 [vA x0, vA x1, vI (w32 (x2 + 1)), vU] [] σ12 Q) ∧ (r12 = 0 → Q 0 σ12))) ∧ (r10 ≠ 0 → obok 6 x0 ∧ Tri d M_Sc_readEnd [vA x0, vA x1] σ10 (fun r14 σ14 => (r14 ≠ 0 → L (d + 1) M_Sc_readFrom 30 [vA x0, vA x1, vI (w32 (x2 + 1)), vU] [] σ14 Q) ∧ (r14 = 0 → Q 0 σ14)))))))) : L (d + 1) M_Sc_readFrom 30 [vA x0, vA x1, vI x2, vU] [] σ Q :=
  L_iload_n dSc_readFrom_30 rfl (L_sipush dSc_readFrom_31 sp_300 in_300 (L_icmp_ge dSc_readFrom_34 (by decide) ⟨fun c1 => L_aload_n dSc_readFrom_79 rfl (L_getf fw_Sc_35 rfl dSc_readFrom_80 ⟨(h.1 c1).1, L_if_le dSc_readFrom_83 (by decide) ⟨fun c2 => L_aload_n dSc_readFrom_94 rfl (L_callVI rfl cv_To_praise (As := []) rfl (tk4 27 rfl rfl) rfl (Nat.le_of_ble_eq_true rfl) dSc_readFrom_95 ⟨((h.1 c1).2.1 c2).1, Tri.mono (((h.1 c1).2.1 c2).2) (fun r3 σ3 q3 => L_zreturn rfl dSc_readFrom_98 q3)⟩), fun c2 => L_aload_n dSc_readFrom_86 rfl (L_iconst dSc_readFrom_87 in_2 (L_callVI rfl cv_To_blame (As := [vI 2]) rfl (tk3 228 rfl rfl) rfl (Nat.le_of_ble_eq_true rfl) dSc_readFrom_88 ⟨((h.1 c1).2.2 c2).1, Tri.mono (((h.1 c1).2.2 c2).2) (fun r4 σ4 q4 => L_goto dSc_readFrom_91 (by decide) (L_zreturn rfl dSc_readFrom_98 q4))⟩))⟩⟩), fun c1 => L_aload_n dSc_readFrom_37 rfl (L_callVI rfl cv_To_atEnd (As := []) rfl (tk3 221 rfl rfl) rfl (Nat.le_of_ble_eq_true rfl) dSc_readFrom_38 ⟨(h.2 c1).1, Tri.mono ((h.2 c1).2) (fun r5 σ5 q5 => L_if_ne dSc_readFrom_41 (by decide) ⟨fun c6 => L_aload_n dSc_readFrom_79 rfl (L_getf fw_Sc_35 rfl dSc_readFrom_80 ⟨(q5.1 c6).1, L_if_le dSc_readFrom_83 (by decide) ⟨fun c7 => L_aload_n dSc_readFrom_94 rfl (L_callVI rfl cv_To_praise (As := []) rfl (tk4 27 rfl rfl) rfl (Nat.le_of_ble_eq_true rfl) dSc_readFrom_95 ⟨((q5.1 c6).2.1 c7).1, Tri.mono (((q5.1 c6).2.1 c7).2) (fun r8 σ8 q8 => L_zreturn rfl dSc_readFrom_98 q8)⟩), fun c7 => L_aload_n dSc_readFrom_86 rfl (L_iconst dSc_readFrom_87 in_2 (L_callVI rfl cv_To_blame (As := [vI 2]) rfl (tk3 228 rfl rfl) rfl (Nat.le_of_ble_eq_true rfl) dSc_readFrom_88 ⟨((q5.1 c6).2.2 c7).1, Tri.mono (((q5.1 c6).2.2 c7).2) (fun r9 σ9 q9 => L_goto dSc_readFrom_91 (by decide) (L_zreturn rfl dSc_readFrom_98 q9))⟩))⟩⟩), fun c6 => L_aload_n dSc_readFrom_44 rfl (L_ldcS (k := 6) (tx := "end") (by decide +kernel) dSc_readFrom_45 (L_callVI rfl cv_To_isWord (As := [vA (-10 - (6 : Int))]) rfl (tk3 223 rfl rfl) rfl (Nat.le_of_ble_eq_true rfl) dSc_readFrom_47 ⟨(q5.2 c6).1, Tri.mono ((q5.2 c6).2) (fun r10 σ10 q10 => L_if_eq dSc_readFrom_50 (by decide) ⟨fun c11 => L_aload_n dSc_readFrom_61 rfl (L_aload_n dSc_readFrom_62 rfl (L_callVI rfl cv_Sc_readStep (As := [vA x1]) rfl (tk3 235 rfl rfl) rfl (Nat.le_of_ble_eq_true rfl) dSc_readFrom_63 ⟨(q10.1 c11).1, Tri.mono ((q10.1 c11).2) (fun r12 σ12 q12 => L_istore_n dSc_readFrom_66 (by decide) (L_iload_n dSc_readFrom_67 rfl (L_if_ne dSc_readFrom_68 (by decide) ⟨fun c13 => L_iinc dSc_readFrom_73 rfl (by decide) (L_goto dSc_readFrom_76 (by decide) (L_weak [true, true, true, false] (q12.1 c13))), fun c13 => L_iconst dSc_readFrom_71 in_0 (L_zreturn0 rfl dSc_readFrom_72 (q12.2 c13))⟩)))⟩)), fun c11 => L_aload_n dSc_readFrom_53 rfl (L_aload_n dSc_readFrom_54 rfl (L_callVI rfl cv_Sc_readEnd (As := [vA x1]) rfl (tk3 224 rfl rfl) rfl (Nat.le_of_ble_eq_true rfl) dSc_readFrom_55 ⟨(q10.2 c11).1, Tri.mono ((q10.2 c11).2) (fun r14 σ14 q14 => L_goto dSc_readFrom_58 (by decide) (L_istore_n dSc_readFrom_66 (by decide) (L_iload_n dSc_readFrom_67 rfl (L_if_ne dSc_readFrom_68 (by decide) ⟨fun c15 => L_iinc dSc_readFrom_73 rfl (by decide) (L_goto dSc_readFrom_76 (by decide) (L_weak [true, true, true, false] (q14.1 c15))), fun c15 => L_iconst dSc_readFrom_71 in_0 (L_zreturn0 rfl dSc_readFrom_72 (q14.2 c15))⟩))))⟩))⟩)⟩))⟩)⟩)⟩))
theorem dSc_readEnd_0 : decode prog_8_method_6_code 0 = .ok (.aload_n 0, 1) := by decide +kernel
theorem dSc_readEnd_1 : decode prog_8_method_6_code 1 = .ok (.getfield 35, 3) := by decide +kernel
theorem dSc_readEnd_4 : decode prog_8_method_6_code 4 = .ok (.iconst 1, 1) := by decide +kernel
theorem dSc_readEnd_5 : decode prog_8_method_6_code 5 = .ok (.if_icmp .ge 9, 3) := by decide +kernel
theorem dSc_readEnd_8 : decode prog_8_method_6_code 8 = .ok (.aload_n 1, 1) := by decide +kernel
theorem dSc_readEnd_9 : decode prog_8_method_6_code 9 = .ok (.iconst 2, 1) := by decide +kernel
theorem dSc_readEnd_10 : decode prog_8_method_6_code 10 = .ok (.invokevirtual 63, 3) := by decide +kernel
theorem dSc_readEnd_13 : decode prog_8_method_6_code 13 = .ok (.ireturn, 1) := by decide +kernel
theorem dSc_readEnd_14 : decode prog_8_method_6_code 14 = .ok (.aload_n 0, 1) := by decide +kernel
theorem dSc_readEnd_15 : decode prog_8_method_6_code 15 = .ok (.dup, 1) := by decide +kernel
theorem dSc_readEnd_16 : decode prog_8_method_6_code 16 = .ok (.getfield 35, 3) := by decide +kernel
theorem dSc_readEnd_19 : decode prog_8_method_6_code 19 = .ok (.iconst 1, 1) := by decide +kernel
theorem dSc_readEnd_20 : decode prog_8_method_6_code 20 = .ok (.isub, 1) := by decide +kernel
theorem dSc_readEnd_21 : decode prog_8_method_6_code 21 = .ok (.putfield 35, 3) := by decide +kernel
theorem dSc_readEnd_24 : decode prog_8_method_6_code 24 = .ok (.aload_n 0, 1) := by decide +kernel
theorem dSc_readEnd_25 : decode prog_8_method_6_code 25 = .ok (.aload_n 0, 1) := by decide +kernel
theorem dSc_readEnd_26 : decode prog_8_method_6_code 26 = .ok (.getfield 26, 3) := by decide +kernel
theorem dSc_readEnd_29 : decode prog_8_method_6_code 29 = .ok (.iconst 0, 1) := by decide +kernel
theorem dSc_readEnd_30 : decode prog_8_method_6_code 30 = .ok (.bipush 10, 2) := by decide +kernel
theorem dSc_readEnd_32 : decode prog_8_method_6_code 32 = .ok (.invokevirtual 70, 3) := by decide +kernel
theorem dSc_readEnd_35 : decode prog_8_method_6_code 35 = .ok (.aload_n 0, 1) := by decide +kernel
theorem dSc_readEnd_36 : decode prog_8_method_6_code 36 = .ok (.aload_n 0, 1) := by decide +kernel
theorem dSc_readEnd_37 : decode prog_8_method_6_code 37 = .ok (.getfield 26, 3) := by decide +kernel
theorem dSc_readEnd_40 : decode prog_8_method_6_code 40 = .ok (.iconst 5, 1) := by decide +kernel
theorem dSc_readEnd_41 : decode prog_8_method_6_code 41 = .ok (.aload_n 0, 1) := by decide +kernel
theorem dSc_readEnd_42 : decode prog_8_method_6_code 42 = .ok (.getfield 15, 3) := by decide +kernel
theorem dSc_readEnd_45 : decode prog_8_method_6_code 45 = .ok (.aload_n 0, 1) := by decide +kernel
theorem dSc_readEnd_46 : decode prog_8_method_6_code 46 = .ok (.getfield 35, 3) := by decide +kernel
theorem dSc_readEnd_49 : decode prog_8_method_6_code 49 = .ok (.iaload, 1) := by decide +kernel
theorem dSc_readEnd_50 : decode prog_8_method_6_code 50 = .ok (.invokevirtual 70, 3) := by decide +kernel
theorem dSc_readEnd_53 : decode prog_8_method_6_code 53 = .ok (.aload_n 0, 1) := by decide +kernel
theorem dSc_readEnd_54 : decode prog_8_method_6_code 54 = .ok (.aload_n 0, 1) := by decide +kernel
theorem dSc_readEnd_55 : decode prog_8_method_6_code 55 = .ok (.getfield 15, 3) := by decide +kernel
theorem dSc_readEnd_58 : decode prog_8_method_6_code 58 = .ok (.aload_n 0, 1) := by decide +kernel
theorem dSc_readEnd_59 : decode prog_8_method_6_code 59 = .ok (.getfield 35, 3) := by decide +kernel
theorem dSc_readEnd_62 : decode prog_8_method_6_code 62 = .ok (.iaload, 1) := by decide +kernel
theorem dSc_readEnd_63 : decode prog_8_method_6_code 63 = .ok (.iconst 5, 1) := by decide +kernel
theorem dSc_readEnd_64 : decode prog_8_method_6_code 64 = .ok (.aload_n 0, 1) := by decide +kernel
theorem dSc_readEnd_65 : decode prog_8_method_6_code 65 = .ok (.getfield 26, 3) := by decide +kernel
theorem dSc_readEnd_68 : decode prog_8_method_6_code 68 = .ok (.invokevirtual 70, 3) := by decide +kernel
theorem dSc_readEnd_71 : decode prog_8_method_6_code 71 = .ok (.aload_n 0, 1) := by decide +kernel
theorem dSc_readEnd_72 : decode prog_8_method_6_code 72 = .ok (.dup, 1) := by decide +kernel
theorem dSc_readEnd_73 : decode prog_8_method_6_code 73 = .ok (.getfield 26, 3) := by decide +kernel
theorem dSc_readEnd_76 : decode prog_8_method_6_code 76 = .ok (.iconst 1, 1) := by decide +kernel
theorem dSc_readEnd_77 : decode prog_8_method_6_code 77 = .ok (.iadd, 1) := by decide +kernel
theorem dSc_readEnd_78 : decode prog_8_method_6_code 78 = .ok (.putfield 26, 3) := by decide +kernel
theorem dSc_readEnd_81 : decode prog_8_method_6_code 81 = .ok (.aload_n 1, 1) := by decide +kernel
theorem dSc_readEnd_82 : decode prog_8_method_6_code 82 = .ok (.invokevirtual 74, 3) := by decide +kernel
theorem dSc_readEnd_85 : decode prog_8_method_6_code 85 = .ok (.aload_n 1, 1) := by decide +kernel
theorem dSc_readEnd_86 : decode prog_8_method_6_code 86 = .ok (.bipush 59, 2) := by decide +kernel
theorem dSc_readEnd_88 : decode prog_8_method_6_code 88 = .ok (.invokevirtual 77, 3) := by decide +kernel
theorem dSc_readEnd_91 : decode prog_8_method_6_code 91 = .ok (.ireturn, 1) := by decide +kernel
theorem t_Sc_readEnd {d : Nat} {x0 x1 : Int} {σ : SG} {Q : Int → SG → Prop} (h : obok 6 x0 ∧ (1 ≤ σ x0 5 → obok 6 x0 ∧ (obok 6 x0 ∧ ∀ σ2, σ2 = up σ x0 5 (w32 ((σ x0 5) - 1)) → obok 6 x0 ∧ obok 6 x0 ∧ Tri d M_Sc_set [vA x0, vI (σ2 x0 2), vI 0, vI 10] σ2 (fun r3 σ3 => obok 6 x0 ∧ obok 6 x0 ∧ obok 6 x0 ∧ rdok 100 (x0 + 2) (σ3 x0 5) ∧ obok 6 x0 ∧ Tri d M_Sc_set [vA x0, vI (σ3 x0 2), vI 5, vI (σ3 (x0 + 2) (σ3 x0 5))] σ3 (fun r4 σ4 => obok 6 x0 ∧ obok 6 x0 ∧ rdok 100 (x0 + 2) (σ4 x0 5) ∧ obok 6 x0 ∧ obok 6 x0 ∧ Tri d M_Sc_set [vA x0, vI (σ4 (x0 + 2) (σ4 x0 5)), vI 5, vI (σ4 x0 2)] σ4 (fun r5 σ5 => obok 6 x0 ∧ (obok 6 x0 ∧ ∀ σ6, σ6 = up σ5 x0 2 (w32 ((σ5 x0 2) + 1)) → obok 8 x1 ∧ Tri d M_To_advance [vA x1] σ6 (fun r7 σ7 => obok 8 x1 ∧ Tri d M_To_takeSign [vA x1, vI 59] σ7 (fun r8 σ8 => (r8 = 0 ∨ r8 = 1) ∧ Q r8 σ8)))))))) ∧ (σ x0 5 < 1 → obok 8 x1 ∧ Tri d M_To_blame [vA x1, vI 2] σ (fun r9 σ9 => (r9 = 0 ∨ r9 = 1) ∧ Q r9 σ9))) : Tri (d + 1) M_Sc_readEnd [vA x0, vA x1] σ Q :=
  Tri_intro rfl (Nat.le_of_ble_eq_true rfl) (ls := [vA x0, vA x1]) rfl (fun hok => L_aload_n dSc_readEnd_0 rfl (L_getf fw_Sc_35 rfl dSc_readEnd_1 ⟨h.1, L_iconst dSc_readEnd_4 in_1 (L_icmp_ge dSc_readEnd_5 (by decide) ⟨fun c1 => L_aload_n dSc_readEnd_14 rfl (L_dup dSc_readEnd_15 n21 (L_getf fw_Sc_35 rfl dSc_readEnd_16 ⟨(h.2.1 c1).1, L_iconst dSc_readEnd_19 in_1 (L_isub dSc_readEnd_20 (L_putfN fp_Sc_35 rfl rfl (fun _ => ⟨rfl, rfl⟩) dSc_readEnd_21 ⟨(h.2.1 c1).2.1, fun σ2 e2 => L_aload_n dSc_readEnd_24 rfl (L_aload_n dSc_readEnd_25 rfl (L_getf fw_Sc_26 rfl dSc_readEnd_26 ⟨((h.2.1 c1).2.2 σ2 e2).1, L_iconst dSc_readEnd_29 in_0 (L_bipush dSc_readEnd_30 bp_10 in_10 (L_callVV rfl cv_Sc_set (As := [vI (σ2 x0 2), vI 0, vI 10]) rfl (tk3 229 rfl rfl) rfl (Nat.le_of_ble_eq_true rfl) dSc_readEnd_32 ⟨((h.2.1 c1).2.2 σ2 e2).2.1, Tri.mono (((h.2.1 c1).2.2 σ2 e2).2.2) (fun r3 σ3 q3 => L_aload_n dSc_readEnd_35 rfl (L_aload_n dSc_readEnd_36 rfl (L_getf fw_Sc_26 rfl dSc_readEnd_37 ⟨q3.1, L_iconst dSc_readEnd_40 in_5 (L_aload_n dSc_readEnd_41 rfl (L_getF (b := x0 + 2) fw_Sc_15 rfl rfl (by omega) dSc_readEnd_42 ⟨q3.2.1, L_aload_n dSc_readEnd_45 rfl (L_getf fw_Sc_35 rfl dSc_readEnd_46 ⟨q3.2.2.1, L_iaload dSc_readEnd_49 ⟨q3.2.2.2.1, L_callVV rfl cv_Sc_set (As := [vI (σ3 x0 2), vI 5, vI (σ3 (x0 + 2) (σ3 x0 5))]) rfl (tk3 229 rfl rfl) rfl (Nat.le_of_ble_eq_true rfl) dSc_readEnd_50 ⟨q3.2.2.2.2.1, Tri.mono q3.2.2.2.2.2 (fun r4 σ4 q4 => L_aload_n dSc_readEnd_53 rfl (L_aload_n dSc_readEnd_54 rfl (L_getF (b := x0 + 2) fw_Sc_15 rfl rfl (by omega) dSc_readEnd_55 ⟨q4.1, L_aload_n dSc_readEnd_58 rfl (L_getf fw_Sc_35 rfl dSc_readEnd_59 ⟨q4.2.1, L_iaload dSc_readEnd_62 ⟨q4.2.2.1, L_iconst dSc_readEnd_63 in_5 (L_aload_n dSc_readEnd_64 rfl (L_getf fw_Sc_26 rfl dSc_readEnd_65 ⟨q4.2.2.2.1, L_callVV rfl cv_Sc_set (As := [vI (σ4 (x0 + 2) (σ4 x0 5)), vI 5, vI (σ4 x0 2)]) rfl (tk3 229 rfl rfl) rfl (Nat.le_of_ble_eq_true rfl) dSc_readEnd_68 ⟨q4.2.2.2.2.1, Tri.mono q4.2.2.2.2.2 (fun r5 σ5 q5 => L_aload_n dSc_readEnd_71 rfl (L_dup dSc_readEnd_72 n21 (L_getf fw_Sc_26 rfl dSc_readEnd_73 ⟨q5.1, L_iconst dSc_readEnd_76 in_1 (L_iadd dSc_readEnd_77 (L_putfN fp_Sc_26 rfl rfl (fun _ => ⟨rfl, rfl⟩) dSc_readEnd_78 ⟨q5.2.1, fun σ6 e6 => L_aload_n dSc_readEnd_81 rfl (L_callVV rfl cv_To_advance (As := []) rfl (tk3 233 rfl rfl) rfl (Nat.le_of_ble_eq_true rfl) dSc_readEnd_82 ⟨(q5.2.2 σ6 e6).1, Tri.mono ((q5.2.2 σ6 e6).2) (fun r7 σ7 q7 => L_aload_n dSc_readEnd_85 rfl (L_bipush dSc_readEnd_86 bp_59 in_59 (L_callVI rfl cv_To_takeSign (As := [vI 59]) rfl (tk3 234 rfl rfl) rfl (Nat.le_of_ble_eq_true rfl) dSc_readEnd_88 ⟨q7.1, Tri.mono q7.2 (fun r8 σ8 q8 => L_zreturn rfl dSc_readEnd_91 q8)⟩)))⟩)⟩))⟩)))⟩⟩))⟩⟩)⟩)))⟩⟩⟩)⟩))⟩)))⟩))⟩))⟩))⟩)), fun c1 => L_aload_n dSc_readEnd_8 rfl (L_iconst dSc_readEnd_9 in_2 (L_callVI rfl cv_To_blame (As := [vI 2]) rfl (tk3 228 rfl rfl) rfl (Nat.le_of_ble_eq_true rfl) dSc_readEnd_10 ⟨(h.2.2 c1).1, Tri.mono ((h.2.2 c1).2) (fun r9 σ9 q9 => L_zreturn rfl dSc_readEnd_13 q9)⟩))⟩)⟩))
theorem dSc_readStep_0 : decode prog_8_method_7_code 0 = .ok (.aload_n 1, 1) := by decide +kernel
theorem dSc_readStep_1 : decode prog_8_method_7_code 1 = .ok (.ldc 81, 2) := by decide +kernel
theorem dSc_readStep_3 : decode prog_8_method_7_code 3 = .ok (.invokevirtual 83, 3) := by decide +kernel
theorem dSc_readStep_6 : decode prog_8_method_7_code 6 = .ok (.istore_n 2, 1) := by decide +kernel
theorem dSc_readStep_7 : decode prog_8_method_7_code 7 = .ok (.iload_n 2, 1) := by decide +kernel
theorem dSc_readStep_8 : decode prog_8_method_7_code 8 = .ok (.ifCond .ne 9, 3) := by decide +kernel
theorem dSc_readStep_11 : decode prog_8_method_7_code 11 = .ok (.aload_n 1, 1) := by decide +kernel
theorem dSc_readStep_12 : decode prog_8_method_7_code 12 = .ok (.iconst 2, 1) := by decide +kernel
theorem dSc_readStep_13 : decode prog_8_method_7_code 13 = .ok (.invokevirtual 63, 3) := by decide +kernel
theorem dSc_readStep_16 : decode prog_8_method_7_code 16 = .ok (.ireturn, 1) := by decide +kernel
theorem dSc_readStep_17 : decode prog_8_method_7_code 17 = .ok (.aload_n 0, 1) := by decide +kernel
theorem dSc_readStep_18 : decode prog_8_method_7_code 18 = .ok (.getfield 22, 3) := by decide +kernel
theorem dSc_readStep_21 : decode prog_8_method_7_code 21 = .ok (.bipush 30, 2) := by decide +kernel
theorem dSc_readStep_23 : decode prog_8_method_7_code 23 = .ok (.if_icmp .lt 10, 3) := by decide +kernel
theorem dSc_readStep_26 : decode prog_8_method_7_code 26 = .ok (.aload_n 1, 1) := by decide +kernel
theorem dSc_readStep_27 : decode prog_8_method_7_code 27 = .ok (.bipush 6, 2) := by decide +kernel
theorem dSc_readStep_29 : decode prog_8_method_7_code 29 = .ok (.invokevirtual 63, 3) := by decide +kernel
theorem dSc_readStep_32 : decode prog_8_method_7_code 32 = .ok (.ireturn, 1) := by decide +kernel
theorem dSc_readStep_33 : decode prog_8_method_7_code 33 = .ok (.iload_n 2, 1) := by decide +kernel
theorem dSc_readStep_34 : decode prog_8_method_7_code 34 = .ok (.bipush 7, 2) := by decide +kernel
theorem dSc_readStep_36 : decode prog_8_method_7_code 36 = .ok (.if_icmp .eq 9, 3) := by decide +kernel
theorem dSc_readStep_39 : decode prog_8_method_7_code 39 = .ok (.iload_n 2, 1) := by decide +kernel
theorem dSc_readStep_40 : decode prog_8_method_7_code 40 = .ok (.bipush 8, 2) := by decide +kernel
theorem dSc_readStep_42 : decode prog_8_method_7_code 42 = .ok (.if_icmp .ne 7, 3) := by decide +kernel
theorem dSc_readStep_45 : decode prog_8_method_7_code 45 = .ok (.iconst 1, 1) := by decide +kernel
theorem dSc_readStep_46 : decode prog_8_method_7_code 46 = .ok (.goto 4, 3) := by decide +kernel
theorem dSc_readStep_49 : decode prog_8_method_7_code 49 = .ok (.iconst 0, 1) := by decide +kernel
theorem dSc_readStep_50 : decode prog_8_method_7_code 50 = .ok (.istore_n 3, 1) := by decide +kernel
theorem dSc_readStep_51 : decode prog_8_method_7_code 51 = .ok (.iload_n 3, 1) := by decide +kernel
theorem dSc_readStep_52 : decode prog_8_method_7_code 52 = .ok (.ifCond .eq 18, 3) := by decide +kernel
theorem dSc_readStep_55 : decode prog_8_method_7_code 55 = .ok (.aload_n 0, 1) := by decide +kernel
theorem dSc_readStep_56 : decode prog_8_method_7_code 56 = .ok (.getfield 35, 3) := by decide +kernel
theorem dSc_readStep_59 : decode prog_8_method_7_code 59 = .ok (.iconst 3, 1) := by decide +kernel
theorem dSc_readStep_60 : decode prog_8_method_7_code 60 = .ok (.if_icmp .lt 10, 3) := by decide +kernel
theorem dSc_readStep_63 : decode prog_8_method_7_code 63 = .ok (.aload_n 1, 1) := by decide +kernel
theorem dSc_readStep_64 : decode prog_8_method_7_code 64 = .ok (.bipush 7, 2) := by decide +kernel
theorem dSc_readStep_66 : decode prog_8_method_7_code 66 = .ok (.invokevirtual 63, 3) := by decide +kernel
theorem dSc_readStep_69 : decode prog_8_method_7_code 69 = .ok (.ireturn, 1) := by decide +kernel
theorem dSc_readStep_70 : decode prog_8_method_7_code 70 = .ok (.aload_n 1, 1) := by decide +kernel
theorem dSc_readStep_71 : decode prog_8_method_7_code 71 = .ok (.invokevirtual 74, 3) := by decide +kernel
theorem dSc_readStep_74 : decode prog_8_method_7_code 74 = .ok (.aload_n 0, 1) := by decide +kernel
theorem dSc_readStep_75 : decode prog_8_method_7_code 75 = .ok (.aload_n 0, 1) := by decide +kernel
theorem dSc_readStep_76 : decode prog_8_method_7_code 76 = .ok (.getfield 26, 3) := by decide +kernel
theorem dSc_readStep_79 : decode prog_8_method_7_code 79 = .ok (.iconst 0, 1) := by decide +kernel
theorem dSc_readStep_80 : decode prog_8_method_7_code 80 = .ok (.iload_n 2, 1) := by decide +kernel
theorem dSc_readStep_81 : decode prog_8_method_7_code 81 = .ok (.invokevirtual 70, 3) := by decide +kernel
theorem dSc_readStep_84 : decode prog_8_method_7_code 84 = .ok (.iload_n 2, 1) := by decide +kernel
theorem dSc_readStep_85 : decode prog_8_method_7_code 85 = .ok (.bipush 7, 2) := by decide +kernel
theorem dSc_readStep_87 : decode prog_8_method_7_code 87 = .ok (.if_icmp .ne 11, 3) := by decide +kernel
theorem dSc_readStep_90 : decode prog_8_method_7_code 90 = .ok (.aload_n 0, 1) := by decide +kernel
theorem dSc_readStep_91 : decode prog_8_method_7_code 91 = .ok (.aload_n 1, 1) := by decide +kernel
theorem dSc_readStep_92 : decode prog_8_method_7_code 92 = .ok (.invokevirtual 87, 3) := by decide +kernel
theorem dSc_readStep_95 : decode prog_8_method_7_code 95 = .ok (.goto 9, 3) := by decide +kernel
theorem dSc_readStep_98 : decode prog_8_method_7_code 98 = .ok (.aload_n 0, 1) := by decide +kernel
theorem dSc_readStep_99 : decode prog_8_method_7_code 99 = .ok (.aload_n 1, 1) := by decide +kernel
theorem dSc_readStep_100 : decode prog_8_method_7_code 100 = .ok (.iload_n 2, 1) := by decide +kernel
theorem dSc_readStep_101 : decode prog_8_method_7_code 101 = .ok (.invokevirtual 90, 3) := by decide +kernel
theorem dSc_readStep_104 : decode prog_8_method_7_code 104 = .ok (.istore 4, 2) := by decide +kernel
theorem dSc_readStep_106 : decode prog_8_method_7_code 106 = .ok (.iload 4, 2) := by decide +kernel
theorem dSc_readStep_108 : decode prog_8_method_7_code 108 = .ok (.ifCond .eq 12, 3) := by decide +kernel
theorem dSc_readStep_111 : decode prog_8_method_7_code 111 = .ok (.aload_n 1, 1) := by decide +kernel
theorem dSc_readStep_112 : decode prog_8_method_7_code 112 = .ok (.bipush 59, 2) := by decide +kernel
theorem dSc_readStep_114 : decode prog_8_method_7_code 114 = .ok (.invokevirtual 77, 3) := by decide +kernel
theorem dSc_readStep_117 : decode prog_8_method_7_code 117 = .ok (.ifCond .ne 5, 3) := by decide +kernel
theorem dSc_readStep_120 : decode prog_8_method_7_code 120 = .ok (.iconst 0, 1) := by decide +kernel
theorem dSc_readStep_121 : decode prog_8_method_7_code 121 = .ok (.ireturn, 1) := by decide +kernel
theorem dSc_readStep_122 : decode prog_8_method_7_code 122 = .ok (.iload_n 3, 1) := by decide +kernel
theorem dSc_readStep_123 : decode prog_8_method_7_code 123 = .ok (.ifCond .eq 26, 3) := by decide +kernel
theorem dSc_readStep_126 : decode prog_8_method_7_code 126 = .ok (.aload_n 0, 1) := by decide +kernel
theorem dSc_readStep_127 : decode prog_8_method_7_code 127 = .ok (.getfield 15, 3) := by decide +kernel
theorem dSc_readStep_130 : decode prog_8_method_7_code 130 = .ok (.aload_n 0, 1) := by decide +kernel
theorem dSc_readStep_131 : decode prog_8_method_7_code 131 = .ok (.getfield 35, 3) := by decide +kernel
theorem dSc_readStep_134 : decode prog_8_method_7_code 134 = .ok (.aload_n 0, 1) := by decide +kernel
theorem dSc_readStep_135 : decode prog_8_method_7_code 135 = .ok (.getfield 26, 3) := by decide +kernel
theorem dSc_readStep_138 : decode prog_8_method_7_code 138 = .ok (.iastore, 1) := by decide +kernel
theorem dSc_readStep_139 : decode prog_8_method_7_code 139 = .ok (.aload_n 0, 1) := by decide +kernel
theorem dSc_readStep_140 : decode prog_8_method_7_code 140 = .ok (.dup, 1) := by decide +kernel
theorem dSc_readStep_141 : decode prog_8_method_7_code 141 = .ok (.getfield 35, 3) := by decide +kernel
theorem dSc_readStep_144 : decode prog_8_method_7_code 144 = .ok (.iconst 1, 1) := by decide +kernel
theorem dSc_readStep_145 : decode prog_8_method_7_code 145 = .ok (.iadd, 1) := by decide +kernel
theorem dSc_readStep_146 : decode prog_8_method_7_code 146 = .ok (.putfield 35, 3) := by decide +kernel
theorem dSc_readStep_149 : decode prog_8_method_7_code 149 = .ok (.aload_n 0, 1) := by decide +kernel
theorem dSc_readStep_150 : decode prog_8_method_7_code 150 = .ok (.dup, 1) := by decide +kernel
theorem dSc_readStep_151 : decode prog_8_method_7_code 151 = .ok (.getfield 22, 3) := by decide +kernel
theorem dSc_readStep_154 : decode prog_8_method_7_code 154 = .ok (.iconst 1, 1) := by decide +kernel
theorem dSc_readStep_155 : decode prog_8_method_7_code 155 = .ok (.iadd, 1) := by decide +kernel
theorem dSc_readStep_156 : decode prog_8_method_7_code 156 = .ok (.putfield 22, 3) := by decide +kernel
theorem dSc_readStep_159 : decode prog_8_method_7_code 159 = .ok (.aload_n 0, 1) := by decide +kernel
theorem dSc_readStep_160 : decode prog_8_method_7_code 160 = .ok (.dup, 1) := by decide +kernel
theorem dSc_readStep_161 : decode prog_8_method_7_code 161 = .ok (.getfield 26, 3) := by decide +kernel
theorem dSc_readStep_164 : decode prog_8_method_7_code 164 = .ok (.iconst 1, 1) := by decide +kernel
theorem dSc_readStep_165 : decode prog_8_method_7_code 165 = .ok (.iadd, 1) := by decide +kernel
theorem dSc_readStep_166 : decode prog_8_method_7_code 166 = .ok (.putfield 26, 3) := by decide +kernel
theorem dSc_readStep_169 : decode prog_8_method_7_code 169 = .ok (.iconst 1, 1) := by decide +kernel
theorem dSc_readStep_170 : decode prog_8_method_7_code 170 = .ok (.ireturn, 1) := by decide +kernel
theorem t_Sc_readStep {d : Nat} {x0 x1 : Int} {σ : SG} {Q : Int → SG → Prop} (h : obok 8 x1 ∧ Tri d M_To_wordAmong [vA x1, vA (-10 - (7 : Int))] σ (fun r1 σ1 => (r1 ≠ 0 → obok 6 x0 ∧ (σ1 x0 1 < 30 → (r1 = 7 → L (d + 1) M_Sc_readStep 45 [vA x0, vA x1, vI r1, vU, vU] [] σ1 Q) ∧ (r1 ≠ 7 → (r1 ≠ 8 → ((0 : Int) = 0 → L (d + 1) M_Sc_readStep 70 [vA x0, vA x1, vI r1, vI 0, vU] [] σ1 Q) ∧ ((0 : Int) ≠ 0 → obok 6 x0 ∧ (σ1 x0 5 < 3 → L (d + 1) M_Sc_readStep 70 [vA x0, vA x1, vI r1, vI 0, vU] [] σ1 Q) ∧ (3 ≤ σ1 x0 5 → obok 8 x1 ∧ Tri d M_To_blame [vA x1, vI 7] σ1 (fun r8 σ8 => (r8 = 0 ∨ r8 = 1) ∧ Q r8 σ8)))) ∧ (r1 = 8 → L (d + 1) M_Sc_readStep 45 [vA x0, vA x1, vI r1, vU, vU] [] σ1 Q))) ∧ (30 ≤ σ1 x0 1 → obok 8 x1 ∧ Tri d M_To_blame [vA x1, vI 6] σ1 (fun r9 σ9 => (r9 = 0 ∨ r9 = 1) ∧ Q r9 σ9))) ∧ (r1 = 0 → obok 8 x1 ∧ Tri d M_To_blame [vA x1, vI 2] σ1 (fun r10 σ10 => (r10 = 0 ∨ r10 = 1) ∧ Q r10 σ10)))) : Tri (d + 1) M_Sc_readStep [vA x0, vA x1] σ Q :=
  Tri_intro rfl (Nat.le_of_ble_eq_true rfl) (ls := [vA x0, vA x1, vU, vU, vU]) rfl (fun hok => L_aload_n dSc_readStep_0 rfl (L_ldcS (k := 7) (tx := "swap scale add keep take sum when loop stop ") (by decide +kernel) dSc_readStep_1 (L_callVI rfl cv_To_wordAmong (As := [vA (-10 - (7 : Int))]) rfl (tk4 0 rfl rfl) rfl (Nat.le_of_ble_eq_true rfl) dSc_readStep_3 ⟨h.1, Tri.mono (h.2) (fun r1 σ1 q1 => L_istore_n dSc_readStep_6 (by decide) (L_iload_n dSc_readStep_7 rfl (L_if_ne dSc_readStep_8 (by decide) ⟨fun c2 => L_aload_n dSc_readStep_17 rfl (L_getf fw_Sc_22 rfl dSc_readStep_18 ⟨(q1.1 c2).1, L_bipush dSc_readStep_21 bp_30 in_30 (L_icmp_lt dSc_readStep_23 (by decide) ⟨fun c3 => L_iload_n dSc_readStep_33 rfl (L_bipush dSc_readStep_34 bp_7 in_7 (L_icmp_eq dSc_readStep_36 (by decide) ⟨fun c4 => (((q1.1 c2).2.1 c3).1 c4), fun c4 => L_iload_n dSc_readStep_39 rfl (L_bipush dSc_readStep_40 bp_8 in_8 (L_icmp_ne dSc_readStep_42 (by decide) ⟨fun c5 => L_iconst dSc_readStep_49 in_0 (L_istore_n dSc_readStep_50 (by decide) (L_iload_n dSc_readStep_51 rfl (L_if_eq dSc_readStep_52 (by decide) ⟨fun c6 => (((((q1.1 c2).2.1 c3).2 c4).1 c5).1 c6), fun c6 => L_aload_n dSc_readStep_55 rfl (L_getf fw_Sc_35 rfl dSc_readStep_56 ⟨(((((q1.1 c2).2.1 c3).2 c4).1 c5).2 c6).1, L_iconst dSc_readStep_59 in_3 (L_icmp_lt dSc_readStep_60 (by decide) ⟨fun c7 => ((((((q1.1 c2).2.1 c3).2 c4).1 c5).2 c6).2.1 c7), fun c7 => L_aload_n dSc_readStep_63 rfl (L_bipush dSc_readStep_64 bp_7 in_7 (L_callVI rfl cv_To_blame (As := [vI 7]) rfl (tk3 228 rfl rfl) rfl (Nat.le_of_ble_eq_true rfl) dSc_readStep_66 ⟨((((((q1.1 c2).2.1 c3).2 c4).1 c5).2 c6).2.2 c7).1, Tri.mono (((((((q1.1 c2).2.1 c3).2 c4).1 c5).2 c6).2.2 c7).2) (fun r8 σ8 q8 => L_zreturn rfl dSc_readStep_69 q8)⟩))⟩)⟩)⟩))), fun c5 => ((((q1.1 c2).2.1 c3).2 c4).2 c5)⟩))⟩)), fun c3 => L_aload_n dSc_readStep_26 rfl (L_bipush dSc_readStep_27 bp_6 in_6 (L_callVI rfl cv_To_blame (As := [vI 6]) rfl (tk3 228 rfl rfl) rfl (Nat.le_of_ble_eq_true rfl) dSc_readStep_29 ⟨((q1.1 c2).2.2 c3).1, Tri.mono (((q1.1 c2).2.2 c3).2) (fun r9 σ9 q9 => L_zreturn rfl dSc_readStep_32 q9)⟩))⟩)⟩), fun c2 => L_aload_n dSc_readStep_11 rfl (L_iconst dSc_readStep_12 in_2 (L_callVI rfl cv_To_blame (As := [vI 2]) rfl (tk3 228 rfl rfl) rfl (Nat.le_of_ble_eq_true rfl) dSc_readStep_13 ⟨(q1.2 c2).1, Tri.mono ((q1.2 c2).2) (fun r10 σ10 q10 => L_zreturn rfl dSc_readStep_16 q10)⟩))⟩)))⟩)))
theorem s_Sc_readStep_45 {d : Nat} {x0 x1 x2 : Int} {σ : SG} {Q : Int → SG → Prop} (h : ((1 : Int) = 0 → L (d + 1) M_Sc_readStep 70 [vA x0, vA x1, vI x2, vI 1, vU] [] σ Q) ∧ ((1 : Int) ≠ 0 → obok 6 x0 ∧ (σ x0 5 < 3 → L (d + 1) M_Sc_readStep 70 [vA x0, vA x1, vI x2, vI 1, vU] [] σ Q) ∧ (3 ≤ σ x0 5 → obok 8 x1 ∧ Tri d M_To_blame [vA x1, vI 7] σ (fun r3 σ3 => (r3 = 0 ∨ r3 = 1) ∧ Q r3 σ3)))) : L (d + 1) M_Sc_readStep 45 [vA x0, vA x1, vI x2, vU, vU] [] σ Q :=
  L_iconst dSc_readStep_45 in_1 (L_goto dSc_readStep_46 (by decide) (L_istore_n dSc_readStep_50 (by decide) (L_iload_n dSc_readStep_51 rfl (L_if_eq dSc_readStep_52 (by decide) ⟨fun c1 => (h.1 c1), fun c1 => L_aload_n dSc_readStep_55 rfl (L_getf fw_Sc_35 rfl dSc_readStep_56 ⟨(h.2 c1).1, L_iconst dSc_readStep_59 in_3 (L_icmp_lt dSc_readStep_60 (by decide) ⟨fun c2 => ((h.2 c1).2.1 c2), fun c2 => L_aload_n dSc_readStep_63 rfl (L_bipush dSc_readStep_64 bp_7 in_7 (L_callVI rfl cv_To_blame (As := [vI 7]) rfl (tk3 228 rfl rfl) rfl (Nat.le_of_ble_eq_true rfl) dSc_readStep_66 ⟨((h.2 c1).2.2 c2).1, Tri.mono (((h.2 c1).2.2 c2).2) (fun r3 σ3 q3 => L_zreturn rfl dSc_readStep_69 q3)⟩))⟩)⟩)⟩))))
theorem s_Sc_readStep_70 {d : Nat} {x0 x1 x2 x3 : Int} {σ : SG} {Q : Int → SG → Prop} (h : obok 8 x1 ∧ Tri d M_To_advance [vA x1] σ (fun r1 σ1 => obok 6 x0 ∧ obok 6 x0 ∧ Tri d M_Sc_set [vA x0, vI (σ1 x0 2), vI 0, vI x2] σ1 (fun r2 σ2 => (x2 ≠ 7 → obok 6 x0 ∧ Tri d M_Sc_readRest [vA x0, vA x1, vI x2] σ2 (fun r4 σ4 => L (d + 1) M_Sc_readStep 104 [vA x0, vA x1, vU, vI x3, vU] [vI r4] σ4 Q)) ∧ (x2 = 7 → obok 6 x0 ∧ Tri d M_Sc_readTest [vA x0, vA x1] σ2 (fun r5 σ5 => L (d + 1) M_Sc_readStep 104 [vA x0, vA x1, vU, vI x3, vU] [vI r5] σ5 Q))))) : L (d + 1) M_Sc_readStep 70 [vA x0, vA x1, vI x2, vI x3, vU] [] σ Q :=
  L_aload_n dSc_readStep_70 rfl (L_callVV rfl cv_To_advance (As := []) rfl (tk3 233 rfl rfl) rfl (Nat.le_of_ble_eq_true rfl) dSc_readStep_71 ⟨h.1, Tri.mono h.2 (fun r1 σ1 q1 => L_aload_n dSc_readStep_74 rfl (L_aload_n dSc_readStep_75 rfl (L_getf fw_Sc_26 rfl dSc_readStep_76 ⟨q1.1, L_iconst dSc_readStep_79 in_0 (L_iload_n dSc_readStep_80 rfl (L_callVV rfl cv_Sc_set (As := [vI (σ1 x0 2), vI 0, vI x2]) rfl (tk3 229 rfl rfl) rfl (Nat.le_of_ble_eq_true rfl) dSc_readStep_81 ⟨q1.2.1, Tri.mono q1.2.2 (fun r2 σ2 q2 => L_iload_n dSc_readStep_84 rfl (L_bipush dSc_readStep_85 bp_7 in_7 (L_icmp_ne dSc_readStep_87 (by decide) ⟨fun c3 => L_aload_n dSc_readStep_98 rfl (L_aload_n dSc_readStep_99 rfl (L_iload_n dSc_readStep_100 rfl (L_callVI rfl cv_Sc_readRest (As := [vA x1, vI x2]) rfl (tk4 19 rfl rfl) rfl (Nat.le_of_ble_eq_true rfl) dSc_readStep_101 ⟨(q2.1 c3).1, Tri.mono ((q2.1 c3).2) (fun r4 σ4 q4 => L_weak [true, true, false, true, true] q4)⟩))), fun c3 => L_aload_n dSc_readStep_90 rfl (L_aload_n dSc_readStep_91 rfl (L_callVI rfl cv_Sc_readTest (As := [vA x1]) rfl (tk4 4 rfl rfl) rfl (Nat.le_of_ble_eq_true rfl) dSc_readStep_92 ⟨(q2.2 c3).1, Tri.mono ((q2.2 c3).2) (fun r5 σ5 q5 => L_goto dSc_readStep_95 (by decide) (L_weak [true, true, false, true, true] q5))⟩))⟩)))⟩))⟩)))⟩)
theorem s_Sc_readStep_104 {d : Nat} {x0 x1 x3 y0 : Int} {σ : SG} {Q : Int → SG → Prop} (h : (y0 = 0 → Q 0 σ) ∧ (y0 ≠ 0 → obok 8 x1 ∧ Tri d M_To_takeSign [vA x1, vI 59] σ (fun r2 σ2 => (r2 ≠ 0 → (x3 = 0 → obok 6 x0 ∧ (obok 6 x0 ∧ ∀ σ5, σ5 = up σ2 x0 1 (w32 ((σ2 x0 1) + 1)) → obok 6 x0 ∧ (obok 6 x0 ∧ ∀ σ6, σ6 = up σ5 x0 2 (w32 ((σ5 x0 2) + 1)) → Q 1 σ6))) ∧ (x3 ≠ 0 → obok 6 x0 ∧ obok 6 x0 ∧ obok 6 x0 ∧ wrok 100 (x0 + 2) (σ2 x0 5) ∧ (∀ σ7, σ7 = up σ2 (x0 + 2) (σ2 x0 5) (σ2 x0 2) → obok 6 x0 ∧ (obok 6 x0 ∧ ∀ σ8, σ8 = up σ7 x0 5 (w32 ((σ7 x0 5) + 1)) → obok 6 x0 ∧ (obok 6 x0 ∧ ∀ σ9, σ9 = up σ8 x0 1 (w32 ((σ8 x0 1) + 1)) → obok 6 x0 ∧ (obok 6 x0 ∧ ∀ σ10, σ10 = up σ9 x0 2 (w32 ((σ9 x0 2) + 1)) → Q 1 σ10)))))) ∧ (r2 = 0 → Q 0 σ2)))) : L (d + 1) M_Sc_readStep 104 [vA x0, vA x1, vU, vI x3, vU] [vI y0] σ Q :=
  L_istore dSc_readStep_104 (by decide) (L_iload dSc_readStep_106 rfl (L_if_eq dSc_readStep_108 (by decide) ⟨fun c1 => L_iconst dSc_readStep_120 in_0 (L_zreturn0 rfl dSc_readStep_121 (h.1 c1)), fun c1 => L_aload_n dSc_readStep_111 rfl (L_bipush dSc_readStep_112 bp_59 in_59 (L_callVI rfl cv_To_takeSign (As := [vI 59]) rfl (tk3 234 rfl rfl) rfl (Nat.le_of_ble_eq_true rfl) dSc_readStep_114 ⟨(h.2 c1).1, Tri.mono ((h.2 c1).2) (fun r2 σ2 q2 => L_if_ne dSc_readStep_117 (by decide) ⟨fun c3 => L_iload_n dSc_readStep_122 rfl (L_if_eq dSc_readStep_123 (by decide) ⟨fun c4 => L_aload_n dSc_readStep_149 rfl (L_dup dSc_readStep_150 n21 (L_getf fw_Sc_22 rfl dSc_readStep_151 ⟨((q2.1 c3).1 c4).1, L_iconst dSc_readStep_154 in_1 (L_iadd dSc_readStep_155 (L_putfN fp_Sc_22 rfl rfl (fun _ => ⟨rfl, rfl⟩) dSc_readStep_156 ⟨((q2.1 c3).1 c4).2.1, fun σ5 e5 => L_aload_n dSc_readStep_159 rfl (L_dup dSc_readStep_160 n21 (L_getf fw_Sc_26 rfl dSc_readStep_161 ⟨(((q2.1 c3).1 c4).2.2 σ5 e5).1, L_iconst dSc_readStep_164 in_1 (L_iadd dSc_readStep_165 (L_putfN fp_Sc_26 rfl rfl (fun _ => ⟨rfl, rfl⟩) dSc_readStep_166 ⟨(((q2.1 c3).1 c4).2.2 σ5 e5).2.1, fun σ6 e6 => L_iconst dSc_readStep_169 in_1 (L_zreturn1 rfl dSc_readStep_170 ((((q2.1 c3).1 c4).2.2 σ5 e5).2.2 σ6 e6))⟩))⟩))⟩))⟩)), fun c4 => L_aload_n dSc_readStep_126 rfl (L_getF (b := x0 + 2) fw_Sc_15 rfl rfl (by omega) dSc_readStep_127 ⟨((q2.1 c3).2 c4).1, L_aload_n dSc_readStep_130 rfl (L_getf fw_Sc_35 rfl dSc_readStep_131 ⟨((q2.1 c3).2 c4).2.1, L_aload_n dSc_readStep_134 rfl (L_getf fw_Sc_26 rfl dSc_readStep_135 ⟨((q2.1 c3).2 c4).2.2.1, L_iastoreN dSc_readStep_138 ⟨((q2.1 c3).2 c4).2.2.2.1, fun σ7 e7 => L_aload_n dSc_readStep_139 rfl (L_dup dSc_readStep_140 n21 (L_getf fw_Sc_35 rfl dSc_readStep_141 ⟨(((q2.1 c3).2 c4).2.2.2.2 σ7 e7).1, L_iconst dSc_readStep_144 in_1 (L_iadd dSc_readStep_145 (L_putfN fp_Sc_35 rfl rfl (fun _ => ⟨rfl, rfl⟩) dSc_readStep_146 ⟨(((q2.1 c3).2 c4).2.2.2.2 σ7 e7).2.1, fun σ8 e8 => L_aload_n dSc_readStep_149 rfl (L_dup dSc_readStep_150 n21 (L_getf fw_Sc_22 rfl dSc_readStep_151 ⟨((((q2.1 c3).2 c4).2.2.2.2 σ7 e7).2.2 σ8 e8).1, L_iconst dSc_readStep_154 in_1 (L_iadd dSc_readStep_155 (L_putfN fp_Sc_22 rfl rfl (fun _ => ⟨rfl, rfl⟩) dSc_readStep_156 ⟨((((q2.1 c3).2 c4).2.2.2.2 σ7 e7).2.2 σ8 e8).2.1, fun σ9 e9 => L_aload_n dSc_readStep_159 rfl (L_dup dSc_readStep_160 n21 (L_getf fw_Sc_26 rfl dSc_readStep_161 ⟨(((((q2.1 c3).2 c4).2.2.2.2 σ7 e7).2.2 σ8 e8).2.2 σ9 e9).1, L_iconst dSc_readStep_164 in_1 (L_iadd dSc_readStep_165 (L_putfN fp_Sc_26 rfl rfl (fun _ => ⟨rfl, rfl⟩) dSc_readStep_166 ⟨(((((q2.1 c3).2 c4).2.2.2.2 σ7 e7).2.2 σ8 e8).2.2 σ9 e9).2.1, fun σ10 e10 => L_iconst dSc_readStep_169 in_1 (L_zreturn1 rfl dSc_readStep_170 ((((((q2.1 c3).2 c4).2.2.2.2 σ7 e7).2.2 σ8 e8).2.2 σ9 e9).2.2 σ10 e10))⟩))⟩))⟩))⟩))⟩))⟩))⟩⟩)⟩)⟩)⟩), fun c3 => L_iconst dSc_readStep_120 in_0 (L_zreturn0 rfl dSc_readStep_121 (q2.2 c3))⟩)⟩))⟩))
theorem dSc_readRest_0 : decode prog_8_method_8_code 0 = .ok (.iload_n 2, 1) := by decide +kernel
theorem dSc_readRest_1 : decode prog_8_method_8_code 1 = .ok (.tableswitch 190 1 8 #[47, 75, 113, 171, 171, 171, 190, 180], 47) := by decide +kernel
theorem dSc_readRest_48 : decode prog_8_method_8_code 48 = .ok (.aload_n 0, 1) := by decide +kernel
theorem dSc_readRest_49 : decode prog_8_method_8_code 49 = .ok (.aload_n 1, 1) := by decide +kernel
theorem dSc_readRest_50 : decode prog_8_method_8_code 50 = .ok (.iconst 1, 1) := by decide +kernel
theorem dSc_readRest_51 : decode prog_8_method_8_code 51 = .ok (.iconst 0, 1) := by decide +kernel
theorem dSc_readRest_52 : decode prog_8_method_8_code 52 = .ok (.iconst 4, 1) := by decide +kernel
theorem dSc_readRest_53 : decode prog_8_method_8_code 53 = .ok (.invokevirtual 94, 3) := by decide +kernel
theorem dSc_readRest_56 : decode prog_8_method_8_code 56 = .ok (.ifCond .eq 18, 3) := by decide +kernel
theorem dSc_readRest_59 : decode prog_8_method_8_code 59 = .ok (.aload_n 0, 1) := by decide +kernel
theorem dSc_readRest_60 : decode prog_8_method_8_code 60 = .ok (.aload_n 1, 1) := by decide +kernel
theorem dSc_readRest_61 : decode prog_8_method_8_code 61 = .ok (.iconst 2, 1) := by decide +kernel
theorem dSc_readRest_62 : decode prog_8_method_8_code 62 = .ok (.iconst 0, 1) := by decide +kernel
theorem dSc_readRest_63 : decode prog_8_method_8_code 63 = .ok (.iconst 4, 1) := by decide +kernel
theorem dSc_readRest_64 : decode prog_8_method_8_code 64 = .ok (.invokevirtual 94, 3) := by decide +kernel
theorem dSc_readRest_67 : decode prog_8_method_8_code 67 = .ok (.ifCond .eq 7, 3) := by decide +kernel
theorem dSc_readRest_70 : decode prog_8_method_8_code 70 = .ok (.iconst 1, 1) := by decide +kernel
theorem dSc_readRest_71 : decode prog_8_method_8_code 71 = .ok (.goto 4, 3) := by decide +kernel
theorem dSc_readRest_74 : decode prog_8_method_8_code 74 = .ok (.iconst 0, 1) := by decide +kernel
theorem dSc_readRest_75 : decode prog_8_method_8_code 75 = .ok (.ireturn, 1) := by decide +kernel
theorem dSc_readRest_76 : decode prog_8_method_8_code 76 = .ok (.aload_n 0, 1) := by decide +kernel
theorem dSc_readRest_77 : decode prog_8_method_8_code 77 = .ok (.aload_n 1, 1) := by decide +kernel
theorem dSc_readRest_78 : decode prog_8_method_8_code 78 = .ok (.iconst 1, 1) := by decide +kernel
theorem dSc_readRest_79 : decode prog_8_method_8_code 79 = .ok (.iconst 0, 1) := by decide +kernel
theorem dSc_readRest_80 : decode prog_8_method_8_code 80 = .ok (.iconst 4, 1) := by decide +kernel
theorem dSc_readRest_81 : decode prog_8_method_8_code 81 = .ok (.invokevirtual 94, 3) := by decide +kernel
theorem dSc_readRest_84 : decode prog_8_method_8_code 84 = .ok (.ifCond .eq 28, 3) := by decide +kernel
theorem dSc_readRest_87 : decode prog_8_method_8_code 87 = .ok (.aload_n 1, 1) := by decide +kernel
theorem dSc_readRest_88 : decode prog_8_method_8_code 88 = .ok (.ldc 98, 2) := by decide +kernel
theorem dSc_readRest_90 : decode prog_8_method_8_code 90 = .ok (.invokevirtual 100, 3) := by decide +kernel
theorem dSc_readRest_93 : decode prog_8_method_8_code 93 = .ok (.ifCond .eq 19, 3) := by decide +kernel
theorem dSc_readRest_96 : decode prog_8_method_8_code 96 = .ok (.aload_n 0, 1) := by decide +kernel
theorem dSc_readRest_97 : decode prog_8_method_8_code 97 = .ok (.aload_n 1, 1) := by decide +kernel
theorem dSc_readRest_98 : decode prog_8_method_8_code 98 = .ok (.iconst 2, 1) := by decide +kernel
theorem dSc_readRest_99 : decode prog_8_method_8_code 99 = .ok (.iconst 1, 1) := by decide +kernel
theorem dSc_readRest_100 : decode prog_8_method_8_code 100 = .ok (.bipush 6, 2) := by decide +kernel
theorem dSc_readRest_102 : decode prog_8_method_8_code 102 = .ok (.invokevirtual 94, 3) := by decide +kernel
theorem dSc_readRest_105 : decode prog_8_method_8_code 105 = .ok (.ifCond .eq 7, 3) := by decide +kernel
theorem dSc_readRest_108 : decode prog_8_method_8_code 108 = .ok (.iconst 1, 1) := by decide +kernel
theorem dSc_readRest_109 : decode prog_8_method_8_code 109 = .ok (.goto 4, 3) := by decide +kernel
theorem dSc_readRest_112 : decode prog_8_method_8_code 112 = .ok (.iconst 0, 1) := by decide +kernel
theorem dSc_readRest_113 : decode prog_8_method_8_code 113 = .ok (.ireturn, 1) := by decide +kernel
theorem dSc_readRest_114 : decode prog_8_method_8_code 114 = .ok (.aload_n 0, 1) := by decide +kernel
theorem dSc_readRest_115 : decode prog_8_method_8_code 115 = .ok (.aload_n 1, 1) := by decide +kernel
theorem dSc_readRest_116 : decode prog_8_method_8_code 116 = .ok (.iconst 1, 1) := by decide +kernel
theorem dSc_readRest_117 : decode prog_8_method_8_code 117 = .ok (.iconst 0, 1) := by decide +kernel
theorem dSc_readRest_118 : decode prog_8_method_8_code 118 = .ok (.bipush 6, 2) := by decide +kernel
theorem dSc_readRest_120 : decode prog_8_method_8_code 120 = .ok (.invokevirtual 94, 3) := by decide +kernel
theorem dSc_readRest_123 : decode prog_8_method_8_code 123 = .ok (.ifCond .eq 47, 3) := by decide +kernel
theorem dSc_readRest_126 : decode prog_8_method_8_code 126 = .ok (.aload_n 1, 1) := by decide +kernel
theorem dSc_readRest_127 : decode prog_8_method_8_code 127 = .ok (.ldc 103, 2) := by decide +kernel
theorem dSc_readRest_129 : decode prog_8_method_8_code 129 = .ok (.invokevirtual 100, 3) := by decide +kernel
theorem dSc_readRest_132 : decode prog_8_method_8_code 132 = .ok (.ifCond .eq 38, 3) := by decide +kernel
theorem dSc_readRest_135 : decode prog_8_method_8_code 135 = .ok (.aload_n 0, 1) := by decide +kernel
theorem dSc_readRest_136 : decode prog_8_method_8_code 136 = .ok (.aload_n 1, 1) := by decide +kernel
theorem dSc_readRest_137 : decode prog_8_method_8_code 137 = .ok (.iconst 2, 1) := by decide +kernel
theorem dSc_readRest_138 : decode prog_8_method_8_code 138 = .ok (.iconst 0, 1) := by decide +kernel
theorem dSc_readRest_139 : decode prog_8_method_8_code 139 = .ok (.iconst 4, 1) := by decide +kernel
theorem dSc_readRest_140 : decode prog_8_method_8_code 140 = .ok (.invokevirtual 94, 3) := by decide +kernel
theorem dSc_readRest_143 : decode prog_8_method_8_code 143 = .ok (.ifCond .eq 27, 3) := by decide +kernel
theorem dSc_readRest_146 : decode prog_8_method_8_code 146 = .ok (.aload_n 1, 1) := by decide +kernel
theorem dSc_readRest_147 : decode prog_8_method_8_code 147 = .ok (.ldc 105, 2) := by decide +kernel
theorem dSc_readRest_149 : decode prog_8_method_8_code 149 = .ok (.invokevirtual 100, 3) := by decide +kernel
theorem dSc_readRest_152 : decode prog_8_method_8_code 152 = .ok (.ifCond .eq 18, 3) := by decide +kernel
theorem dSc_readRest_155 : decode prog_8_method_8_code 155 = .ok (.aload_n 0, 1) := by decide +kernel
theorem dSc_readRest_156 : decode prog_8_method_8_code 156 = .ok (.aload_n 1, 1) := by decide +kernel
theorem dSc_readRest_157 : decode prog_8_method_8_code 157 = .ok (.iconst 3, 1) := by decide +kernel
theorem dSc_readRest_158 : decode prog_8_method_8_code 158 = .ok (.iconst 0, 1) := by decide +kernel
theorem dSc_readRest_159 : decode prog_8_method_8_code 159 = .ok (.iconst 4, 1) := by decide +kernel
theorem dSc_readRest_160 : decode prog_8_method_8_code 160 = .ok (.invokevirtual 94, 3) := by decide +kernel
theorem dSc_readRest_163 : decode prog_8_method_8_code 163 = .ok (.ifCond .eq 7, 3) := by decide +kernel
theorem dSc_readRest_166 : decode prog_8_method_8_code 166 = .ok (.iconst 1, 1) := by decide +kernel
theorem dSc_readRest_167 : decode prog_8_method_8_code 167 = .ok (.goto 4, 3) := by decide +kernel
theorem dSc_readRest_170 : decode prog_8_method_8_code 170 = .ok (.iconst 0, 1) := by decide +kernel
theorem dSc_readRest_171 : decode prog_8_method_8_code 171 = .ok (.ireturn, 1) := by decide +kernel
theorem dSc_readRest_172 : decode prog_8_method_8_code 172 = .ok (.aload_n 0, 1) := by decide +kernel
theorem dSc_readRest_173 : decode prog_8_method_8_code 173 = .ok (.aload_n 1, 1) := by decide +kernel
theorem dSc_readRest_174 : decode prog_8_method_8_code 174 = .ok (.iconst 1, 1) := by decide +kernel
theorem dSc_readRest_175 : decode prog_8_method_8_code 175 = .ok (.iconst 0, 1) := by decide +kernel
theorem dSc_readRest_176 : decode prog_8_method_8_code 176 = .ok (.iconst 3, 1) := by decide +kernel
theorem dSc_readRest_177 : decode prog_8_method_8_code 177 = .ok (.invokevirtual 94, 3) := by decide +kernel
theorem dSc_readRest_180 : decode prog_8_method_8_code 180 = .ok (.ireturn, 1) := by decide +kernel
theorem dSc_readRest_181 : decode prog_8_method_8_code 181 = .ok (.aload_n 0, 1) := by decide +kernel
theorem dSc_readRest_182 : decode prog_8_method_8_code 182 = .ok (.aload_n 1, 1) := by decide +kernel
theorem dSc_readRest_183 : decode prog_8_method_8_code 183 = .ok (.iconst 1, 1) := by decide +kernel
theorem dSc_readRest_184 : decode prog_8_method_8_code 184 = .ok (.iconst 1, 1) := by decide +kernel
theorem dSc_readRest_185 : decode prog_8_method_8_code 185 = .ok (.bipush 99, 2) := by decide +kernel
theorem dSc_readRest_187 : decode prog_8_method_8_code 187 = .ok (.invokevirtual 94, 3) := by decide +kernel
theorem dSc_readRest_190 : decode prog_8_method_8_code 190 = .ok (.ireturn, 1) := by decide +kernel
theorem dSc_readRest_191 : decode prog_8_method_8_code 191 = .ok (.iconst 1, 1) := by decide +kernel
theorem dSc_readRest_192 : decode prog_8_method_8_code 192 = .ok (.ireturn, 1) := by decide +kernel
theorem t_Sc_readRest {d : Nat} {x0 x1 x2 : Int} {σ : SG} {Q : Int → SG → Prop} (h : inI x2 → (((x2 < 1 ∨ 8 < x2) → Q 1 σ) ∧ (x2 = 1 → obok 6 x0 ∧ Tri d M_Sc_number [vA x0, vA x1, vI 1, vI 0, vI 4] σ (fun r2 σ2 => (r2 = 0 → Q 0 σ2) ∧ (r2 ≠ 0 → obok 6 x0 ∧ Tri d M_Sc_number [vA x0, vA x1, vI 2, vI 0, vI 4] σ2 (fun r4 σ4 => (r4 = 0 → Q 0 σ4) ∧ (r4 ≠ 0 → Q 1 σ4))))) ∧ (x2 = 2 → obok 6 x0 ∧ Tri d M_Sc_number [vA x0, vA x1, vI 1, vI 0, vI 4] σ (fun r6 σ6 => (r6 = 0 → Q 0 σ6) ∧ (r6 ≠ 0 → obok 8 x1 ∧ Tri d M_To_takeWord [vA x1, vA (-10 - (9 : Int))] σ6 (fun r8 σ8 => (r8 = 0 → Q 0 σ8) ∧ (r8 ≠ 0 → obok 6 x0 ∧ Tri d M_Sc_number [vA x0, vA x1, vI 2, vI 1, vI 6] σ8 (fun r10 σ10 => (r10 = 0 → Q 0 σ10) ∧ (r10 ≠ 0 → Q 1 σ10))))))) ∧ (x2 = 3 → obok 6 x0 ∧ Tri d M_Sc_number [vA x0, vA x1, vI 1, vI 0, vI 6] σ (fun r12 σ12 => (r12 = 0 → Q 0 σ12) ∧ (r12 ≠ 0 → obok 8 x1 ∧ Tri d M_To_takeWord [vA x1, vA (-10 - (5 : Int))] σ12 (fun r14 σ14 => (r14 = 0 → Q 0 σ14) ∧ (r14 ≠ 0 → obok 6 x0 ∧ Tri d M_Sc_number [vA x0, vA x1, vI 2, vI 0, vI 4] σ14 (fun r16 σ16 => (r16 = 0 → Q 0 σ16) ∧ (r16 ≠ 0 → obok 8 x1 ∧ Tri d M_To_takeWord [vA x1, vA (-10 - (10 : Int))] σ16 (fun r18 σ18 => (r18 = 0 → Q 0 σ18) ∧ (r18 ≠ 0 → obok 6 x0 ∧ Tri d M_Sc_number [vA x0, vA x1, vI 3, vI 0, vI 4] σ18 (fun r20 σ20 => (r20 = 0 → Q 0 σ20) ∧ (r20 ≠ 0 → Q 1 σ20))))))))))) ∧ (x2 = 4 → obok 6 x0 ∧ Tri d M_Sc_number [vA x0, vA x1, vI 1, vI 0, vI 3] σ (fun r22 σ22 => (r22 = 0 ∨ r22 = 1) ∧ Q r22 σ22)) ∧ (x2 = 5 → obok 6 x0 ∧ Tri d M_Sc_number [vA x0, vA x1, vI 1, vI 0, vI 3] σ (fun r23 σ23 => (r23 = 0 ∨ r23 = 1) ∧ Q r23 σ23)) ∧ (x2 = 6 → obok 6 x0 ∧ Tri d M_Sc_number [vA x0, vA x1, vI 1, vI 0, vI 3] σ (fun r24 σ24 => (r24 = 0 ∨ r24 = 1) ∧ Q r24 σ24)) ∧ (x2 = 7 → Q 1 σ) ∧ (x2 = 8 → obok 6 x0 ∧ Tri d M_Sc_number [vA x0, vA x1, vI 1, vI 1, vI 99] σ (fun r25 σ25 => (r25 = 0 ∨ r25 = 1) ∧ Q r25 σ25)))) : Tri (d + 1) M_Sc_readRest [vA x0, vA x1, vI x2] σ Q :=
  Tri_intro rfl (Nat.le_of_ble_eq_true rfl) (ls := [vA x0, vA x1, vI x2]) rfl (fun hok => L_iload_n dSc_readRest_0 rfl (L_table dSc_readRest_1 (by decide) ⟨fun c1 => L_iconst dSc_readRest_191 in_1 (L_zreturn1 rfl dSc_readRest_192 ((h (hok _ (List.mem_of_getElem? (i := 2) rfl))).1 c1)), fun k1 c1a c1b c1 => match k1, c1 with | 0, c1 => ⟨47, 48, rfl, by decide, L_aload_n dSc_readRest_48 rfl (L_aload_n dSc_readRest_49 rfl (L_iconst dSc_readRest_50 in_1 (L_iconst dSc_readRest_51 in_0 (L_iconst dSc_readRest_52 in_4 (L_callVI rfl cv_Sc_number (As := [vA x1, vI 1, vI 0, vI 4]) rfl (tk4 9 rfl rfl) rfl (Nat.le_of_ble_eq_true rfl) dSc_readRest_53 ⟨((h (hok _ (List.mem_of_getElem? (i := 2) rfl))).2.1 (by omega)).1, Tri.mono (((h (hok _ (List.mem_of_getElem? (i := 2) rfl))).2.1 (by omega)).2) (fun r2 σ2 q2 => L_if_eq dSc_readRest_56 (by decide) ⟨fun c3 => L_iconst dSc_readRest_74 in_0 (L_zreturn0 rfl dSc_readRest_75 (q2.1 c3)), fun c3 => L_aload_n dSc_readRest_59 rfl (L_aload_n dSc_readRest_60 rfl (L_iconst dSc_readRest_61 in_2 (L_iconst dSc_readRest_62 in_0 (L_iconst dSc_readRest_63 in_4 (L_callVI rfl cv_Sc_number (As := [vA x1, vI 2, vI 0, vI 4]) rfl (tk4 9 rfl rfl) rfl (Nat.le_of_ble_eq_true rfl) dSc_readRest_64 ⟨(q2.2 c3).1, Tri.mono ((q2.2 c3).2) (fun r4 σ4 q4 => L_if_eq dSc_readRest_67 (by decide) ⟨fun c5 => L_iconst dSc_readRest_74 in_0 (L_zreturn0 rfl dSc_readRest_75 (q4.1 c5)), fun c5 => L_iconst dSc_readRest_70 in_1 (L_goto dSc_readRest_71 (by decide) (L_zreturn1 rfl dSc_readRest_75 (q4.2 c5)))⟩)⟩)))))⟩)⟩)))))⟩ | 1, c1 => ⟨75, 76, rfl, by decide, L_aload_n dSc_readRest_76 rfl (L_aload_n dSc_readRest_77 rfl (L_iconst dSc_readRest_78 in_1 (L_iconst dSc_readRest_79 in_0 (L_iconst dSc_readRest_80 in_4 (L_callVI rfl cv_Sc_number (As := [vA x1, vI 1, vI 0, vI 4]) rfl (tk4 9 rfl rfl) rfl (Nat.le_of_ble_eq_true rfl) dSc_readRest_81 ⟨((h (hok _ (List.mem_of_getElem? (i := 2) rfl))).2.2.1 (by omega)).1, Tri.mono (((h (hok _ (List.mem_of_getElem? (i := 2) rfl))).2.2.1 (by omega)).2) (fun r6 σ6 q6 => L_if_eq dSc_readRest_84 (by decide) ⟨fun c7 => L_iconst dSc_readRest_112 in_0 (L_zreturn0 rfl dSc_readRest_113 (q6.1 c7)), fun c7 => L_aload_n dSc_readRest_87 rfl (L_ldcS (k := 9) (tx := "by") (by decide +kernel) dSc_readRest_88 (L_callVI rfl cv_To_takeWord (As := [vA (-10 - (9 : Int))]) rfl (tk4 24 rfl rfl) rfl (Nat.le_of_ble_eq_true rfl) dSc_readRest_90 ⟨(q6.2 c7).1, Tri.mono ((q6.2 c7).2) (fun r8 σ8 q8 => L_if_eq dSc_readRest_93 (by decide) ⟨fun c9 => L_iconst dSc_readRest_112 in_0 (L_zreturn0 rfl dSc_readRest_113 (q8.1 c9)), fun c9 => L_aload_n dSc_readRest_96 rfl (L_aload_n dSc_readRest_97 rfl (L_iconst dSc_readRest_98 in_2 (L_iconst dSc_readRest_99 in_1 (L_bipush dSc_readRest_100 bp_6 in_6 (L_callVI rfl cv_Sc_number (As := [vA x1, vI 2, vI 1, vI 6]) rfl (tk4 9 rfl rfl) rfl (Nat.le_of_ble_eq_true rfl) dSc_readRest_102 ⟨(q8.2 c9).1, Tri.mono ((q8.2 c9).2) (fun r10 σ10 q10 => L_if_eq dSc_readRest_105 (by decide) ⟨fun c11 => L_iconst dSc_readRest_112 in_0 (L_zreturn0 rfl dSc_readRest_113 (q10.1 c11)), fun c11 => L_iconst dSc_readRest_108 in_1 (L_goto dSc_readRest_109 (by decide) (L_zreturn1 rfl dSc_readRest_113 (q10.2 c11)))⟩)⟩)))))⟩)⟩))⟩)⟩)))))⟩ | 2, c1 => ⟨113, 114, rfl, by decide, L_aload_n dSc_readRest_114 rfl (L_aload_n dSc_readRest_115 rfl (L_iconst dSc_readRest_116 in_1 (L_iconst dSc_readRest_117 in_0 (L_bipush dSc_readRest_118 bp_6 in_6 (L_callVI rfl cv_Sc_number (As := [vA x1, vI 1, vI 0, vI 6]) rfl (tk4 9 rfl rfl) rfl (Nat.le_of_ble_eq_true rfl) dSc_readRest_120 ⟨((h (hok _ (List.mem_of_getElem? (i := 2) rfl))).2.2.2.1 (by omega)).1, Tri.mono (((h (hok _ (List.mem_of_getElem? (i := 2) rfl))).2.2.2.1 (by omega)).2) (fun r12 σ12 q12 => L_if_eq dSc_readRest_123 (by decide) ⟨fun c13 => L_iconst dSc_readRest_170 in_0 (L_zreturn0 rfl dSc_readRest_171 (q12.1 c13)), fun c13 => L_aload_n dSc_readRest_126 rfl (L_ldcS (k := 5) (tx := "of") (by decide +kernel) dSc_readRest_127 (L_callVI rfl cv_To_takeWord (As := [vA (-10 - (5 : Int))]) rfl (tk4 24 rfl rfl) rfl (Nat.le_of_ble_eq_true rfl) dSc_readRest_129 ⟨(q12.2 c13).1, Tri.mono ((q12.2 c13).2) (fun r14 σ14 q14 => L_if_eq dSc_readRest_132 (by decide) ⟨fun c15 => L_iconst dSc_readRest_170 in_0 (L_zreturn0 rfl dSc_readRest_171 (q14.1 c15)), fun c15 => L_aload_n dSc_readRest_135 rfl (L_aload_n dSc_readRest_136 rfl (L_iconst dSc_readRest_137 in_2 (L_iconst dSc_readRest_138 in_0 (L_iconst dSc_readRest_139 in_4 (L_callVI rfl cv_Sc_number (As := [vA x1, vI 2, vI 0, vI 4]) rfl (tk4 9 rfl rfl) rfl (Nat.le_of_ble_eq_true rfl) dSc_readRest_140 ⟨(q14.2 c15).1, Tri.mono ((q14.2 c15).2) (fun r16 σ16 q16 => L_if_eq dSc_readRest_143 (by decide) ⟨fun c17 => L_iconst dSc_readRest_170 in_0 (L_zreturn0 rfl dSc_readRest_171 (q16.1 c17)), fun c17 => L_aload_n dSc_readRest_146 rfl (L_ldcS (k := 10) (tx := "to") (by decide +kernel) dSc_readRest_147 (L_callVI rfl cv_To_takeWord (As := [vA (-10 - (10 : Int))]) rfl (tk4 24 rfl rfl) rfl (Nat.le_of_ble_eq_true rfl) dSc_readRest_149 ⟨(q16.2 c17).1, Tri.mono ((q16.2 c17).2) (fun r18 σ18 q18 => L_if_eq dSc_readRest_152 (by decide) ⟨fun c19 => L_iconst dSc_readRest_170 in_0 (L_zreturn0 rfl dSc_readRest_171 (q18.1 c19)), fun c19 => L_aload_n dSc_readRest_155 rfl (L_aload_n dSc_readRest_156 rfl (L_iconst dSc_readRest_157 in_3 (L_iconst dSc_readRest_158 in_0 (L_iconst dSc_readRest_159 in_4 (L_callVI rfl cv_Sc_number (As := [vA x1, vI 3, vI 0, vI 4]) rfl (tk4 9 rfl rfl) rfl (Nat.le_of_ble_eq_true rfl) dSc_readRest_160 ⟨(q18.2 c19).1, Tri.mono ((q18.2 c19).2) (fun r20 σ20 q20 => L_if_eq dSc_readRest_163 (by decide) ⟨fun c21 => L_iconst dSc_readRest_170 in_0 (L_zreturn0 rfl dSc_readRest_171 (q20.1 c21)), fun c21 => L_iconst dSc_readRest_166 in_1 (L_goto dSc_readRest_167 (by decide) (L_zreturn1 rfl dSc_readRest_171 (q20.2 c21)))⟩)⟩)))))⟩)⟩))⟩)⟩)))))⟩)⟩))⟩)⟩)))))⟩ | 3, c1 => ⟨171, 172, rfl, by decide, L_aload_n dSc_readRest_172 rfl (L_aload_n dSc_readRest_173 rfl (L_iconst dSc_readRest_174 in_1 (L_iconst dSc_readRest_175 in_0 (L_iconst dSc_readRest_176 in_3 (L_callVI rfl cv_Sc_number (As := [vA x1, vI 1, vI 0, vI 3]) rfl (tk4 9 rfl rfl) rfl (Nat.le_of_ble_eq_true rfl) dSc_readRest_177 ⟨((h (hok _ (List.mem_of_getElem? (i := 2) rfl))).2.2.2.2.1 (by omega)).1, Tri.mono (((h (hok _ (List.mem_of_getElem? (i := 2) rfl))).2.2.2.2.1 (by omega)).2) (fun r22 σ22 q22 => L_zreturn rfl dSc_readRest_180 q22)⟩)))))⟩ | 4, c1 => ⟨171, 172, rfl, by decide, L_aload_n dSc_readRest_172 rfl (L_aload_n dSc_readRest_173 rfl (L_iconst dSc_readRest_174 in_1 (L_iconst dSc_readRest_175 in_0 (L_iconst dSc_readRest_176 in_3 (L_callVI rfl cv_Sc_number (As := [vA x1, vI 1, vI 0, vI 3]) rfl (tk4 9 rfl rfl) rfl (Nat.le_of_ble_eq_true rfl) dSc_readRest_177 ⟨((h (hok _ (List.mem_of_getElem? (i := 2) rfl))).2.2.2.2.2.1 (by omega)).1, Tri.mono (((h (hok _ (List.mem_of_getElem? (i := 2) rfl))).2.2.2.2.2.1 (by omega)).2) (fun r23 σ23 q23 => L_zreturn rfl dSc_readRest_180 q23)⟩)))))⟩ | 5, c1 => ⟨171, 172, rfl, by decide, L_aload_n dSc_readRest_172 rfl (L_aload_n dSc_readRest_173 rfl (L_iconst dSc_readRest_174 in_1 (L_iconst dSc_readRest_175 in_0 (L_iconst dSc_readRest_176 in_3 (L_callVI rfl cv_Sc_number (As := [vA x1, vI 1, vI 0, vI 3]) rfl (tk4 9 rfl rfl) rfl (Nat.le_of_ble_eq_true rfl) dSc_readRest_177 ⟨((h (hok _ (List.mem_of_getElem? (i := 2) rfl))).2.2.2.2.2.2.1 (by omega)).1, Tri.mono (((h (hok _ (List.mem_of_getElem? (i := 2) rfl))).2.2.2.2.2.2.1 (by omega)).2) (fun r24 σ24 q24 => L_zreturn rfl dSc_readRest_180 q24)⟩)))))⟩ | 6, c1 => ⟨190, 191, rfl, by decide, L_iconst dSc_readRest_191 in_1 (L_zreturn1 rfl dSc_readRest_192 ((h (hok _ (List.mem_of_getElem? (i := 2) rfl))).2.2.2.2.2.2.2.1 (by omega)))⟩ | 7, c1 => ⟨180, 181, rfl, by decide, L_aload_n dSc_readRest_181 rfl (L_aload_n dSc_readRest_182 rfl (L_iconst dSc_readRest_183 in_1 (L_iconst dSc_readRest_184 in_1 (L_bipush dSc_readRest_185 bp_99 in_99 (L_callVI rfl cv_Sc_number (As := [vA x1, vI 1, vI 1, vI 99]) rfl (tk4 9 rfl rfl) rfl (Nat.le_of_ble_eq_true rfl) dSc_readRest_187 ⟨((h (hok _ (List.mem_of_getElem? (i := 2) rfl))).2.2.2.2.2.2.2.2 (by omega)).1, Tri.mono (((h (hok _ (List.mem_of_getElem? (i := 2) rfl))).2.2.2.2.2.2.2.2 (by omega)).2) (fun r25 σ25 q25 => L_zreturn rfl dSc_readRest_190 q25)⟩)))))⟩ | (n + 8), c1 => absurd c1b (by omega)⟩))
theorem dSc_number_0 : decode prog_8_method_9_code 0 = .ok (.aload_n 1, 1) := by decide +kernel
theorem dSc_number_1 : decode prog_8_method_9_code 1 = .ok (.iload_n 3, 1) := by decide +kernel
theorem dSc_number_2 : decode prog_8_method_9_code 2 = .ok (.iload 4, 2) := by decide +kernel
theorem dSc_number_4 : decode prog_8_method_9_code 4 = .ok (.invokevirtual 107, 3) := by decide +kernel
theorem dSc_number_7 : decode prog_8_method_9_code 7 = .ok (.ifCond .ne 5, 3) := by decide +kernel
theorem dSc_number_10 : decode prog_8_method_9_code 10 = .ok (.iconst 0, 1) := by decide +kernel
theorem dSc_number_11 : decode prog_8_method_9_code 11 = .ok (.ireturn, 1) := by decide +kernel
theorem dSc_number_12 : decode prog_8_method_9_code 12 = .ok (.aload_n 0, 1) := by decide +kernel
theorem dSc_number_13 : decode prog_8_method_9_code 13 = .ok (.aload_n 0, 1) := by decide +kernel
theorem dSc_number_14 : decode prog_8_method_9_code 14 = .ok (.getfield 26, 3) := by decide +kernel
theorem dSc_number_17 : decode prog_8_method_9_code 17 = .ok (.iload_n 2, 1) := by decide +kernel
theorem dSc_number_18 : decode prog_8_method_9_code 18 = .ok (.aload_n 1, 1) := by decide +kernel
theorem dSc_number_19 : decode prog_8_method_9_code 19 = .ok (.getfield 111, 3) := by decide +kernel
theorem dSc_number_22 : decode prog_8_method_9_code 22 = .ok (.invokevirtual 70, 3) := by decide +kernel
theorem dSc_number_25 : decode prog_8_method_9_code 25 = .ok (.aload_n 1, 1) := by decide +kernel
theorem dSc_number_26 : decode prog_8_method_9_code 26 = .ok (.invokevirtual 74, 3) := by decide +kernel
theorem dSc_number_29 : decode prog_8_method_9_code 29 = .ok (.iconst 1, 1) := by decide +kernel
theorem dSc_number_30 : decode prog_8_method_9_code 30 = .ok (.ireturn, 1) := by decide +kernel
theorem t_Sc_number {d : Nat} {x0 x1 x2 x3 x4 : Int} {σ : SG} {Q : Int → SG → Prop} (h : inI x2 → inI x3 → inI x4 → (obok 8 x1 ∧ Tri d M_To_seesNumber [vA x1, vI x3, vI x4] σ (fun r1 σ1 => (r1 ≠ 0 → obok 6 x0 ∧ obok 8 x1 ∧ obok 6 x0 ∧ Tri d M_Sc_set [vA x0, vI (σ1 x0 2), vI x2, vI (σ1 x1 1)] σ1 (fun r3 σ3 => obok 8 x1 ∧ Tri d M_To_advance [vA x1] σ3 (fun r4 σ4 => Q 1 σ4))) ∧ (r1 = 0 → Q 0 σ1)))) : Tri (d + 1) M_Sc_number [vA x0, vA x1, vI x2, vI x3, vI x4] σ Q :=
  Tri_intro rfl (Nat.le_of_ble_eq_true rfl) (ls := [vA x0, vA x1, vI x2, vI x3, vI x4]) rfl (fun hok => L_aload_n dSc_number_0 rfl (L_iload_n dSc_number_1 rfl (L_iload dSc_number_2 rfl (L_callVI rfl cv_To_seesNumber (As := [vI x3, vI x4]) rfl (tk4 13 rfl rfl) rfl (Nat.le_of_ble_eq_true rfl) dSc_number_4 ⟨(h (hok _ (List.mem_of_getElem? (i := 2) rfl)) (hok _ (List.mem_of_getElem? (i := 3) rfl)) (hok _ (List.mem_of_getElem? (i := 4) rfl))).1, Tri.mono ((h (hok _ (List.mem_of_getElem? (i := 2) rfl)) (hok _ (List.mem_of_getElem? (i := 3) rfl)) (hok _ (List.mem_of_getElem? (i := 4) rfl))).2) (fun r1 σ1 q1 => L_if_ne dSc_number_7 (by decide) ⟨fun c2 => L_aload_n dSc_number_12 rfl (L_aload_n dSc_number_13 rfl (L_getf fw_Sc_26 rfl dSc_number_14 ⟨(q1.1 c2).1, L_iload_n dSc_number_17 rfl (L_aload_n dSc_number_18 rfl (L_getf fw_Sc_111 rfl dSc_number_19 ⟨(q1.1 c2).2.1, L_callVV rfl cv_Sc_set (As := [vI (σ1 x0 2), vI x2, vI (σ1 x1 1)]) rfl (tk3 229 rfl rfl) rfl (Nat.le_of_ble_eq_true rfl) dSc_number_22 ⟨(q1.1 c2).2.2.1, Tri.mono ((q1.1 c2).2.2.2) (fun r3 σ3 q3 => L_aload_n dSc_number_25 rfl (L_callVV rfl cv_To_advance (As := []) rfl (tk3 233 rfl rfl) rfl (Nat.le_of_ble_eq_true rfl) dSc_number_26 ⟨q3.1, Tri.mono q3.2 (fun r4 σ4 q4 => L_iconst dSc_number_29 in_1 (L_zreturn1 rfl dSc_number_30 q4))⟩))⟩⟩))⟩)), fun c2 => L_iconst dSc_number_10 in_0 (L_zreturn0 rfl dSc_number_11 (q1.2 c2))⟩)⟩))))
theorem dSc_readTest_0 : decode prog_8_method_10_code 0 = .ok (.aload_n 1, 1) := by decide +kernel
theorem dSc_readTest_1 : decode prog_8_method_10_code 1 = .ok (.ldc 114, 2) := by decide +kernel
theorem dSc_readTest_3 : decode prog_8_method_10_code 3 = .ok (.invokevirtual 83, 3) := by decide +kernel
theorem dSc_readTest_6 : decode prog_8_method_10_code 6 = .ok (.istore_n 2, 1) := by decide +kernel
theorem dSc_readTest_7 : decode prog_8_method_10_code 7 = .ok (.iload_n 2, 1) := by decide +kernel
theorem dSc_readTest_8 : decode prog_8_method_10_code 8 = .ok (.ifCond .ne 9, 3) := by decide +kernel
theorem dSc_readTest_11 : decode prog_8_method_10_code 11 = .ok (.aload_n 1, 1) := by decide +kernel
theorem dSc_readTest_12 : decode prog_8_method_10_code 12 = .ok (.iconst 2, 1) := by decide +kernel
theorem dSc_readTest_13 : decode prog_8_method_10_code 13 = .ok (.invokevirtual 63, 3) := by decide +kernel
theorem dSc_readTest_16 : decode prog_8_method_10_code 16 = .ok (.ireturn, 1) := by decide +kernel
theorem dSc_readTest_17 : decode prog_8_method_10_code 17 = .ok (.aload_n 0, 1) := by decide +kernel
theorem dSc_readTest_18 : decode prog_8_method_10_code 18 = .ok (.aload_n 0, 1) := by decide +kernel
theorem dSc_readTest_19 : decode prog_8_method_10_code 19 = .ok (.getfield 26, 3) := by decide +kernel
theorem dSc_readTest_22 : decode prog_8_method_10_code 22 = .ok (.iconst 1, 1) := by decide +kernel
theorem dSc_readTest_23 : decode prog_8_method_10_code 23 = .ok (.iload_n 2, 1) := by decide +kernel
theorem dSc_readTest_24 : decode prog_8_method_10_code 24 = .ok (.invokevirtual 70, 3) := by decide +kernel
theorem dSc_readTest_27 : decode prog_8_method_10_code 27 = .ok (.aload_n 1, 1) := by decide +kernel
theorem dSc_readTest_28 : decode prog_8_method_10_code 28 = .ok (.invokevirtual 74, 3) := by decide +kernel
theorem dSc_readTest_31 : decode prog_8_method_10_code 31 = .ok (.iload_n 2, 1) := by decide +kernel
theorem dSc_readTest_32 : decode prog_8_method_10_code 32 = .ok (.tableswitch 98 5 7 #[28, 64, 89], 28) := by decide +kernel
theorem dSc_readTest_60 : decode prog_8_method_10_code 60 = .ok (.aload_n 0, 1) := by decide +kernel
theorem dSc_readTest_61 : decode prog_8_method_10_code 61 = .ok (.aload_n 1, 1) := by decide +kernel
theorem dSc_readTest_62 : decode prog_8_method_10_code 62 = .ok (.iconst 2, 1) := by decide +kernel
theorem dSc_readTest_63 : decode prog_8_method_10_code 63 = .ok (.iconst 0, 1) := by decide +kernel
theorem dSc_readTest_64 : decode prog_8_method_10_code 64 = .ok (.iconst 5, 1) := by decide +kernel
theorem dSc_readTest_65 : decode prog_8_method_10_code 65 = .ok (.invokevirtual 94, 3) := by decide +kernel
theorem dSc_readTest_68 : decode prog_8_method_10_code 68 = .ok (.ifCond .eq 26, 3) := by decide +kernel
theorem dSc_readTest_71 : decode prog_8_method_10_code 71 = .ok (.aload_n 0, 1) := by decide +kernel
theorem dSc_readTest_72 : decode prog_8_method_10_code 72 = .ok (.aload_n 1, 1) := by decide +kernel
theorem dSc_readTest_73 : decode prog_8_method_10_code 73 = .ok (.invokevirtual 116, 3) := by decide +kernel
theorem dSc_readTest_76 : decode prog_8_method_10_code 76 = .ok (.ifCond .eq 18, 3) := by decide +kernel
theorem dSc_readTest_79 : decode prog_8_method_10_code 79 = .ok (.aload_n 0, 1) := by decide +kernel
theorem dSc_readTest_80 : decode prog_8_method_10_code 80 = .ok (.aload_n 1, 1) := by decide +kernel
theorem dSc_readTest_81 : decode prog_8_method_10_code 81 = .ok (.iconst 4, 1) := by decide +kernel
theorem dSc_readTest_82 : decode prog_8_method_10_code 82 = .ok (.iconst 0, 1) := by decide +kernel
theorem dSc_readTest_83 : decode prog_8_method_10_code 83 = .ok (.iconst 5, 1) := by decide +kernel
theorem dSc_readTest_84 : decode prog_8_method_10_code 84 = .ok (.invokevirtual 94, 3) := by decide +kernel
theorem dSc_readTest_87 : decode prog_8_method_10_code 87 = .ok (.ifCond .eq 7, 3) := by decide +kernel
theorem dSc_readTest_90 : decode prog_8_method_10_code 90 = .ok (.iconst 1, 1) := by decide +kernel
theorem dSc_readTest_91 : decode prog_8_method_10_code 91 = .ok (.goto 4, 3) := by decide +kernel
theorem dSc_readTest_94 : decode prog_8_method_10_code 94 = .ok (.iconst 0, 1) := by decide +kernel
theorem dSc_readTest_95 : decode prog_8_method_10_code 95 = .ok (.ireturn, 1) := by decide +kernel
theorem dSc_readTest_96 : decode prog_8_method_10_code 96 = .ok (.aload_n 0, 1) := by decide +kernel
theorem dSc_readTest_97 : decode prog_8_method_10_code 97 = .ok (.aload_n 1, 1) := by decide +kernel
theorem dSc_readTest_98 : decode prog_8_method_10_code 98 = .ok (.invokevirtual 116, 3) := by decide +kernel
theorem dSc_readTest_101 : decode prog_8_method_10_code 101 = .ok (.ifCond .eq 18, 3) := by decide +kernel
theorem dSc_readTest_104 : decode prog_8_method_10_code 104 = .ok (.aload_n 0, 1) := by decide +kernel
theorem dSc_readTest_105 : decode prog_8_method_10_code 105 = .ok (.aload_n 1, 1) := by decide +kernel
theorem dSc_readTest_106 : decode prog_8_method_10_code 106 = .ok (.iconst 4, 1) := by decide +kernel
theorem dSc_readTest_107 : decode prog_8_method_10_code 107 = .ok (.iconst 0, 1) := by decide +kernel
theorem dSc_readTest_108 : decode prog_8_method_10_code 108 = .ok (.iconst 5, 1) := by decide +kernel
theorem dSc_readTest_109 : decode prog_8_method_10_code 109 = .ok (.invokevirtual 94, 3) := by decide +kernel
theorem dSc_readTest_112 : decode prog_8_method_10_code 112 = .ok (.ifCond .eq 7, 3) := by decide +kernel
theorem dSc_readTest_115 : decode prog_8_method_10_code 115 = .ok (.iconst 1, 1) := by decide +kernel
theorem dSc_readTest_116 : decode prog_8_method_10_code 116 = .ok (.goto 4, 3) := by decide +kernel
theorem dSc_readTest_119 : decode prog_8_method_10_code 119 = .ok (.iconst 0, 1) := by decide +kernel
theorem dSc_readTest_120 : decode prog_8_method_10_code 120 = .ok (.ireturn, 1) := by decide +kernel
theorem dSc_readTest_121 : decode prog_8_method_10_code 121 = .ok (.aload_n 0, 1) := by decide +kernel
theorem dSc_readTest_122 : decode prog_8_method_10_code 122 = .ok (.aload_n 1, 1) := by decide +kernel
theorem dSc_readTest_123 : decode prog_8_method_10_code 123 = .ok (.iconst 2, 1) := by decide +kernel
theorem dSc_readTest_124 : decode prog_8_method_10_code 124 = .ok (.iconst 0, 1) := by decide +kernel
theorem dSc_readTest_125 : decode prog_8_method_10_code 125 = .ok (.iconst 3, 1) := by decide +kernel
theorem dSc_readTest_126 : decode prog_8_method_10_code 126 = .ok (.invokevirtual 94, 3) := by decide +kernel
theorem dSc_readTest_129 : decode prog_8_method_10_code 129 = .ok (.ireturn, 1) := by decide +kernel
theorem dSc_readTest_130 : decode prog_8_method_10_code 130 = .ok (.iconst 1, 1) := by decide +kernel
theorem dSc_readTest_131 : decode prog_8_method_10_code 131 = .ok (.ireturn, 1) := by decide +kernel
theorem t_Sc_readTest {d : Nat} {x0 x1 : Int} {σ : SG} {Q : Int → SG → Prop} (h : obok 8 x1 ∧ Tri d M_To_wordAmong [vA x1, vA (-10 - (8 : Int))] σ (fun r1 σ1 => (r1 ≠ 0 → obok 6 x0 ∧ obok 6 x0 ∧ Tri d M_Sc_set [vA x0, vI (σ1 x0 2), vI 1, vI r1] σ1 (fun r3 σ3 => obok 8 x1 ∧ Tri d M_To_advance [vA x1] σ3 (fun r4 σ4 => ((r1 < 5 ∨ 7 < r1) → Q 1 σ4) ∧ (r1 = 5 → obok 6 x0 ∧ Tri d M_Sc_number [vA x0, vA x1, vI 2, vI 0, vI 5] σ4 (fun r6 σ6 => (r6 = 0 → Q 0 σ6) ∧ (r6 ≠ 0 → obok 6 x0 ∧ Tri d M_Sc_readCompares [vA x0, vA x1] σ6 (fun r8 σ8 => (r8 = 0 → Q 0 σ8) ∧ (r8 ≠ 0 → obok 6 x0 ∧ Tri d M_Sc_number [vA x0, vA x1, vI 4, vI 0, vI 5] σ8 (fun r10 σ10 => (r10 = 0 → Q 0 σ10) ∧ (r10 ≠ 0 → Q 1 σ10))))))) ∧ (r1 = 6 → obok 6 x0 ∧ Tri d M_Sc_readCompares [vA x0, vA x1] σ4 (fun r12 σ12 => (r12 = 0 → Q 0 σ12) ∧ (r12 ≠ 0 → obok 6 x0 ∧ Tri d M_Sc_number [vA x0, vA x1, vI 4, vI 0, vI 5] σ12 (fun r14 σ14 => (r14 = 0 → Q 0 σ14) ∧ (r14 ≠ 0 → Q 1 σ14))))) ∧ (r1 = 7 → obok 6 x0 ∧ Tri d M_Sc_number [vA x0, vA x1, vI 2, vI 0, vI 3] σ4 (fun r16 σ16 => (r16 = 0 ∨ r16 = 1) ∧ Q r16 σ16))))) ∧ (r1 = 0 → obok 8 x1 ∧ Tri d M_To_blame [vA x1, vI 2] σ1 (fun r17 σ17 => (r17 = 0 ∨ r17 = 1) ∧ Q r17 σ17)))) : Tri (d + 1) M_Sc_readTest [vA x0, vA x1] σ Q :=
  Tri_intro rfl (Nat.le_of_ble_eq_true rfl) (ls := [vA x0, vA x1, vU]) rfl (fun hok => L_aload_n dSc_readTest_0 rfl (L_ldcS (k := 8) (tx := "lawful abelian nilpotent solvable derived size same ") (by decide +kernel) dSc_readTest_1 (L_callVI rfl cv_To_wordAmong (As := [vA (-10 - (8 : Int))]) rfl (tk4 0 rfl rfl) rfl (Nat.le_of_ble_eq_true rfl) dSc_readTest_3 ⟨h.1, Tri.mono (h.2) (fun r1 σ1 q1 => L_istore_n dSc_readTest_6 (by decide) (L_iload_n dSc_readTest_7 rfl (L_if_ne dSc_readTest_8 (by decide) ⟨fun c2 => L_aload_n dSc_readTest_17 rfl (L_aload_n dSc_readTest_18 rfl (L_getf fw_Sc_26 rfl dSc_readTest_19 ⟨(q1.1 c2).1, L_iconst dSc_readTest_22 in_1 (L_iload_n dSc_readTest_23 rfl (L_callVV rfl cv_Sc_set (As := [vI (σ1 x0 2), vI 1, vI r1]) rfl (tk3 229 rfl rfl) rfl (Nat.le_of_ble_eq_true rfl) dSc_readTest_24 ⟨(q1.1 c2).2.1, Tri.mono ((q1.1 c2).2.2) (fun r3 σ3 q3 => L_aload_n dSc_readTest_27 rfl (L_callVV rfl cv_To_advance (As := []) rfl (tk3 233 rfl rfl) rfl (Nat.le_of_ble_eq_true rfl) dSc_readTest_28 ⟨q3.1, Tri.mono q3.2 (fun r4 σ4 q4 => L_iload_n dSc_readTest_31 rfl (L_table dSc_readTest_32 (by decide) ⟨fun c5 => L_iconst dSc_readTest_130 in_1 (L_zreturn1 rfl dSc_readTest_131 (q4.1 c5)), fun k5 c5a c5b c5 => match k5, c5 with | 0, c5 => ⟨28, 60, rfl, by decide, L_aload_n dSc_readTest_60 rfl (L_aload_n dSc_readTest_61 rfl (L_iconst dSc_readTest_62 in_2 (L_iconst dSc_readTest_63 in_0 (L_iconst dSc_readTest_64 in_5 (L_callVI rfl cv_Sc_number (As := [vA x1, vI 2, vI 0, vI 5]) rfl (tk4 9 rfl rfl) rfl (Nat.le_of_ble_eq_true rfl) dSc_readTest_65 ⟨(q4.2.1 (by omega)).1, Tri.mono ((q4.2.1 (by omega)).2) (fun r6 σ6 q6 => L_if_eq dSc_readTest_68 (by decide) ⟨fun c7 => L_iconst dSc_readTest_94 in_0 (L_zreturn0 rfl dSc_readTest_95 (q6.1 c7)), fun c7 => L_aload_n dSc_readTest_71 rfl (L_aload_n dSc_readTest_72 rfl (L_callVI rfl cv_Sc_readCompares (As := [vA x1]) rfl (tk4 14 rfl rfl) rfl (Nat.le_of_ble_eq_true rfl) dSc_readTest_73 ⟨(q6.2 c7).1, Tri.mono ((q6.2 c7).2) (fun r8 σ8 q8 => L_if_eq dSc_readTest_76 (by decide) ⟨fun c9 => L_iconst dSc_readTest_94 in_0 (L_zreturn0 rfl dSc_readTest_95 (q8.1 c9)), fun c9 => L_aload_n dSc_readTest_79 rfl (L_aload_n dSc_readTest_80 rfl (L_iconst dSc_readTest_81 in_4 (L_iconst dSc_readTest_82 in_0 (L_iconst dSc_readTest_83 in_5 (L_callVI rfl cv_Sc_number (As := [vA x1, vI 4, vI 0, vI 5]) rfl (tk4 9 rfl rfl) rfl (Nat.le_of_ble_eq_true rfl) dSc_readTest_84 ⟨(q8.2 c9).1, Tri.mono ((q8.2 c9).2) (fun r10 σ10 q10 => L_if_eq dSc_readTest_87 (by decide) ⟨fun c11 => L_iconst dSc_readTest_94 in_0 (L_zreturn0 rfl dSc_readTest_95 (q10.1 c11)), fun c11 => L_iconst dSc_readTest_90 in_1 (L_goto dSc_readTest_91 (by decide) (L_zreturn1 rfl dSc_readTest_95 (q10.2 c11)))⟩)⟩)))))⟩)⟩))⟩)⟩)))))⟩ | 1, c5 => ⟨64, 96, rfl, by decide, L_aload_n dSc_readTest_96 rfl (L_aload_n dSc_readTest_97 rfl (L_callVI rfl cv_Sc_readCompares (As := [vA x1]) rfl (tk4 14 rfl rfl) rfl (Nat.le_of_ble_eq_true rfl) dSc_readTest_98 ⟨(q4.2.2.1 (by omega)).1, Tri.mono ((q4.2.2.1 (by omega)).2) (fun r12 σ12 q12 => L_if_eq dSc_readTest_101 (by decide) ⟨fun c13 => L_iconst dSc_readTest_119 in_0 (L_zreturn0 rfl dSc_readTest_120 (q12.1 c13)), fun c13 => L_aload_n dSc_readTest_104 rfl (L_aload_n dSc_readTest_105 rfl (L_iconst dSc_readTest_106 in_4 (L_iconst dSc_readTest_107 in_0 (L_iconst dSc_readTest_108 in_5 (L_callVI rfl cv_Sc_number (As := [vA x1, vI 4, vI 0, vI 5]) rfl (tk4 9 rfl rfl) rfl (Nat.le_of_ble_eq_true rfl) dSc_readTest_109 ⟨(q12.2 c13).1, Tri.mono ((q12.2 c13).2) (fun r14 σ14 q14 => L_if_eq dSc_readTest_112 (by decide) ⟨fun c15 => L_iconst dSc_readTest_119 in_0 (L_zreturn0 rfl dSc_readTest_120 (q14.1 c15)), fun c15 => L_iconst dSc_readTest_115 in_1 (L_goto dSc_readTest_116 (by decide) (L_zreturn1 rfl dSc_readTest_120 (q14.2 c15)))⟩)⟩)))))⟩)⟩))⟩ | 2, c5 => ⟨89, 121, rfl, by decide, L_aload_n dSc_readTest_121 rfl (L_aload_n dSc_readTest_122 rfl (L_iconst dSc_readTest_123 in_2 (L_iconst dSc_readTest_124 in_0 (L_iconst dSc_readTest_125 in_3 (L_callVI rfl cv_Sc_number (As := [vA x1, vI 2, vI 0, vI 3]) rfl (tk4 9 rfl rfl) rfl (Nat.le_of_ble_eq_true rfl) dSc_readTest_126 ⟨(q4.2.2.2 (by omega)).1, Tri.mono ((q4.2.2.2 (by omega)).2) (fun r16 σ16 q16 => L_zreturn rfl dSc_readTest_129 q16)⟩)))))⟩ | (n + 3), c5 => absurd c5b (by omega)⟩))⟩))⟩))⟩)), fun c2 => L_aload_n dSc_readTest_11 rfl (L_iconst dSc_readTest_12 in_2 (L_callVI rfl cv_To_blame (As := [vI 2]) rfl (tk3 228 rfl rfl) rfl (Nat.le_of_ble_eq_true rfl) dSc_readTest_13 ⟨(q1.2 c2).1, Tri.mono ((q1.2 c2).2) (fun r17 σ17 q17 => L_zreturn rfl dSc_readTest_16 q17)⟩))⟩)))⟩)))
theorem dSc_readCompares_0 : decode prog_8_method_11_code 0 = .ok (.aload_n 1, 1) := by decide +kernel
theorem dSc_readCompares_1 : decode prog_8_method_11_code 1 = .ok (.bipush 60, 2) := by decide +kernel
theorem dSc_readCompares_3 : decode prog_8_method_11_code 3 = .ok (.invokevirtual 119, 3) := by decide +kernel
theorem dSc_readCompares_6 : decode prog_8_method_11_code 6 = .ok (.ifCond .eq 16, 3) := by decide +kernel
theorem dSc_readCompares_9 : decode prog_8_method_11_code 9 = .ok (.aload_n 0, 1) := by decide +kernel
theorem dSc_readCompares_10 : decode prog_8_method_11_code 10 = .ok (.aload_n 0, 1) := by decide +kernel
theorem dSc_readCompares_11 : decode prog_8_method_11_code 11 = .ok (.getfield 26, 3) := by decide +kernel
theorem dSc_readCompares_14 : decode prog_8_method_11_code 14 = .ok (.iconst 3, 1) := by decide +kernel
theorem dSc_readCompares_15 : decode prog_8_method_11_code 15 = .ok (.iconst (-1), 1) := by decide +kernel
theorem dSc_readCompares_16 : decode prog_8_method_11_code 16 = .ok (.invokevirtual 70, 3) := by decide +kernel
theorem dSc_readCompares_19 : decode prog_8_method_11_code 19 = .ok (.goto 53, 3) := by decide +kernel
theorem dSc_readCompares_22 : decode prog_8_method_11_code 22 = .ok (.aload_n 1, 1) := by decide +kernel
theorem dSc_readCompares_23 : decode prog_8_method_11_code 23 = .ok (.bipush 62, 2) := by decide +kernel
theorem dSc_readCompares_25 : decode prog_8_method_11_code 25 = .ok (.invokevirtual 119, 3) := by decide +kernel
theorem dSc_readCompares_28 : decode prog_8_method_11_code 28 = .ok (.ifCond .eq 16, 3) := by decide +kernel
theorem dSc_readCompares_31 : decode prog_8_method_11_code 31 = .ok (.aload_n 0, 1) := by decide +kernel
theorem dSc_readCompares_32 : decode prog_8_method_11_code 32 = .ok (.aload_n 0, 1) := by decide +kernel
theorem dSc_readCompares_33 : decode prog_8_method_11_code 33 = .ok (.getfield 26, 3) := by decide +kernel
theorem dSc_readCompares_36 : decode prog_8_method_11_code 36 = .ok (.iconst 3, 1) := by decide +kernel
theorem dSc_readCompares_37 : decode prog_8_method_11_code 37 = .ok (.iconst 1, 1) := by decide +kernel
theorem dSc_readCompares_38 : decode prog_8_method_11_code 38 = .ok (.invokevirtual 70, 3) := by decide +kernel
theorem dSc_readCompares_41 : decode prog_8_method_11_code 41 = .ok (.goto 31, 3) := by decide +kernel
theorem dSc_readCompares_44 : decode prog_8_method_11_code 44 = .ok (.aload_n 1, 1) := by decide +kernel
theorem dSc_readCompares_45 : decode prog_8_method_11_code 45 = .ok (.bipush 61, 2) := by decide +kernel
theorem dSc_readCompares_47 : decode prog_8_method_11_code 47 = .ok (.invokevirtual 119, 3) := by decide +kernel
theorem dSc_readCompares_50 : decode prog_8_method_11_code 50 = .ok (.ifCond .eq 16, 3) := by decide +kernel
theorem dSc_readCompares_53 : decode prog_8_method_11_code 53 = .ok (.aload_n 0, 1) := by decide +kernel
theorem dSc_readCompares_54 : decode prog_8_method_11_code 54 = .ok (.aload_n 0, 1) := by decide +kernel
theorem dSc_readCompares_55 : decode prog_8_method_11_code 55 = .ok (.getfield 26, 3) := by decide +kernel
theorem dSc_readCompares_58 : decode prog_8_method_11_code 58 = .ok (.iconst 3, 1) := by decide +kernel
theorem dSc_readCompares_59 : decode prog_8_method_11_code 59 = .ok (.iconst 0, 1) := by decide +kernel
theorem dSc_readCompares_60 : decode prog_8_method_11_code 60 = .ok (.invokevirtual 70, 3) := by decide +kernel
theorem dSc_readCompares_63 : decode prog_8_method_11_code 63 = .ok (.goto 9, 3) := by decide +kernel
theorem dSc_readCompares_66 : decode prog_8_method_11_code 66 = .ok (.aload_n 1, 1) := by decide +kernel
theorem dSc_readCompares_67 : decode prog_8_method_11_code 67 = .ok (.iconst 2, 1) := by decide +kernel
theorem dSc_readCompares_68 : decode prog_8_method_11_code 68 = .ok (.invokevirtual 63, 3) := by decide +kernel
theorem dSc_readCompares_71 : decode prog_8_method_11_code 71 = .ok (.ireturn, 1) := by decide +kernel
theorem dSc_readCompares_72 : decode prog_8_method_11_code 72 = .ok (.aload_n 1, 1) := by decide +kernel
theorem dSc_readCompares_73 : decode prog_8_method_11_code 73 = .ok (.invokevirtual 74, 3) := by decide +kernel
theorem dSc_readCompares_76 : decode prog_8_method_11_code 76 = .ok (.iconst 1, 1) := by decide +kernel
theorem dSc_readCompares_77 : decode prog_8_method_11_code 77 = .ok (.ireturn, 1) := by decide +kernel
theorem t_Sc_readCompares {d : Nat} {x0 x1 : Int} {σ : SG} {Q : Int → SG → Prop} (h : obok 8 x1 ∧ Tri d M_To_isSign [vA x1, vI 60] σ (fun r1 σ1 => (r1 = 0 → obok 8 x1 ∧ Tri d M_To_isSign [vA x1, vI 62] σ1 (fun r3 σ3 => (r3 = 0 → obok 8 x1 ∧ Tri d M_To_isSign [vA x1, vI 61] σ3 (fun r5 σ5 => (r5 = 0 → obok 8 x1 ∧ Tri d M_To_blame [vA x1, vI 2] σ5 (fun r7 σ7 => (r7 = 0 ∨ r7 = 1) ∧ Q r7 σ7)) ∧ (r5 ≠ 0 → obok 6 x0 ∧ obok 6 x0 ∧ Tri d M_Sc_set [vA x0, vI (σ5 x0 2), vI 3, vI 0] σ5 (fun r8 σ8 => obok 8 x1 ∧ Tri d M_To_advance [vA x1] σ8 (fun r9 σ9 => Q 1 σ9))))) ∧ (r3 ≠ 0 → obok 6 x0 ∧ obok 6 x0 ∧ Tri d M_Sc_set [vA x0, vI (σ3 x0 2), vI 3, vI 1] σ3 (fun r10 σ10 => obok 8 x1 ∧ Tri d M_To_advance [vA x1] σ10 (fun r11 σ11 => Q 1 σ11))))) ∧ (r1 ≠ 0 → obok 6 x0 ∧ obok 6 x0 ∧ Tri d M_Sc_set [vA x0, vI (σ1 x0 2), vI 3, vI (-1)] σ1 (fun r12 σ12 => obok 8 x1 ∧ Tri d M_To_advance [vA x1] σ12 (fun r13 σ13 => Q 1 σ13))))) : Tri (d + 1) M_Sc_readCompares [vA x0, vA x1] σ Q :=
  Tri_intro rfl (Nat.le_of_ble_eq_true rfl) (ls := [vA x0, vA x1]) rfl (fun hok => L_aload_n dSc_readCompares_0 rfl (L_bipush dSc_readCompares_1 bp_60 in_60 (L_callVI rfl cv_To_isSign (As := [vI 60]) rfl (tk4 18 rfl rfl) rfl (Nat.le_of_ble_eq_true rfl) dSc_readCompares_3 ⟨h.1, Tri.mono (h.2) (fun r1 σ1 q1 => L_if_eq dSc_readCompares_6 (by decide) ⟨fun c2 => L_aload_n dSc_readCompares_22 rfl (L_bipush dSc_readCompares_23 bp_62 in_62 (L_callVI rfl cv_To_isSign (As := [vI 62]) rfl (tk4 18 rfl rfl) rfl (Nat.le_of_ble_eq_true rfl) dSc_readCompares_25 ⟨(q1.1 c2).1, Tri.mono ((q1.1 c2).2) (fun r3 σ3 q3 => L_if_eq dSc_readCompares_28 (by decide) ⟨fun c4 => L_aload_n dSc_readCompares_44 rfl (L_bipush dSc_readCompares_45 bp_61 in_61 (L_callVI rfl cv_To_isSign (As := [vI 61]) rfl (tk4 18 rfl rfl) rfl (Nat.le_of_ble_eq_true rfl) dSc_readCompares_47 ⟨(q3.1 c4).1, Tri.mono ((q3.1 c4).2) (fun r5 σ5 q5 => L_if_eq dSc_readCompares_50 (by decide) ⟨fun c6 => L_aload_n dSc_readCompares_66 rfl (L_iconst dSc_readCompares_67 in_2 (L_callVI rfl cv_To_blame (As := [vI 2]) rfl (tk3 228 rfl rfl) rfl (Nat.le_of_ble_eq_true rfl) dSc_readCompares_68 ⟨(q5.1 c6).1, Tri.mono ((q5.1 c6).2) (fun r7 σ7 q7 => L_zreturn rfl dSc_readCompares_71 q7)⟩)), fun c6 => L_aload_n dSc_readCompares_53 rfl (L_aload_n dSc_readCompares_54 rfl (L_getf fw_Sc_26 rfl dSc_readCompares_55 ⟨(q5.2 c6).1, L_iconst dSc_readCompares_58 in_3 (L_iconst dSc_readCompares_59 in_0 (L_callVV rfl cv_Sc_set (As := [vI (σ5 x0 2), vI 3, vI 0]) rfl (tk3 229 rfl rfl) rfl (Nat.le_of_ble_eq_true rfl) dSc_readCompares_60 ⟨(q5.2 c6).2.1, Tri.mono ((q5.2 c6).2.2) (fun r8 σ8 q8 => L_goto dSc_readCompares_63 (by decide) (L_aload_n dSc_readCompares_72 rfl (L_callVV rfl cv_To_advance (As := []) rfl (tk3 233 rfl rfl) rfl (Nat.le_of_ble_eq_true rfl) dSc_readCompares_73 ⟨q8.1, Tri.mono q8.2 (fun r9 σ9 q9 => L_iconst dSc_readCompares_76 in_1 (L_zreturn1 rfl dSc_readCompares_77 q9))⟩)))⟩))⟩))⟩)⟩)), fun c4 => L_aload_n dSc_readCompares_31 rfl (L_aload_n dSc_readCompares_32 rfl (L_getf fw_Sc_26 rfl dSc_readCompares_33 ⟨(q3.2 c4).1, L_iconst dSc_readCompares_36 in_3 (L_iconst dSc_readCompares_37 in_1 (L_callVV rfl cv_Sc_set (As := [vI (σ3 x0 2), vI 3, vI 1]) rfl (tk3 229 rfl rfl) rfl (Nat.le_of_ble_eq_true rfl) dSc_readCompares_38 ⟨(q3.2 c4).2.1, Tri.mono ((q3.2 c4).2.2) (fun r10 σ10 q10 => L_goto dSc_readCompares_41 (by decide) (L_aload_n dSc_readCompares_72 rfl (L_callVV rfl cv_To_advance (As := []) rfl (tk3 233 rfl rfl) rfl (Nat.le_of_ble_eq_true rfl) dSc_readCompares_73 ⟨q10.1, Tri.mono q10.2 (fun r11 σ11 q11 => L_iconst dSc_readCompares_76 in_1 (L_zreturn1 rfl dSc_readCompares_77 q11))⟩)))⟩))⟩))⟩)⟩)), fun c2 => L_aload_n dSc_readCompares_9 rfl (L_aload_n dSc_readCompares_10 rfl (L_getf fw_Sc_26 rfl dSc_readCompares_11 ⟨(q1.2 c2).1, L_iconst dSc_readCompares_14 in_3 (L_iconst dSc_readCompares_15 in_m1 (L_callVV rfl cv_Sc_set (As := [vI (σ1 x0 2), vI 3, vI (-1)]) rfl (tk3 229 rfl rfl) rfl (Nat.le_of_ble_eq_true rfl) dSc_readCompares_16 ⟨(q1.2 c2).2.1, Tri.mono ((q1.2 c2).2.2) (fun r12 σ12 q12 => L_goto dSc_readCompares_19 (by decide) (L_aload_n dSc_readCompares_72 rfl (L_callVV rfl cv_To_advance (As := []) rfl (tk3 233 rfl rfl) rfl (Nat.le_of_ble_eq_true rfl) dSc_readCompares_73 ⟨q12.1, Tri.mono q12.2 (fun r13 σ13 q13 => L_iconst dSc_readCompares_76 in_1 (L_zreturn1 rfl dSc_readCompares_77 q13))⟩)))⟩))⟩))⟩)⟩)))
