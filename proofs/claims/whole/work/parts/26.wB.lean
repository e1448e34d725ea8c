theorem dAn_seriesSize_0 : decode prog_2_method_2_code 0 = .ok (.aload_n 0, 1) := by decide +kernel
theorem dAn_seriesSize_1 : decode prog_2_method_2_code 1 = .ok (.getfield 14, 3) := by decide +kernel
theorem dAn_seriesSize_4 : decode prog_2_method_2_code 4 = .ok (.aload_n 2, 1) := by decide +kernel
theorem dAn_seriesSize_5 : decode prog_2_method_2_code 5 = .ok (.invokevirtual 49, 3) := by decide +kernel
theorem dAn_seriesSize_8 : decode prog_2_method_2_code 8 = .ok (.iconst 0, 1) := by decide +kernel
theorem dAn_seriesSize_9 : decode prog_2_method_2_code 9 = .ok (.istore 5, 2) := by decide +kernel
theorem dAn_seriesSize_11 : decode prog_2_method_2_code 11 = .ok (.iload 5, 2) := by decide +kernel
theorem dAn_seriesSize_13 : decode prog_2_method_2_code 13 = .ok (.iload_n 3, 1) := by decide +kernel
theorem dAn_seriesSize_14 : decode prog_2_method_2_code 14 = .ok (.if_icmp .ge 184, 3) := by decide +kernel
theorem dAn_seriesSize_17 : decode prog_2_method_2_code 17 = .ok (.aload_n 0, 1) := by decide +kernel
theorem dAn_seriesSize_18 : decode prog_2_method_2_code 18 = .ok (.getfield 14, 3) := by decide +kernel
theorem dAn_seriesSize_21 : decode prog_2_method_2_code 21 = .ok (.getfield 53, 3) := by decide +kernel
theorem dAn_seriesSize_24 : decode prog_2_method_2_code 24 = .ok (.ifCond .le 174, 3) := by decide +kernel
theorem dAn_seriesSize_27 : decode prog_2_method_2_code 27 = .ok (.iload 4, 2) := by decide +kernel
theorem dAn_seriesSize_29 : decode prog_2_method_2_code 29 = .ok (.ifCond .eq 7, 3) := by decide +kernel
theorem dAn_seriesSize_32 : decode prog_2_method_2_code 32 = .ok (.aload_n 2, 1) := by decide +kernel
theorem dAn_seriesSize_33 : decode prog_2_method_2_code 33 = .ok (.goto 7, 3) := by decide +kernel
theorem dAn_seriesSize_36 : decode prog_2_method_2_code 36 = .ok (.aload_n 0, 1) := by decide +kernel
theorem dAn_seriesSize_37 : decode prog_2_method_2_code 37 = .ok (.getfield 14, 3) := by decide +kernel
theorem dAn_seriesSize_40 : decode prog_2_method_2_code 40 = .ok (.astore 6, 2) := by decide +kernel
theorem dAn_seriesSize_42 : decode prog_2_method_2_code 42 = .ok (.aload_n 0, 1) := by decide +kernel
theorem dAn_seriesSize_43 : decode prog_2_method_2_code 43 = .ok (.getfield 20, 3) := by decide +kernel
theorem dAn_seriesSize_46 : decode prog_2_method_2_code 46 = .ok (.aload_n 1, 1) := by decide +kernel
theorem dAn_seriesSize_47 : decode prog_2_method_2_code 47 = .ok (.getfield 57, 3) := by decide +kernel
theorem dAn_seriesSize_50 : decode prog_2_method_2_code 50 = .ok (.aload_n 1, 1) := by decide +kernel
theorem dAn_seriesSize_51 : decode prog_2_method_2_code 51 = .ok (.getfield 62, 3) := by decide +kernel
theorem dAn_seriesSize_54 : decode prog_2_method_2_code 54 = .ok (.invokevirtual 65, 3) := by decide +kernel
theorem dAn_seriesSize_57 : decode prog_2_method_2_code 57 = .ok (.iconst 0, 1) := by decide +kernel
theorem dAn_seriesSize_58 : decode prog_2_method_2_code 58 = .ok (.istore 7, 2) := by decide +kernel
theorem dAn_seriesSize_60 : decode prog_2_method_2_code 60 = .ok (.iload 7, 2) := by decide +kernel
theorem dAn_seriesSize_62 : decode prog_2_method_2_code 62 = .ok (.aload_n 1, 1) := by decide +kernel
theorem dAn_seriesSize_63 : decode prog_2_method_2_code 63 = .ok (.getfield 62, 3) := by decide +kernel
theorem dAn_seriesSize_66 : decode prog_2_method_2_code 66 = .ok (.if_icmp .ge 90, 3) := by decide +kernel
theorem dAn_seriesSize_69 : decode prog_2_method_2_code 69 = .ok (.iconst 0, 1) := by decide +kernel
theorem dAn_seriesSize_70 : decode prog_2_method_2_code 70 = .ok (.istore 8, 2) := by decide +kernel
theorem dAn_seriesSize_72 : decode prog_2_method_2_code 72 = .ok (.iload 8, 2) := by decide +kernel
theorem dAn_seriesSize_74 : decode prog_2_method_2_code 74 = .ok (.aload_n 1, 1) := by decide +kernel
theorem dAn_seriesSize_75 : decode prog_2_method_2_code 75 = .ok (.getfield 62, 3) := by decide +kernel
theorem dAn_seriesSize_78 : decode prog_2_method_2_code 78 = .ok (.if_icmp .ge 72, 3) := by decide +kernel
theorem dAn_seriesSize_81 : decode prog_2_method_2_code 81 = .ok (.aload_n 0, 1) := by decide +kernel
theorem dAn_seriesSize_82 : decode prog_2_method_2_code 82 = .ok (.getfield 14, 3) := by decide +kernel
theorem dAn_seriesSize_85 : decode prog_2_method_2_code 85 = .ok (.iload 7, 2) := by decide +kernel
theorem dAn_seriesSize_87 : decode prog_2_method_2_code 87 = .ok (.invokevirtual 69, 3) := by decide +kernel
theorem dAn_seriesSize_90 : decode prog_2_method_2_code 90 = .ok (.ifCond .eq 54, 3) := by decide +kernel
theorem dAn_seriesSize_93 : decode prog_2_method_2_code 93 = .ok (.aload 6, 2) := by decide +kernel
theorem dAn_seriesSize_95 : decode prog_2_method_2_code 95 = .ok (.iload 8, 2) := by decide +kernel
theorem dAn_seriesSize_97 : decode prog_2_method_2_code 97 = .ok (.invokevirtual 69, 3) := by decide +kernel
theorem dAn_seriesSize_100 : decode prog_2_method_2_code 100 = .ok (.ifCond .eq 44, 3) := by decide +kernel
theorem dAn_seriesSize_103 : decode prog_2_method_2_code 103 = .ok (.aload_n 1, 1) := by decide +kernel
theorem dAn_seriesSize_104 : decode prog_2_method_2_code 104 = .ok (.aload_n 0, 1) := by decide +kernel
theorem dAn_seriesSize_105 : decode prog_2_method_2_code 105 = .ok (.getfield 14, 3) := by decide +kernel
theorem dAn_seriesSize_108 : decode prog_2_method_2_code 108 = .ok (.getfield 73, 3) := by decide +kernel
theorem dAn_seriesSize_111 : decode prog_2_method_2_code 111 = .ok (.iload 7, 2) := by decide +kernel
theorem dAn_seriesSize_113 : decode prog_2_method_2_code 113 = .ok (.iconst 5, 1) := by decide +kernel
theorem dAn_seriesSize_114 : decode prog_2_method_2_code 114 = .ok (.imul, 1) := by decide +kernel
theorem dAn_seriesSize_115 : decode prog_2_method_2_code 115 = .ok (.aload 6, 2) := by decide +kernel
theorem dAn_seriesSize_117 : decode prog_2_method_2_code 117 = .ok (.getfield 73, 3) := by decide +kernel
theorem dAn_seriesSize_120 : decode prog_2_method_2_code 120 = .ok (.iload 8, 2) := by decide +kernel
theorem dAn_seriesSize_122 : decode prog_2_method_2_code 122 = .ok (.iconst 5, 1) := by decide +kernel
theorem dAn_seriesSize_123 : decode prog_2_method_2_code 123 = .ok (.imul, 1) := by decide +kernel
theorem dAn_seriesSize_124 : decode prog_2_method_2_code 124 = .ok (.aload_n 0, 1) := by decide +kernel
theorem dAn_seriesSize_125 : decode prog_2_method_2_code 125 = .ok (.getfield 42, 3) := by decide +kernel
theorem dAn_seriesSize_128 : decode prog_2_method_2_code 128 = .ok (.invokevirtual 76, 3) := by decide +kernel
theorem dAn_seriesSize_131 : decode prog_2_method_2_code 131 = .ok (.aload_n 0, 1) := by decide +kernel
theorem dAn_seriesSize_132 : decode prog_2_method_2_code 132 = .ok (.getfield 20, 3) := by decide +kernel
theorem dAn_seriesSize_135 : decode prog_2_method_2_code 135 = .ok (.aload_n 0, 1) := by decide +kernel
theorem dAn_seriesSize_136 : decode prog_2_method_2_code 136 = .ok (.getfield 42, 3) := by decide +kernel
theorem dAn_seriesSize_139 : decode prog_2_method_2_code 139 = .ok (.iconst 0, 1) := by decide +kernel
theorem dAn_seriesSize_140 : decode prog_2_method_2_code 140 = .ok (.invokevirtual 80, 3) := by decide +kernel
theorem dAn_seriesSize_143 : decode prog_2_method_2_code 143 = .ok (.pop, 1) := by decide +kernel
theorem dAn_seriesSize_144 : decode prog_2_method_2_code 144 = .ok (.iinc 8 1, 3) := by decide +kernel
theorem dAn_seriesSize_147 : decode prog_2_method_2_code 147 = .ok (.goto (-75), 3) := by decide +kernel
theorem dAn_seriesSize_150 : decode prog_2_method_2_code 150 = .ok (.iinc 7 1, 3) := by decide +kernel
theorem dAn_seriesSize_153 : decode prog_2_method_2_code 153 = .ok (.goto (-93), 3) := by decide +kernel
theorem dAn_seriesSize_156 : decode prog_2_method_2_code 156 = .ok (.aload_n 0, 1) := by decide +kernel
theorem dAn_seriesSize_157 : decode prog_2_method_2_code 157 = .ok (.getfield 20, 3) := by decide +kernel
theorem dAn_seriesSize_160 : decode prog_2_method_2_code 160 = .ok (.getfield 53, 3) := by decide +kernel
theorem dAn_seriesSize_163 : decode prog_2_method_2_code 163 = .ok (.aload_n 0, 1) := by decide +kernel
theorem dAn_seriesSize_164 : decode prog_2_method_2_code 164 = .ok (.getfield 14, 3) := by decide +kernel
theorem dAn_seriesSize_167 : decode prog_2_method_2_code 167 = .ok (.getfield 53, 3) := by decide +kernel
theorem dAn_seriesSize_170 : decode prog_2_method_2_code 170 = .ok (.if_icmp .ne 11, 3) := by decide +kernel
theorem dAn_seriesSize_173 : decode prog_2_method_2_code 173 = .ok (.aload_n 0, 1) := by decide +kernel
theorem dAn_seriesSize_174 : decode prog_2_method_2_code 174 = .ok (.getfield 14, 3) := by decide +kernel
theorem dAn_seriesSize_177 : decode prog_2_method_2_code 177 = .ok (.getfield 53, 3) := by decide +kernel
theorem dAn_seriesSize_180 : decode prog_2_method_2_code 180 = .ok (.ireturn, 1) := by decide +kernel
theorem dAn_seriesSize_181 : decode prog_2_method_2_code 181 = .ok (.aload_n 0, 1) := by decide +kernel
theorem dAn_seriesSize_182 : decode prog_2_method_2_code 182 = .ok (.getfield 14, 3) := by decide +kernel
theorem dAn_seriesSize_185 : decode prog_2_method_2_code 185 = .ok (.aload_n 0, 1) := by decide +kernel
theorem dAn_seriesSize_186 : decode prog_2_method_2_code 186 = .ok (.getfield 20, 3) := by decide +kernel
theorem dAn_seriesSize_189 : decode prog_2_method_2_code 189 = .ok (.invokevirtual 49, 3) := by decide +kernel
theorem dAn_seriesSize_192 : decode prog_2_method_2_code 192 = .ok (.iinc 5 1, 3) := by decide +kernel
theorem dAn_seriesSize_195 : decode prog_2_method_2_code 195 = .ok (.goto (-184), 3) := by decide +kernel
theorem dAn_seriesSize_198 : decode prog_2_method_2_code 198 = .ok (.aload_n 0, 1) := by decide +kernel
theorem dAn_seriesSize_199 : decode prog_2_method_2_code 199 = .ok (.getfield 14, 3) := by decide +kernel
theorem dAn_seriesSize_202 : decode prog_2_method_2_code 202 = .ok (.getfield 53, 3) := by decide +kernel
theorem dAn_seriesSize_205 : decode prog_2_method_2_code 205 = .ok (.ireturn, 1) := by decide +kernel
theorem t_An_seriesSize {d : Nat} {x1 x2 x3 x4 : Int} {σ : SG} {Q : Int → SG → Prop} (h : inI x3 → inI x4 → (Tri d M_Ec_copyFrom [vA 43, vA x2] σ (fun r1 σ1 => L (d + 1) M_An_seriesSize 11 [vA 42, vA x1, vA x2, vI x3, vI x4, vI 0, vU, vU, vU] [] σ1 Q))) : Tri (d + 1) M_An_seriesSize [vA 42, vA x1, vA x2, vI x3, vI x4] σ Q :=
  Tri_intro rfl (Nat.le_of_ble_eq_true rfl) (ls := [vA 42, vA x1, vA x2, vI x3, vI x4, vU, vU, vU, vU]) rfl (fun hok => L_aload_n dAn_seriesSize_0 rfl (L_getF (b := 43) fw_An_14 rfl rfl (by decide) dAn_seriesSize_1 ⟨ob_42, L_aload_n dAn_seriesSize_4 rfl (L_callVV rfl cv_Ec_copyFrom (As := [vA x2]) rfl (tk4 206 rfl rfl) rfl (Nat.le_of_ble_eq_true rfl) dAn_seriesSize_5 ⟨ob_43, Tri.mono ((h (hok _ (List.mem_of_getElem? (i := 3) rfl)) (hok _ (List.mem_of_getElem? (i := 4) rfl)))) (fun r1 σ1 q1 => L_iconst dAn_seriesSize_8 in_0 (L_istore dAn_seriesSize_9 (by decide) q1))⟩)⟩))
theorem s_An_seriesSize_11 {d : Nat} {x1 x2 x3 x4 x5 : Int} {σ : SG} {Q : Int → SG → Prop} (h : (x3 ≤ x5 → Q (σ 43 5) σ) ∧ (x5 < x3 → (σ 43 5 ≤ 0 → Q (σ 43 5) σ) ∧ (0 < σ 43 5 → (x4 = 0 → obok 10 x1 ∧ obok 10 x1 ∧ Tri d M_Ec_begin [vA 46, vI (σ x1 1), vI (σ x1 2)] σ (fun r4 σ4 => L (d + 1) M_An_seriesSize 60 [vA 42, vA x1, vA x2, vI x3, vI x4, vI x5, vA 43, vI 0, vU] [] σ4 Q)) ∧ (x4 ≠ 0 → obok 10 x1 ∧ obok 10 x1 ∧ Tri d M_Ec_begin [vA 46, vI (σ x1 1), vI (σ x1 2)] σ (fun r5 σ5 => L (d + 1) M_An_seriesSize 60 [vA 42, vA x1, vA x2, vI x3, vI x4, vI x5, vA x2, vI 0, vU] [] σ5 Q))))) : L (d + 1) M_An_seriesSize 11 [vA 42, vA x1, vA x2, vI x3, vI x4, vI x5, vU, vU, vU] [] σ Q :=
  L_iload dAn_seriesSize_11 rfl (L_iload_n dAn_seriesSize_13 rfl (L_icmp_ge dAn_seriesSize_14 (by decide) ⟨fun c1 => L_aload_n dAn_seriesSize_198 rfl (L_getF (b := 43) fw_An_14 rfl rfl (by decide) dAn_seriesSize_199 ⟨ob_42, L_getf fw_An_53 rfl dAn_seriesSize_202 ⟨ob_43, L_ireturn rfl dAn_seriesSize_205 (h.1 c1)⟩⟩), fun c1 => L_aload_n dAn_seriesSize_17 rfl (L_getF (b := 43) fw_An_14 rfl rfl (by decide) dAn_seriesSize_18 ⟨ob_42, L_getf fw_An_53 rfl dAn_seriesSize_21 ⟨ob_43, L_if_le dAn_seriesSize_24 (by decide) ⟨fun c2 => L_aload_n dAn_seriesSize_198 rfl (L_getF (b := 43) fw_An_14 rfl rfl (by decide) dAn_seriesSize_199 ⟨ob_42, L_getf fw_An_53 rfl dAn_seriesSize_202 ⟨ob_43, L_ireturn rfl dAn_seriesSize_205 ((h.2 c1).1 c2)⟩⟩), fun c2 => L_iload dAn_seriesSize_27 rfl (L_if_eq dAn_seriesSize_29 (by decide) ⟨fun c3 => L_aload_n dAn_seriesSize_36 rfl (L_getF (b := 43) fw_An_14 rfl rfl (by decide) dAn_seriesSize_37 ⟨ob_42, L_astore dAn_seriesSize_40 (by decide) (by omega) (L_aload_n dAn_seriesSize_42 rfl (L_getF (b := 46) fw_An_20 rfl rfl (by decide) dAn_seriesSize_43 ⟨ob_42, L_aload_n dAn_seriesSize_46 rfl (L_getf fw_An_57 rfl dAn_seriesSize_47 ⟨(((h.2 c1).2 c2).1 c3).1, L_aload_n dAn_seriesSize_50 rfl (L_getf fw_An_62 rfl dAn_seriesSize_51 ⟨(((h.2 c1).2 c2).1 c3).2.1, L_callVV rfl cv_Ec_begin (As := [vI (σ x1 1), vI (σ x1 2)]) rfl (tk4 210 rfl rfl) rfl (Nat.le_of_ble_eq_true rfl) dAn_seriesSize_54 ⟨ob_46, Tri.mono ((((h.2 c1).2 c2).1 c3).2.2) (fun r4 σ4 q4 => L_iconst dAn_seriesSize_57 in_0 (L_istore dAn_seriesSize_58 (by decide) q4))⟩⟩)⟩)⟩))⟩), fun c3 => L_aload_n dAn_seriesSize_32 rfl (L_goto dAn_seriesSize_33 (by decide) (L_astoreA dAn_seriesSize_40 (by decide) (L_aload_n dAn_seriesSize_42 rfl (L_getF (b := 46) fw_An_20 rfl rfl (by decide) dAn_seriesSize_43 ⟨ob_42, L_aload_n dAn_seriesSize_46 rfl (L_getf fw_An_57 rfl dAn_seriesSize_47 ⟨(((h.2 c1).2 c2).2 c3).1, L_aload_n dAn_seriesSize_50 rfl (L_getf fw_An_62 rfl dAn_seriesSize_51 ⟨(((h.2 c1).2 c2).2 c3).2.1, L_callVV rfl cv_Ec_begin (As := [vI (σ x1 1), vI (σ x1 2)]) rfl (tk4 210 rfl rfl) rfl (Nat.le_of_ble_eq_true rfl) dAn_seriesSize_54 ⟨ob_46, Tri.mono ((((h.2 c1).2 c2).2 c3).2.2) (fun r5 σ5 q5 => L_iconst dAn_seriesSize_57 in_0 (L_istore dAn_seriesSize_58 (by decide) q5))⟩⟩)⟩)⟩))))⟩)⟩⟩⟩)⟩))
theorem s_An_seriesSize_60 {d : Nat} {x1 x2 x3 x4 x5 x6 x7 : Int} {σ : SG} {Q : Int → SG → Prop} (h : obok 10 x1 ∧ (σ x1 2 ≤ x7 → (σ 46 5 ≠ σ 43 5 → Tri d M_Ec_copyFrom [vA 43, vA 46] σ (fun r3 σ3 => L (d + 1) M_An_seriesSize 11 [vA 42, vA x1, vA x2, vI x3, vI x4, vI (w32 (x5 + 1)), vU, vU, vU] [] σ3 Q)) ∧ (σ 46 5 = σ 43 5 → Q (σ 43 5) σ)) ∧ (x7 < σ x1 2 → L (d + 1) M_An_seriesSize 72 [vA 42, vA x1, vA x2, vI x3, vI x4, vI x5, vA x6, vI x7, vI 0] [] σ Q)) : L (d + 1) M_An_seriesSize 60 [vA 42, vA x1, vA x2, vI x3, vI x4, vI x5, vA x6, vI x7, vU] [] σ Q :=
  L_iload dAn_seriesSize_60 rfl (L_aload_n dAn_seriesSize_62 rfl (L_getf fw_An_62 rfl dAn_seriesSize_63 ⟨h.1, L_icmp_ge dAn_seriesSize_66 (by decide) ⟨fun c1 => L_aload_n dAn_seriesSize_156 rfl (L_getF (b := 46) fw_An_20 rfl rfl (by decide) dAn_seriesSize_157 ⟨ob_42, L_getf fw_An_53 rfl dAn_seriesSize_160 ⟨ob_46, L_aload_n dAn_seriesSize_163 rfl (L_getF (b := 43) fw_An_14 rfl rfl (by decide) dAn_seriesSize_164 ⟨ob_42, L_getf fw_An_53 rfl dAn_seriesSize_167 ⟨ob_43, L_icmp_ne dAn_seriesSize_170 (by decide) ⟨fun c2 => L_aload_n dAn_seriesSize_181 rfl (L_getF (b := 43) fw_An_14 rfl rfl (by decide) dAn_seriesSize_182 ⟨ob_42, L_aload_n dAn_seriesSize_185 rfl (L_getF (b := 46) fw_An_20 rfl rfl (by decide) dAn_seriesSize_186 ⟨ob_42, L_callVV rfl cv_Ec_copyFrom (As := [vA 46]) rfl (tk4 206 rfl rfl) rfl (Nat.le_of_ble_eq_true rfl) dAn_seriesSize_189 ⟨ob_43, Tri.mono ((h.2.1 c1).1 c2) (fun r3 σ3 q3 => L_iinc dAn_seriesSize_192 rfl (by decide) (L_goto dAn_seriesSize_195 (by decide) (L_weak [true, true, true, true, true, true, false, false, true] q3)))⟩⟩)⟩), fun c2 => L_aload_n dAn_seriesSize_173 rfl (L_getF (b := 43) fw_An_14 rfl rfl (by decide) dAn_seriesSize_174 ⟨ob_42, L_getf fw_An_53 rfl dAn_seriesSize_177 ⟨ob_43, L_ireturn rfl dAn_seriesSize_180 ((h.2.1 c1).2 c2)⟩⟩)⟩⟩⟩)⟩⟩), fun c1 => L_iconst dAn_seriesSize_69 in_0 (L_istore dAn_seriesSize_70 (by decide) (h.2.2 c1))⟩⟩))
theorem s_An_seriesSize_72 {d : Nat} {x1 x2 x3 x4 x5 x6 x7 x8 : Int} {σ : SG} {Q : Int → SG → Prop} (h : obok 10 x1 ∧ (σ x1 2 ≤ x8 → L (d + 1) M_An_seriesSize 60 [vA 42, vA x1, vA x2, vI x3, vI x4, vI x5, vA x6, vI (w32 (x7 + 1)), vU] [] σ Q) ∧ (x8 < σ x1 2 → Tri d M_Ec_leadsAt [vA 43, vI x7] σ (fun r2 σ2 => (r2 = 0 → L (d + 1) M_An_seriesSize 72 [vA 42, vA x1, vA x2, vI x3, vI x4, vI x5, vA x6, vI x7, vI (w32 (x8 + 1))] [] σ2 Q) ∧ (r2 ≠ 0 → obok 2 x6 ∧ Tri d M_Ec_leadsAt [vA x6, vI x8] σ2 (fun r4 σ4 => (r4 = 0 → L (d + 1) M_An_seriesSize 72 [vA 42, vA x1, vA x2, vI x3, vI x4, vI x5, vA x6, vI x7, vI (w32 (x8 + 1))] [] σ4 Q) ∧ (r4 ≠ 0 → obok 2 x6 ∧ obok 10 x1 ∧ Tri d M_Wd_bracketInto [vA x1, vA 44, vI (w32 (x7 * 5)), vA (x6 + 1), vI (w32 (x8 * 5)), vA 66] σ4 (fun r6 σ6 => Tri d M_Ec_add [vA 46, vA 66, vI 0] σ6 (fun r7 σ7 => L (d + 1) M_An_seriesSize 72 [vA 42, vA x1, vA x2, vI x3, vI x4, vI x5, vA x6, vI x7, vI (w32 (x8 + 1))] [] σ7 Q)))))))) : L (d + 1) M_An_seriesSize 72 [vA 42, vA x1, vA x2, vI x3, vI x4, vI x5, vA x6, vI x7, vI x8] [] σ Q :=
  L_iload dAn_seriesSize_72 rfl (L_aload_n dAn_seriesSize_74 rfl (L_getf fw_An_62 rfl dAn_seriesSize_75 ⟨h.1, L_icmp_ge dAn_seriesSize_78 (by decide) ⟨fun c1 => L_iinc dAn_seriesSize_150 rfl (by decide) (L_goto dAn_seriesSize_153 (by decide) (L_weak [true, true, true, true, true, true, true, true, false] (h.2.1 c1))), fun c1 => L_aload_n dAn_seriesSize_81 rfl (L_getF (b := 43) fw_An_14 rfl rfl (by decide) dAn_seriesSize_82 ⟨ob_42, L_iload dAn_seriesSize_85 rfl (L_callVI rfl cv_Ec_leadsAt (As := [vI x7]) rfl (tk4 175 rfl rfl) rfl (Nat.le_of_ble_eq_true rfl) dAn_seriesSize_87 ⟨ob_43, Tri.mono (h.2.2 c1) (fun r2 σ2 q2 => L_if_eq dAn_seriesSize_90 (by decide) ⟨fun c3 => L_iinc dAn_seriesSize_144 rfl (by decide) (L_goto dAn_seriesSize_147 (by decide) (q2.1 c3)), fun c3 => L_aload dAn_seriesSize_93 rfl (L_iload dAn_seriesSize_95 rfl (L_callVI rfl cv_Ec_leadsAt (As := [vI x8]) rfl (tk4 175 rfl rfl) rfl (Nat.le_of_ble_eq_true rfl) dAn_seriesSize_97 ⟨(q2.2 c3).1, Tri.mono ((q2.2 c3).2) (fun r4 σ4 q4 => L_if_eq dAn_seriesSize_100 (by decide) ⟨fun c5 => L_iinc dAn_seriesSize_144 rfl (by decide) (L_goto dAn_seriesSize_147 (by decide) (q4.1 c5)), fun c5 => L_aload_n dAn_seriesSize_103 rfl (L_aload_n dAn_seriesSize_104 rfl (L_getF (b := 43) fw_An_14 rfl rfl (by decide) dAn_seriesSize_105 ⟨ob_42, L_getF (b := 44) fw_An_73 rfl rfl (by decide) dAn_seriesSize_108 ⟨ob_43, L_iload dAn_seriesSize_111 rfl (L_iconst dAn_seriesSize_113 in_5 (L_imul dAn_seriesSize_114 (L_aload dAn_seriesSize_115 rfl (L_getF (b := x6 + 1) fw_An_73 rfl rfl (by omega) dAn_seriesSize_117 ⟨(q4.2 c5).1, L_iload dAn_seriesSize_120 rfl (L_iconst dAn_seriesSize_122 in_5 (L_imul dAn_seriesSize_123 (L_aload_n dAn_seriesSize_124 rfl (L_getF (b := 66) fw_An_42 rfl rfl (by decide) dAn_seriesSize_125 ⟨ob_42, L_callVV rfl cv_Wd_bracketInto (As := [vA 44, vI (w32 (x7 * 5)), vA (x6 + 1), vI (w32 (x8 * 5)), vA 66]) rfl (tk4 178 rfl rfl) rfl (Nat.le_of_ble_eq_true rfl) dAn_seriesSize_128 ⟨(q4.2 c5).2.1, Tri.mono ((q4.2 c5).2.2) (fun r6 σ6 q6 => L_aload_n dAn_seriesSize_131 rfl (L_getF (b := 46) fw_An_20 rfl rfl (by decide) dAn_seriesSize_132 ⟨ob_42, L_aload_n dAn_seriesSize_135 rfl (L_getF (b := 66) fw_An_42 rfl rfl (by decide) dAn_seriesSize_136 ⟨ob_42, L_iconst dAn_seriesSize_139 in_0 (L_callVI rfl cv_Ec_add (As := [vA 66, vI 0]) rfl (tk4 179 rfl rfl) rfl (Nat.le_of_ble_eq_true rfl) dAn_seriesSize_140 ⟨ob_46, Tri.mono q6 (fun r7 σ7 q7 => L_pop dAn_seriesSize_143 n01 (L_iinc dAn_seriesSize_144 rfl (by decide) (L_goto dAn_seriesSize_147 (by decide) q7)))⟩)⟩)⟩))⟩⟩))))⟩))))⟩⟩))⟩)⟩))⟩)⟩)⟩)⟩⟩))
theorem dAn_wholeSeries_0 : decode prog_2_method_3_code 0 = .ok (.aload_n 0, 1) := by decide +kernel
theorem dAn_wholeSeries_1 : decode prog_2_method_3_code 1 = .ok (.getfield 23, 3) := by decide +kernel
theorem dAn_wholeSeries_4 : decode prog_2_method_3_code 4 = .ok (.aload_n 1, 1) := by decide +kernel
theorem dAn_wholeSeries_5 : decode prog_2_method_3_code 5 = .ok (.getfield 57, 3) := by decide +kernel
theorem dAn_wholeSeries_8 : decode prog_2_method_3_code 8 = .ok (.aload_n 1, 1) := by decide +kernel
theorem dAn_wholeSeries_9 : decode prog_2_method_3_code 9 = .ok (.getfield 62, 3) := by decide +kernel
theorem dAn_wholeSeries_12 : decode prog_2_method_3_code 12 = .ok (.invokevirtual 84, 3) := by decide +kernel
theorem dAn_wholeSeries_15 : decode prog_2_method_3_code 15 = .ok (.aload_n 0, 1) := by decide +kernel
theorem dAn_wholeSeries_16 : decode prog_2_method_3_code 16 = .ok (.aload_n 1, 1) := by decide +kernel
theorem dAn_wholeSeries_17 : decode prog_2_method_3_code 17 = .ok (.aload_n 0, 1) := by decide +kernel
theorem dAn_wholeSeries_18 : decode prog_2_method_3_code 18 = .ok (.getfield 23, 3) := by decide +kernel
theorem dAn_wholeSeries_21 : decode prog_2_method_3_code 21 = .ok (.iload_n 2, 1) := by decide +kernel
theorem dAn_wholeSeries_22 : decode prog_2_method_3_code 22 = .ok (.iload_n 3, 1) := by decide +kernel
theorem dAn_wholeSeries_23 : decode prog_2_method_3_code 23 = .ok (.invokevirtual 87, 3) := by decide +kernel
theorem dAn_wholeSeries_26 : decode prog_2_method_3_code 26 = .ok (.ireturn, 1) := by decide +kernel
theorem t_An_wholeSeries {d : Nat} {x1 x2 x3 : Int} {σ : SG} {Q : Int → SG → Prop} (h : inI x2 → inI x3 → (obok 10 x1 ∧ obok 10 x1 ∧ Tri d M_Ec_beginWhole [vA 49, vI (σ x1 1), vI (σ x1 2)] σ (fun r1 σ1 => Tri d M_An_seriesSize [vA 42, vA x1, vA 49, vI x2, vI x3] σ1 (fun r2 σ2 => Q r2 σ2)))) : Tri (d + 1) M_An_wholeSeries [vA 42, vA x1, vI x2, vI x3] σ Q :=
  Tri_intro rfl (Nat.le_of_ble_eq_true rfl) (ls := [vA 42, vA x1, vI x2, vI x3]) rfl (fun hok => L_aload_n dAn_wholeSeries_0 rfl (L_getF (b := 49) fw_An_23 rfl rfl (by decide) dAn_wholeSeries_1 ⟨ob_42, L_aload_n dAn_wholeSeries_4 rfl (L_getf fw_An_57 rfl dAn_wholeSeries_5 ⟨(h (hok _ (List.mem_of_getElem? (i := 2) rfl)) (hok _ (List.mem_of_getElem? (i := 3) rfl))).1, L_aload_n dAn_wholeSeries_8 rfl (L_getf fw_An_62 rfl dAn_wholeSeries_9 ⟨(h (hok _ (List.mem_of_getElem? (i := 2) rfl)) (hok _ (List.mem_of_getElem? (i := 3) rfl))).2.1, L_callVV rfl cv_Ec_beginWhole (As := [vI (σ x1 1), vI (σ x1 2)]) rfl (tk4 196 rfl rfl) rfl (Nat.le_of_ble_eq_true rfl) dAn_wholeSeries_12 ⟨ob_49, Tri.mono ((h (hok _ (List.mem_of_getElem? (i := 2) rfl)) (hok _ (List.mem_of_getElem? (i := 3) rfl))).2.2) (fun r1 σ1 q1 => L_aload_n dAn_wholeSeries_15 rfl (L_aload_n dAn_wholeSeries_16 rfl (L_aload_n dAn_wholeSeries_17 rfl (L_getF (b := 49) fw_An_23 rfl rfl (by decide) dAn_wholeSeries_18 ⟨ob_42, L_iload_n dAn_wholeSeries_21 rfl (L_iload_n dAn_wholeSeries_22 rfl (L_callVI rfl cv_An_seriesSize (As := [vA x1, vA 49, vI x2, vI x3]) rfl (tk4 202 rfl rfl) rfl (Nat.le_of_ble_eq_true rfl) dAn_wholeSeries_23 ⟨ob_42, Tri.mono q1 (fun r2 σ2 q2 => L_ireturn rfl dAn_wholeSeries_26 q2)⟩))⟩))))⟩⟩)⟩)⟩))
theorem dAn_centreSize_0 : decode prog_2_method_4_code 0 = .ok (.aload_n 0, 1) := by decide +kernel
theorem dAn_centreSize_1 : decode prog_2_method_4_code 1 = .ok (.getfield 23, 3) := by decide +kernel
theorem dAn_centreSize_4 : decode prog_2_method_4_code 4 = .ok (.aload_n 1, 1) := by decide +kernel
theorem dAn_centreSize_5 : decode prog_2_method_4_code 5 = .ok (.getfield 57, 3) := by decide +kernel
theorem dAn_centreSize_8 : decode prog_2_method_4_code 8 = .ok (.aload_n 1, 1) := by decide +kernel
theorem dAn_centreSize_9 : decode prog_2_method_4_code 9 = .ok (.getfield 62, 3) := by decide +kernel
theorem dAn_centreSize_12 : decode prog_2_method_4_code 12 = .ok (.invokevirtual 84, 3) := by decide +kernel
theorem dAn_centreSize_15 : decode prog_2_method_4_code 15 = .ok (.aload_n 0, 1) := by decide +kernel
theorem dAn_centreSize_16 : decode prog_2_method_4_code 16 = .ok (.getfield 26, 3) := by decide +kernel
theorem dAn_centreSize_19 : decode prog_2_method_4_code 19 = .ok (.aload_n 1, 1) := by decide +kernel
theorem dAn_centreSize_20 : decode prog_2_method_4_code 20 = .ok (.getfield 57, 3) := by decide +kernel
theorem dAn_centreSize_23 : decode prog_2_method_4_code 23 = .ok (.aload_n 1, 1) := by decide +kernel
theorem dAn_centreSize_24 : decode prog_2_method_4_code 24 = .ok (.getfield 62, 3) := by decide +kernel
theorem dAn_centreSize_27 : decode prog_2_method_4_code 27 = .ok (.invokevirtual 65, 3) := by decide +kernel
theorem dAn_centreSize_30 : decode prog_2_method_4_code 30 = .ok (.aload_n 0, 1) := by decide +kernel
theorem dAn_centreSize_31 : decode prog_2_method_4_code 31 = .ok (.aload_n 1, 1) := by decide +kernel
theorem dAn_centreSize_32 : decode prog_2_method_4_code 32 = .ok (.aload_n 0, 1) := by decide +kernel
theorem dAn_centreSize_33 : decode prog_2_method_4_code 33 = .ok (.getfield 23, 3) := by decide +kernel
theorem dAn_centreSize_36 : decode prog_2_method_4_code 36 = .ok (.aload_n 0, 1) := by decide +kernel
theorem dAn_centreSize_37 : decode prog_2_method_4_code 37 = .ok (.getfield 26, 3) := by decide +kernel
theorem dAn_centreSize_40 : decode prog_2_method_4_code 40 = .ok (.invokevirtual 91, 3) := by decide +kernel
theorem dAn_centreSize_43 : decode prog_2_method_4_code 43 = .ok (.ireturn, 1) := by decide +kernel
theorem t_An_centreSize {d : Nat} {x1 : Int} {σ : SG} {Q : Int → SG → Prop} (h : obok 10 x1 ∧ obok 10 x1 ∧ Tri d M_Ec_beginWhole [vA 49, vI (σ x1 1), vI (σ x1 2)] σ (fun r1 σ1 => obok 10 x1 ∧ obok 10 x1 ∧ Tri d M_Ec_begin [vA 52, vI (σ1 x1 1), vI (σ1 x1 2)] σ1 (fun r2 σ2 => Tri d M_An_sizeOfMovers [vA 42, vA x1, vA 49, vA 52] σ2 (fun r3 σ3 => Q r3 σ3)))) : Tri (d + 1) M_An_centreSize [vA 42, vA x1] σ Q :=
  Tri_intro rfl (Nat.le_of_ble_eq_true rfl) (ls := [vA 42, vA x1]) rfl (fun hok => L_aload_n dAn_centreSize_0 rfl (L_getF (b := 49) fw_An_23 rfl rfl (by decide) dAn_centreSize_1 ⟨ob_42, L_aload_n dAn_centreSize_4 rfl (L_getf fw_An_57 rfl dAn_centreSize_5 ⟨h.1, L_aload_n dAn_centreSize_8 rfl (L_getf fw_An_62 rfl dAn_centreSize_9 ⟨h.2.1, L_callVV rfl cv_Ec_beginWhole (As := [vI (σ x1 1), vI (σ x1 2)]) rfl (tk4 196 rfl rfl) rfl (Nat.le_of_ble_eq_true rfl) dAn_centreSize_12 ⟨ob_49, Tri.mono (h.2.2) (fun r1 σ1 q1 => L_aload_n dAn_centreSize_15 rfl (L_getF (b := 52) fw_An_26 rfl rfl (by decide) dAn_centreSize_16 ⟨ob_42, L_aload_n dAn_centreSize_19 rfl (L_getf fw_An_57 rfl dAn_centreSize_20 ⟨q1.1, L_aload_n dAn_centreSize_23 rfl (L_getf fw_An_62 rfl dAn_centreSize_24 ⟨q1.2.1, L_callVV rfl cv_Ec_begin (As := [vI (σ1 x1 1), vI (σ1 x1 2)]) rfl (tk4 210 rfl rfl) rfl (Nat.le_of_ble_eq_true rfl) dAn_centreSize_27 ⟨ob_52, Tri.mono q1.2.2 (fun r2 σ2 q2 => L_aload_n dAn_centreSize_30 rfl (L_aload_n dAn_centreSize_31 rfl (L_aload_n dAn_centreSize_32 rfl (L_getF (b := 49) fw_An_23 rfl rfl (by decide) dAn_centreSize_33 ⟨ob_42, L_aload_n dAn_centreSize_36 rfl (L_getF (b := 52) fw_An_26 rfl rfl (by decide) dAn_centreSize_37 ⟨ob_42, L_callVI rfl cv_An_sizeOfMovers (As := [vA x1, vA 49, vA 52]) rfl (tk4 223 rfl rfl) rfl (Nat.le_of_ble_eq_true rfl) dAn_centreSize_40 ⟨ob_42, Tri.mono q2 (fun r3 σ3 q3 => L_ireturn rfl dAn_centreSize_43 q3)⟩⟩)⟩))))⟩⟩)⟩)⟩))⟩⟩)⟩)⟩))
theorem dAn_centralizerSize_0 : decode prog_2_method_5_code 0 = .ok (.aload_n 1, 1) := by decide +kernel
theorem dAn_centralizerSize_1 : decode prog_2_method_5_code 1 = .ok (.iload_n 2, 1) := by decide +kernel
theorem dAn_centralizerSize_2 : decode prog_2_method_5_code 2 = .ok (.aload_n 0, 1) := by decide +kernel
theorem dAn_centralizerSize_3 : decode prog_2_method_5_code 3 = .ok (.getfield 42, 3) := by decide +kernel
theorem dAn_centralizerSize_6 : decode prog_2_method_5_code 6 = .ok (.iconst 0, 1) := by decide +kernel
theorem dAn_centralizerSize_7 : decode prog_2_method_5_code 7 = .ok (.invokevirtual 95, 3) := by decide +kernel
theorem dAn_centralizerSize_10 : decode prog_2_method_5_code 10 = .ok (.aload_n 0, 1) := by decide +kernel
theorem dAn_centralizerSize_11 : decode prog_2_method_5_code 11 = .ok (.getfield 29, 3) := by decide +kernel
theorem dAn_centralizerSize_14 : decode prog_2_method_5_code 14 = .ok (.aload_n 1, 1) := by decide +kernel
theorem dAn_centralizerSize_15 : decode prog_2_method_5_code 15 = .ok (.getfield 57, 3) := by decide +kernel
theorem dAn_centralizerSize_18 : decode prog_2_method_5_code 18 = .ok (.aload_n 1, 1) := by decide +kernel
theorem dAn_centralizerSize_19 : decode prog_2_method_5_code 19 = .ok (.getfield 62, 3) := by decide +kernel
theorem dAn_centralizerSize_22 : decode prog_2_method_5_code 22 = .ok (.invokevirtual 65, 3) := by decide +kernel
theorem dAn_centralizerSize_25 : decode prog_2_method_5_code 25 = .ok (.aload_n 0, 1) := by decide +kernel
theorem dAn_centralizerSize_26 : decode prog_2_method_5_code 26 = .ok (.getfield 29, 3) := by decide +kernel
theorem dAn_centralizerSize_29 : decode prog_2_method_5_code 29 = .ok (.aload_n 0, 1) := by decide +kernel
theorem dAn_centralizerSize_30 : decode prog_2_method_5_code 30 = .ok (.getfield 42, 3) := by decide +kernel
theorem dAn_centralizerSize_33 : decode prog_2_method_5_code 33 = .ok (.iconst 0, 1) := by decide +kernel
theorem dAn_centralizerSize_34 : decode prog_2_method_5_code 34 = .ok (.invokevirtual 80, 3) := by decide +kernel
theorem dAn_centralizerSize_37 : decode prog_2_method_5_code 37 = .ok (.pop, 1) := by decide +kernel
theorem dAn_centralizerSize_38 : decode prog_2_method_5_code 38 = .ok (.aload_n 0, 1) := by decide +kernel
theorem dAn_centralizerSize_39 : decode prog_2_method_5_code 39 = .ok (.getfield 26, 3) := by decide +kernel
theorem dAn_centralizerSize_42 : decode prog_2_method_5_code 42 = .ok (.aload_n 1, 1) := by decide +kernel
theorem dAn_centralizerSize_43 : decode prog_2_method_5_code 43 = .ok (.getfield 57, 3) := by decide +kernel
theorem dAn_centralizerSize_46 : decode prog_2_method_5_code 46 = .ok (.aload_n 1, 1) := by decide +kernel
theorem dAn_centralizerSize_47 : decode prog_2_method_5_code 47 = .ok (.getfield 62, 3) := by decide +kernel
theorem dAn_centralizerSize_50 : decode prog_2_method_5_code 50 = .ok (.invokevirtual 65, 3) := by decide +kernel
theorem dAn_centralizerSize_53 : decode prog_2_method_5_code 53 = .ok (.aload_n 0, 1) := by decide +kernel
theorem dAn_centralizerSize_54 : decode prog_2_method_5_code 54 = .ok (.aload_n 1, 1) := by decide +kernel
theorem dAn_centralizerSize_55 : decode prog_2_method_5_code 55 = .ok (.aload_n 0, 1) := by decide +kernel
theorem dAn_centralizerSize_56 : decode prog_2_method_5_code 56 = .ok (.getfield 29, 3) := by decide +kernel
theorem dAn_centralizerSize_59 : decode prog_2_method_5_code 59 = .ok (.aload_n 0, 1) := by decide +kernel
theorem dAn_centralizerSize_60 : decode prog_2_method_5_code 60 = .ok (.getfield 26, 3) := by decide +kernel
theorem dAn_centralizerSize_63 : decode prog_2_method_5_code 63 = .ok (.invokevirtual 91, 3) := by decide +kernel
theorem dAn_centralizerSize_66 : decode prog_2_method_5_code 66 = .ok (.ireturn, 1) := by decide +kernel
theorem t_An_centralizerSize {d : Nat} {x1 x2 : Int} {σ : SG} {Q : Int → SG → Prop} (h : inI x2 → (obok 10 x1 ∧ Tri d M_Wd_unpack [vA x1, vI x2, vA 66, vI 0] σ (fun r1 σ1 => obok 10 x1 ∧ obok 10 x1 ∧ Tri d M_Ec_begin [vA 55, vI (σ1 x1 1), vI (σ1 x1 2)] σ1 (fun r2 σ2 => Tri d M_Ec_add [vA 55, vA 66, vI 0] σ2 (fun r3 σ3 => obok 10 x1 ∧ obok 10 x1 ∧ Tri d M_Ec_begin [vA 52, vI (σ3 x1 1), vI (σ3 x1 2)] σ3 (fun r4 σ4 => Tri d M_An_sizeOfMovers [vA 42, vA x1, vA 55, vA 52] σ4 (fun r5 σ5 => Q r5 σ5))))))) : Tri (d + 1) M_An_centralizerSize [vA 42, vA x1, vI x2] σ Q :=
  Tri_intro rfl (Nat.le_of_ble_eq_true rfl) (ls := [vA 42, vA x1, vI x2]) rfl (fun hok => L_aload_n dAn_centralizerSize_0 rfl (L_iload_n dAn_centralizerSize_1 rfl (L_aload_n dAn_centralizerSize_2 rfl (L_getF (b := 66) fw_An_42 rfl rfl (by decide) dAn_centralizerSize_3 ⟨ob_42, L_iconst dAn_centralizerSize_6 in_0 (L_callVV rfl cv_Wd_unpack (As := [vI x2, vA 66, vI 0]) rfl (tk5 0 rfl rfl) rfl (Nat.le_of_ble_eq_true rfl) dAn_centralizerSize_7 ⟨(h (hok _ (List.mem_of_getElem? (i := 2) rfl))).1, Tri.mono ((h (hok _ (List.mem_of_getElem? (i := 2) rfl))).2) (fun r1 σ1 q1 => L_aload_n dAn_centralizerSize_10 rfl (L_getF (b := 55) fw_An_29 rfl rfl (by decide) dAn_centralizerSize_11 ⟨ob_42, L_aload_n dAn_centralizerSize_14 rfl (L_getf fw_An_57 rfl dAn_centralizerSize_15 ⟨q1.1, L_aload_n dAn_centralizerSize_18 rfl (L_getf fw_An_62 rfl dAn_centralizerSize_19 ⟨q1.2.1, L_callVV rfl cv_Ec_begin (As := [vI (σ1 x1 1), vI (σ1 x1 2)]) rfl (tk4 210 rfl rfl) rfl (Nat.le_of_ble_eq_true rfl) dAn_centralizerSize_22 ⟨ob_55, Tri.mono q1.2.2 (fun r2 σ2 q2 => L_aload_n dAn_centralizerSize_25 rfl (L_getF (b := 55) fw_An_29 rfl rfl (by decide) dAn_centralizerSize_26 ⟨ob_42, L_aload_n dAn_centralizerSize_29 rfl (L_getF (b := 66) fw_An_42 rfl rfl (by decide) dAn_centralizerSize_30 ⟨ob_42, L_iconst dAn_centralizerSize_33 in_0 (L_callVI rfl cv_Ec_add (As := [vA 66, vI 0]) rfl (tk4 179 rfl rfl) rfl (Nat.le_of_ble_eq_true rfl) dAn_centralizerSize_34 ⟨ob_55, Tri.mono q2 (fun r3 σ3 q3 => L_pop dAn_centralizerSize_37 n01 (L_aload_n dAn_centralizerSize_38 rfl (L_getF (b := 52) fw_An_26 rfl rfl (by decide) dAn_centralizerSize_39 ⟨ob_42, L_aload_n dAn_centralizerSize_42 rfl (L_getf fw_An_57 rfl dAn_centralizerSize_43 ⟨q3.1, L_aload_n dAn_centralizerSize_46 rfl (L_getf fw_An_62 rfl dAn_centralizerSize_47 ⟨q3.2.1, L_callVV rfl cv_Ec_begin (As := [vI (σ3 x1 1), vI (σ3 x1 2)]) rfl (tk4 210 rfl rfl) rfl (Nat.le_of_ble_eq_true rfl) dAn_centralizerSize_50 ⟨ob_52, Tri.mono q3.2.2 (fun r4 σ4 q4 => L_aload_n dAn_centralizerSize_53 rfl (L_aload_n dAn_centralizerSize_54 rfl (L_aload_n dAn_centralizerSize_55 rfl (L_getF (b := 55) fw_An_29 rfl rfl (by decide) dAn_centralizerSize_56 ⟨ob_42, L_aload_n dAn_centralizerSize_59 rfl (L_getF (b := 52) fw_An_26 rfl rfl (by decide) dAn_centralizerSize_60 ⟨ob_42, L_callVI rfl cv_An_sizeOfMovers (As := [vA x1, vA 55, vA 52]) rfl (tk4 223 rfl rfl) rfl (Nat.le_of_ble_eq_true rfl) dAn_centralizerSize_63 ⟨ob_42, Tri.mono q4 (fun r5 σ5 q5 => L_ireturn rfl dAn_centralizerSize_66 q5)⟩⟩)⟩))))⟩⟩)⟩)⟩)))⟩)⟩)⟩))⟩⟩)⟩)⟩))⟩)⟩))))
theorem dAn_sizeOfMovers_0 : decode prog_2_method_6_code 0 = .ok (.aload_n 0, 1) := by decide +kernel
theorem dAn_sizeOfMovers_1 : decode prog_2_method_6_code 1 = .ok (.getfield 32, 3) := by decide +kernel
theorem dAn_sizeOfMovers_4 : decode prog_2_method_6_code 4 = .ok (.aload_n 1, 1) := by decide +kernel
theorem dAn_sizeOfMovers_5 : decode prog_2_method_6_code 5 = .ok (.getfield 57, 3) := by decide +kernel
theorem dAn_sizeOfMovers_8 : decode prog_2_method_6_code 8 = .ok (.aload_n 1, 1) := by decide +kernel
theorem dAn_sizeOfMovers_9 : decode prog_2_method_6_code 9 = .ok (.getfield 62, 3) := by decide +kernel
theorem dAn_sizeOfMovers_12 : decode prog_2_method_6_code 12 = .ok (.invokevirtual 65, 3) := by decide +kernel
theorem dAn_sizeOfMovers_15 : decode prog_2_method_6_code 15 = .ok (.iconst 0, 1) := by decide +kernel
theorem dAn_sizeOfMovers_16 : decode prog_2_method_6_code 16 = .ok (.istore 4, 2) := by decide +kernel
theorem dAn_sizeOfMovers_18 : decode prog_2_method_6_code 18 = .ok (.iload 4, 2) := by decide +kernel
theorem dAn_sizeOfMovers_20 : decode prog_2_method_6_code 20 = .ok (.aload_n 1, 1) := by decide +kernel
theorem dAn_sizeOfMovers_21 : decode prog_2_method_6_code 21 = .ok (.getfield 62, 3) := by decide +kernel
theorem dAn_sizeOfMovers_24 : decode prog_2_method_6_code 24 = .ok (.if_icmp .ge 27, 3) := by decide +kernel
theorem dAn_sizeOfMovers_27 : decode prog_2_method_6_code 27 = .ok (.aload_n 2, 1) := by decide +kernel
theorem dAn_sizeOfMovers_28 : decode prog_2_method_6_code 28 = .ok (.iload 4, 2) := by decide +kernel
theorem dAn_sizeOfMovers_30 : decode prog_2_method_6_code 30 = .ok (.invokevirtual 69, 3) := by decide +kernel
theorem dAn_sizeOfMovers_33 : decode prog_2_method_6_code 33 = .ok (.ifCond .eq 12, 3) := by decide +kernel
theorem dAn_sizeOfMovers_36 : decode prog_2_method_6_code 36 = .ok (.aload_n 0, 1) := by decide +kernel
theorem dAn_sizeOfMovers_37 : decode prog_2_method_6_code 37 = .ok (.aload_n 1, 1) := by decide +kernel
theorem dAn_sizeOfMovers_38 : decode prog_2_method_6_code 38 = .ok (.aload_n 2, 1) := by decide +kernel
theorem dAn_sizeOfMovers_39 : decode prog_2_method_6_code 39 = .ok (.iload 4, 2) := by decide +kernel
theorem dAn_sizeOfMovers_41 : decode prog_2_method_6_code 41 = .ok (.aload_n 3, 1) := by decide +kernel
theorem dAn_sizeOfMovers_42 : decode prog_2_method_6_code 42 = .ok (.invokevirtual 99, 3) := by decide +kernel
theorem dAn_sizeOfMovers_45 : decode prog_2_method_6_code 45 = .ok (.iinc 4 1, 3) := by decide +kernel
theorem dAn_sizeOfMovers_48 : decode prog_2_method_6_code 48 = .ok (.goto (-30), 3) := by decide +kernel
theorem dAn_sizeOfMovers_51 : decode prog_2_method_6_code 51 = .ok (.aload_n 1, 1) := by decide +kernel
theorem dAn_sizeOfMovers_52 : decode prog_2_method_6_code 52 = .ok (.getfield 62, 3) := by decide +kernel
theorem dAn_sizeOfMovers_55 : decode prog_2_method_6_code 55 = .ok (.aload_n 0, 1) := by decide +kernel
theorem dAn_sizeOfMovers_56 : decode prog_2_method_6_code 56 = .ok (.getfield 32, 3) := by decide +kernel
theorem dAn_sizeOfMovers_59 : decode prog_2_method_6_code 59 = .ok (.getfield 53, 3) := by decide +kernel
theorem dAn_sizeOfMovers_62 : decode prog_2_method_6_code 62 = .ok (.isub, 1) := by decide +kernel
theorem dAn_sizeOfMovers_63 : decode prog_2_method_6_code 63 = .ok (.ireturn, 1) := by decide +kernel
theorem t_An_sizeOfMovers {d : Nat} {x1 x2 x3 : Int} {σ : SG} {Q : Int → SG → Prop} (h : obok 10 x1 ∧ obok 10 x1 ∧ Tri d M_Ec_begin [vA 58, vI (σ x1 1), vI (σ x1 2)] σ (fun r1 σ1 => L (d + 1) M_An_sizeOfMovers 18 [vA 42, vA x1, vA x2, vA x3, vI 0] [] σ1 Q)) : Tri (d + 1) M_An_sizeOfMovers [vA 42, vA x1, vA x2, vA x3] σ Q :=
  Tri_intro rfl (Nat.le_of_ble_eq_true rfl) (ls := [vA 42, vA x1, vA x2, vA x3, vU]) rfl (fun hok => L_aload_n dAn_sizeOfMovers_0 rfl (L_getF (b := 58) fw_An_32 rfl rfl (by decide) dAn_sizeOfMovers_1 ⟨ob_42, L_aload_n dAn_sizeOfMovers_4 rfl (L_getf fw_An_57 rfl dAn_sizeOfMovers_5 ⟨h.1, L_aload_n dAn_sizeOfMovers_8 rfl (L_getf fw_An_62 rfl dAn_sizeOfMovers_9 ⟨h.2.1, L_callVV rfl cv_Ec_begin (As := [vI (σ x1 1), vI (σ x1 2)]) rfl (tk4 210 rfl rfl) rfl (Nat.le_of_ble_eq_true rfl) dAn_sizeOfMovers_12 ⟨ob_58, Tri.mono (h.2.2) (fun r1 σ1 q1 => L_iconst dAn_sizeOfMovers_15 in_0 (L_istore dAn_sizeOfMovers_16 (by decide) q1))⟩⟩)⟩)⟩))
theorem s_An_sizeOfMovers_18 {d : Nat} {x1 x2 x3 x4 : Int} {σ : SG} {Q : Int → SG → Prop} (h : obok 10 x1 ∧ (σ x1 2 ≤ x4 → obok 10 x1 ∧ Q (w32 ((σ x1 2) - (σ 58 5))) σ) ∧ (x4 < σ x1 2 → obok 2 x2 ∧ Tri d M_Ec_leadsAt [vA x2, vI x4] σ (fun r2 σ2 => (r2 = 0 → L (d + 1) M_An_sizeOfMovers 18 [vA 42, vA x1, vA x2, vA x3, vI (w32 (x4 + 1))] [] σ2 Q) ∧ (r2 ≠ 0 → Tri d M_An_bind [vA 42, vA x1, vA x2, vI x4, vA x3] σ2 (fun r4 σ4 => L (d + 1) M_An_sizeOfMovers 18 [vA 42, vA x1, vA x2, vA x3, vI (w32 (x4 + 1))] [] σ4 Q))))) : L (d + 1) M_An_sizeOfMovers 18 [vA 42, vA x1, vA x2, vA x3, vI x4] [] σ Q :=
  L_iload dAn_sizeOfMovers_18 rfl (L_aload_n dAn_sizeOfMovers_20 rfl (L_getf fw_An_62 rfl dAn_sizeOfMovers_21 ⟨h.1, L_icmp_ge dAn_sizeOfMovers_24 (by decide) ⟨fun c1 => L_aload_n dAn_sizeOfMovers_51 rfl (L_getf fw_An_62 rfl dAn_sizeOfMovers_52 ⟨(h.2.1 c1).1, L_aload_n dAn_sizeOfMovers_55 rfl (L_getF (b := 58) fw_An_32 rfl rfl (by decide) dAn_sizeOfMovers_56 ⟨ob_42, L_getf fw_An_53 rfl dAn_sizeOfMovers_59 ⟨ob_58, L_isub dAn_sizeOfMovers_62 (L_ireturn rfl dAn_sizeOfMovers_63 ((h.2.1 c1).2))⟩⟩)⟩), fun c1 => L_aload_n dAn_sizeOfMovers_27 rfl (L_iload dAn_sizeOfMovers_28 rfl (L_callVI rfl cv_Ec_leadsAt (As := [vI x4]) rfl (tk4 175 rfl rfl) rfl (Nat.le_of_ble_eq_true rfl) dAn_sizeOfMovers_30 ⟨(h.2.2 c1).1, Tri.mono ((h.2.2 c1).2) (fun r2 σ2 q2 => L_if_eq dAn_sizeOfMovers_33 (by decide) ⟨fun c3 => L_iinc dAn_sizeOfMovers_45 rfl (by decide) (L_goto dAn_sizeOfMovers_48 (by decide) (q2.1 c3)), fun c3 => L_aload_n dAn_sizeOfMovers_36 rfl (L_aload_n dAn_sizeOfMovers_37 rfl (L_aload_n dAn_sizeOfMovers_38 rfl (L_iload dAn_sizeOfMovers_39 rfl (L_aload_n dAn_sizeOfMovers_41 rfl (L_callVV rfl cv_An_bind (As := [vA x1, vA x2, vI x4, vA x3]) rfl (tk4 227 rfl rfl) rfl (Nat.le_of_ble_eq_true rfl) dAn_sizeOfMovers_42 ⟨ob_42, Tri.mono (q2.2 c3) (fun r4 σ4 q4 => L_iinc dAn_sizeOfMovers_45 rfl (by decide) (L_goto dAn_sizeOfMovers_48 (by decide) q4))⟩)))))⟩)⟩))⟩⟩))
theorem dAn_bind_0 : decode prog_2_method_7_code 0 = .ok (.iconst 0, 1) := by decide +kernel
theorem dAn_bind_1 : decode prog_2_method_7_code 1 = .ok (.istore 5, 2) := by decide +kernel
theorem dAn_bind_3 : decode prog_2_method_7_code 3 = .ok (.iload 5, 2) := by decide +kernel
theorem dAn_bind_5 : decode prog_2_method_7_code 5 = .ok (.aload_n 1, 1) := by decide +kernel
theorem dAn_bind_6 : decode prog_2_method_7_code 6 = .ok (.getfield 62, 3) := by decide +kernel
theorem dAn_bind_9 : decode prog_2_method_7_code 9 = .ok (.if_icmp .ge 77, 3) := by decide +kernel
theorem dAn_bind_12 : decode prog_2_method_7_code 12 = .ok (.aload_n 1, 1) := by decide +kernel
theorem dAn_bind_13 : decode prog_2_method_7_code 13 = .ok (.getstatic 103, 3) := by decide +kernel
theorem dAn_bind_16 : decode prog_2_method_7_code 16 = .ok (.iload 5, 2) := by decide +kernel
theorem dAn_bind_18 : decode prog_2_method_7_code 18 = .ok (.iconst 5, 1) := by decide +kernel
theorem dAn_bind_19 : decode prog_2_method_7_code 19 = .ok (.imul, 1) := by decide +kernel
theorem dAn_bind_20 : decode prog_2_method_7_code 20 = .ok (.aload_n 2, 1) := by decide +kernel
theorem dAn_bind_21 : decode prog_2_method_7_code 21 = .ok (.getfield 73, 3) := by decide +kernel
theorem dAn_bind_24 : decode prog_2_method_7_code 24 = .ok (.iload_n 3, 1) := by decide +kernel
theorem dAn_bind_25 : decode prog_2_method_7_code 25 = .ok (.iconst 5, 1) := by decide +kernel
theorem dAn_bind_26 : decode prog_2_method_7_code 26 = .ok (.imul, 1) := by decide +kernel
theorem dAn_bind_27 : decode prog_2_method_7_code 27 = .ok (.aload_n 0, 1) := by decide +kernel
theorem dAn_bind_28 : decode prog_2_method_7_code 28 = .ok (.getfield 42, 3) := by decide +kernel
theorem dAn_bind_31 : decode prog_2_method_7_code 31 = .ok (.invokevirtual 76, 3) := by decide +kernel
theorem dAn_bind_34 : decode prog_2_method_7_code 34 = .ok (.aload 4, 2) := by decide +kernel
theorem dAn_bind_36 : decode prog_2_method_7_code 36 = .ok (.aload_n 0, 1) := by decide +kernel
theorem dAn_bind_37 : decode prog_2_method_7_code 37 = .ok (.getfield 42, 3) := by decide +kernel
theorem dAn_bind_40 : decode prog_2_method_7_code 40 = .ok (.invokevirtual 106, 3) := by decide +kernel
theorem dAn_bind_43 : decode prog_2_method_7_code 43 = .ok (.iconst 0, 1) := by decide +kernel
theorem dAn_bind_44 : decode prog_2_method_7_code 44 = .ok (.istore 6, 2) := by decide +kernel
theorem dAn_bind_46 : decode prog_2_method_7_code 46 = .ok (.iload 6, 2) := by decide +kernel
theorem dAn_bind_48 : decode prog_2_method_7_code 48 = .ok (.aload_n 1, 1) := by decide +kernel
theorem dAn_bind_49 : decode prog_2_method_7_code 49 = .ok (.getfield 62, 3) := by decide +kernel
theorem dAn_bind_52 : decode prog_2_method_7_code 52 = .ok (.if_icmp .ge 28, 3) := by decide +kernel
theorem dAn_bind_55 : decode prog_2_method_7_code 55 = .ok (.aload_n 0, 1) := by decide +kernel
theorem dAn_bind_56 : decode prog_2_method_7_code 56 = .ok (.getfield 46, 3) := by decide +kernel
theorem dAn_bind_59 : decode prog_2_method_7_code 59 = .ok (.iload 6, 2) := by decide +kernel
theorem dAn_bind_61 : decode prog_2_method_7_code 61 = .ok (.iconst 5, 1) := by decide +kernel
theorem dAn_bind_62 : decode prog_2_method_7_code 62 = .ok (.imul, 1) := by decide +kernel
theorem dAn_bind_63 : decode prog_2_method_7_code 63 = .ok (.iload 5, 2) := by decide +kernel
theorem dAn_bind_65 : decode prog_2_method_7_code 65 = .ok (.iadd, 1) := by decide +kernel
theorem dAn_bind_66 : decode prog_2_method_7_code 66 = .ok (.aload_n 0, 1) := by decide +kernel
theorem dAn_bind_67 : decode prog_2_method_7_code 67 = .ok (.getfield 42, 3) := by decide +kernel
theorem dAn_bind_70 : decode prog_2_method_7_code 70 = .ok (.iload 6, 2) := by decide +kernel
theorem dAn_bind_72 : decode prog_2_method_7_code 72 = .ok (.iaload, 1) := by decide +kernel
theorem dAn_bind_73 : decode prog_2_method_7_code 73 = .ok (.iastore, 1) := by decide +kernel
theorem dAn_bind_74 : decode prog_2_method_7_code 74 = .ok (.iinc 6 1, 3) := by decide +kernel
theorem dAn_bind_77 : decode prog_2_method_7_code 77 = .ok (.goto (-31), 3) := by decide +kernel
theorem dAn_bind_80 : decode prog_2_method_7_code 80 = .ok (.iinc 5 1, 3) := by decide +kernel
theorem dAn_bind_83 : decode prog_2_method_7_code 83 = .ok (.goto (-80), 3) := by decide +kernel
theorem dAn_bind_86 : decode prog_2_method_7_code 86 = .ok (.iconst 0, 1) := by decide +kernel
theorem dAn_bind_87 : decode prog_2_method_7_code 87 = .ok (.istore 5, 2) := by decide +kernel
theorem dAn_bind_89 : decode prog_2_method_7_code 89 = .ok (.iload 5, 2) := by decide +kernel
theorem dAn_bind_91 : decode prog_2_method_7_code 91 = .ok (.aload_n 1, 1) := by decide +kernel
theorem dAn_bind_92 : decode prog_2_method_7_code 92 = .ok (.getfield 62, 3) := by decide +kernel
theorem dAn_bind_95 : decode prog_2_method_7_code 95 = .ok (.if_icmp .ge 25, 3) := by decide +kernel
theorem dAn_bind_98 : decode prog_2_method_7_code 98 = .ok (.aload_n 0, 1) := by decide +kernel
theorem dAn_bind_99 : decode prog_2_method_7_code 99 = .ok (.getfield 32, 3) := by decide +kernel
theorem dAn_bind_102 : decode prog_2_method_7_code 102 = .ok (.aload_n 0, 1) := by decide +kernel
theorem dAn_bind_103 : decode prog_2_method_7_code 103 = .ok (.getfield 46, 3) := by decide +kernel
theorem dAn_bind_106 : decode prog_2_method_7_code 106 = .ok (.iload 5, 2) := by decide +kernel
theorem dAn_bind_108 : decode prog_2_method_7_code 108 = .ok (.iconst 5, 1) := by decide +kernel
theorem dAn_bind_109 : decode prog_2_method_7_code 109 = .ok (.imul, 1) := by decide +kernel
theorem dAn_bind_110 : decode prog_2_method_7_code 110 = .ok (.invokevirtual 80, 3) := by decide +kernel
theorem dAn_bind_113 : decode prog_2_method_7_code 113 = .ok (.pop, 1) := by decide +kernel
theorem dAn_bind_114 : decode prog_2_method_7_code 114 = .ok (.iinc 5 1, 3) := by decide +kernel
theorem dAn_bind_117 : decode prog_2_method_7_code 117 = .ok (.goto (-28), 3) := by decide +kernel
theorem dAn_bind_120 : decode prog_2_method_7_code 120 = .ok (.return_, 1) := by decide +kernel
theorem t_An_bind {d : Nat} {x1 x2 x3 x4 : Int} {σ : SG} {Q : Int → SG → Prop} (h : inI x3 → (L (d + 1) M_An_bind 3 [vA 42, vA x1, vA x2, vI x3, vA x4, vI 0, vU] [] σ Q)) : Tri (d + 1) M_An_bind [vA 42, vA x1, vA x2, vI x3, vA x4] σ Q :=
  Tri_intro rfl (Nat.le_of_ble_eq_true rfl) (ls := [vA 42, vA x1, vA x2, vI x3, vA x4, vU, vU]) rfl (fun hok => L_iconst dAn_bind_0 in_0 (L_istore dAn_bind_1 (by decide) ((h (hok _ (List.mem_of_getElem? (i := 3) rfl))))))
theorem s_An_bind_3 {d : Nat} {x1 x2 x3 x4 x5 : Int} {σ : SG} {Q : Int → SG → Prop} (h : obok 10 x1 ∧ (σ x1 2 ≤ x5 → L (d + 1) M_An_bind 89 [vA 42, vA x1, vU, vU, vU, vI 0, vU] [] σ Q) ∧ (x5 < σ x1 2 → obok 2 x2 ∧ obok 10 x1 ∧ Tri d M_Wd_bracketInto [vA x1, vA (-2), vI (w32 (x5 * 5)), vA (x2 + 1), vI (w32 (x3 * 5)), vA 66] σ (fun r2 σ2 => obok 2 x4 ∧ Tri d M_Ec_reduce [vA x4, vA 66] σ2 (fun r3 σ3 => L (d + 1) M_An_bind 46 [vA 42, vA x1, vA x2, vI x3, vA x4, vI x5, vI 0] [] σ3 Q)))) : L (d + 1) M_An_bind 3 [vA 42, vA x1, vA x2, vI x3, vA x4, vI x5, vU] [] σ Q :=
  L_iload dAn_bind_3 rfl (L_aload_n dAn_bind_5 rfl (L_getf fw_An_62 rfl dAn_bind_6 ⟨h.1, L_icmp_ge dAn_bind_9 (by decide) ⟨fun c1 => L_iconst dAn_bind_86 in_0 (L_istore dAn_bind_87 (by decide) (L_weak [true, true, false, false, false, true, true] (h.2.1 c1))), fun c1 => L_aload_n dAn_bind_12 rfl (L_units (by decide +kernel) dAn_bind_13 (L_iload dAn_bind_16 rfl (L_iconst dAn_bind_18 in_5 (L_imul dAn_bind_19 (L_aload_n dAn_bind_20 rfl (L_getF (b := x2 + 1) fw_An_73 rfl rfl (by omega) dAn_bind_21 ⟨(h.2.2 c1).1, L_iload_n dAn_bind_24 rfl (L_iconst dAn_bind_25 in_5 (L_imul dAn_bind_26 (L_aload_n dAn_bind_27 rfl (L_getF (b := 66) fw_An_42 rfl rfl (by decide) dAn_bind_28 ⟨ob_42, L_callVV rfl cv_Wd_bracketInto (As := [vA (-2), vI (w32 (x5 * 5)), vA (x2 + 1), vI (w32 (x3 * 5)), vA 66]) rfl (tk4 178 rfl rfl) rfl (Nat.le_of_ble_eq_true rfl) dAn_bind_31 ⟨(h.2.2 c1).2.1, Tri.mono ((h.2.2 c1).2.2) (fun r2 σ2 q2 => L_aload dAn_bind_34 rfl (L_aload_n dAn_bind_36 rfl (L_getF (b := 66) fw_An_42 rfl rfl (by decide) dAn_bind_37 ⟨ob_42, L_callVV rfl cv_Ec_reduce (As := [vA 66]) rfl (tk4 231 rfl rfl) rfl (Nat.le_of_ble_eq_true rfl) dAn_bind_40 ⟨q2.1, Tri.mono q2.2 (fun r3 σ3 q3 => L_iconst dAn_bind_43 in_0 (L_istore dAn_bind_44 (by decide) q3))⟩⟩)))⟩⟩))))⟩))))))⟩⟩))
theorem s_An_bind_89 {d : Nat} {x1 x5 : Int} {σ : SG} {Q : Int → SG → Prop} (h : obok 10 x1 ∧ (σ x1 2 ≤ x5 → Q 0 σ) ∧ (x5 < σ x1 2 → Tri d M_Ec_add [vA 58, vA 67, vI (w32 (x5 * 5))] σ (fun r2 σ2 => L (d + 1) M_An_bind 89 [vA 42, vA x1, vU, vU, vU, vI (w32 (x5 + 1)), vU] [] σ2 Q))) : L (d + 1) M_An_bind 89 [vA 42, vA x1, vU, vU, vU, vI x5, vU] [] σ Q :=
  L_iload dAn_bind_89 rfl (L_aload_n dAn_bind_91 rfl (L_getf fw_An_62 rfl dAn_bind_92 ⟨h.1, L_icmp_ge dAn_bind_95 (by decide) ⟨fun c1 => L_return rfl dAn_bind_120 (h.2.1 c1), fun c1 => L_aload_n dAn_bind_98 rfl (L_getF (b := 58) fw_An_32 rfl rfl (by decide) dAn_bind_99 ⟨ob_42, L_aload_n dAn_bind_102 rfl (L_getF (b := 67) fw_An_46 rfl rfl (by decide) dAn_bind_103 ⟨ob_42, L_iload dAn_bind_106 rfl (L_iconst dAn_bind_108 in_5 (L_imul dAn_bind_109 (L_callVI rfl cv_Ec_add (As := [vA 67, vI (w32 (x5 * 5))]) rfl (tk4 179 rfl rfl) rfl (Nat.le_of_ble_eq_true rfl) dAn_bind_110 ⟨ob_58, Tri.mono (h.2.2 c1) (fun r2 σ2 q2 => L_pop dAn_bind_113 n01 (L_iinc dAn_bind_114 rfl (by decide) (L_goto dAn_bind_117 (by decide) q2)))⟩)))⟩)⟩)⟩⟩))
theorem s_An_bind_46 {d : Nat} {x1 x2 x3 x4 x5 x6 : Int} {σ : SG} {Q : Int → SG → Prop} (h : obok 10 x1 ∧ (σ x1 2 ≤ x6 → L (d + 1) M_An_bind 3 [vA 42, vA x1, vA x2, vI x3, vA x4, vI (w32 (x5 + 1)), vU] [] σ Q) ∧ (x6 < σ x1 2 → (0 ≤ x6 ∧ x6 < 5) ∧ (0 ≤ w32 ((w32 (x6 * 5)) + x5) ∧ w32 ((w32 (x6 * 5)) + x5) < 25) ∧ (∀ σ2, σ2 = up σ 67 (w32 ((w32 (x6 * 5)) + x5)) (σ 66 x6) → L (d + 1) M_An_bind 46 [vA 42, vA x1, vA x2, vI x3, vA x4, vI x5, vI (w32 (x6 + 1))] [] σ2 Q))) : L (d + 1) M_An_bind 46 [vA 42, vA x1, vA x2, vI x3, vA x4, vI x5, vI x6] [] σ Q :=
  L_iload dAn_bind_46 rfl (L_aload_n dAn_bind_48 rfl (L_getf fw_An_62 rfl dAn_bind_49 ⟨h.1, L_icmp_ge dAn_bind_52 (by decide) ⟨fun c1 => L_iinc dAn_bind_80 rfl (by decide) (L_goto dAn_bind_83 (by decide) (L_weak [true, true, true, true, true, true, false] (h.2.1 c1))), fun c1 => L_aload_n dAn_bind_55 rfl (L_getF (b := 67) fw_An_46 rfl rfl (by decide) dAn_bind_56 ⟨ob_42, L_iload dAn_bind_59 rfl (L_iconst dAn_bind_61 in_5 (L_imul dAn_bind_62 (L_iload dAn_bind_63 rfl (L_iadd dAn_bind_65 (L_aload_n dAn_bind_66 rfl (L_getF (b := 66) fw_An_42 rfl rfl (by decide) dAn_bind_67 ⟨ob_42, L_iload dAn_bind_70 rfl (L_ialoadL kd_66 dAn_bind_72 ⟨(h.2.2 c1).1, L_iastoreL (by decide) kd_67 dAn_bind_73 ⟨(h.2.2 c1).2.1, fun σ2 e2 => L_iinc dAn_bind_74 rfl (by decide) (L_goto dAn_bind_77 (by decide) ((h.2.2 c1).2.2 σ2 e2))⟩⟩)⟩))))))⟩)⟩⟩))
theorem dAn_closeUp_0 : decode prog_2_method_8_code 0 = .ok (.iconst 1, 1) := by decide +kernel
theorem dAn_closeUp_1 : decode prog_2_method_8_code 1 = .ok (.istore 4, 2) := by decide +kernel
theorem dAn_closeUp_3 : decode prog_2_method_8_code 3 = .ok (.iconst 0, 1) := by decide +kernel
theorem dAn_closeUp_4 : decode prog_2_method_8_code 4 = .ok (.istore 5, 2) := by decide +kernel
theorem dAn_closeUp_6 : decode prog_2_method_8_code 6 = .ok (.iload 5, 2) := by decide +kernel
theorem dAn_closeUp_8 : decode prog_2_method_8_code 8 = .ok (.iconst 5, 1) := by decide +kernel
theorem dAn_closeUp_9 : decode prog_2_method_8_code 9 = .ok (.if_icmp .gt 35, 3) := by decide +kernel
theorem dAn_closeUp_12 : decode prog_2_method_8_code 12 = .ok (.iload 4, 2) := by decide +kernel
theorem dAn_closeUp_14 : decode prog_2_method_8_code 14 = .ok (.ifCond .eq 30, 3) := by decide +kernel
theorem dAn_closeUp_17 : decode prog_2_method_8_code 17 = .ok (.iload_n 3, 1) := by decide +kernel
theorem dAn_closeUp_18 : decode prog_2_method_8_code 18 = .ok (.ifCond .eq 12, 3) := by decide +kernel
theorem dAn_closeUp_21 : decode prog_2_method_8_code 21 = .ok (.aload_n 0, 1) := by decide +kernel
theorem dAn_closeUp_22 : decode prog_2_method_8_code 22 = .ok (.aload_n 1, 1) := by decide +kernel
theorem dAn_closeUp_23 : decode prog_2_method_8_code 23 = .ok (.aload_n 2, 1) := by decide +kernel
theorem dAn_closeUp_24 : decode prog_2_method_8_code 24 = .ok (.invokevirtual 110, 3) := by decide +kernel
theorem dAn_closeUp_27 : decode prog_2_method_8_code 27 = .ok (.goto 9, 3) := by decide +kernel
theorem dAn_closeUp_30 : decode prog_2_method_8_code 30 = .ok (.aload_n 0, 1) := by decide +kernel
theorem dAn_closeUp_31 : decode prog_2_method_8_code 31 = .ok (.aload_n 1, 1) := by decide +kernel
theorem dAn_closeUp_32 : decode prog_2_method_8_code 32 = .ok (.aload_n 2, 1) := by decide +kernel
theorem dAn_closeUp_33 : decode prog_2_method_8_code 33 = .ok (.invokevirtual 114, 3) := by decide +kernel
theorem dAn_closeUp_36 : decode prog_2_method_8_code 36 = .ok (.istore 4, 2) := by decide +kernel
theorem dAn_closeUp_38 : decode prog_2_method_8_code 38 = .ok (.iinc 5 1, 3) := by decide +kernel
theorem dAn_closeUp_41 : decode prog_2_method_8_code 41 = .ok (.goto (-35), 3) := by decide +kernel
theorem dAn_closeUp_44 : decode prog_2_method_8_code 44 = .ok (.return_, 1) := by decide +kernel
theorem t_An_closeUp {d : Nat} {x1 x2 x3 : Int} {σ : SG} {Q : Int → SG → Prop} (h : inI x3 → (L (d + 1) M_An_closeUp 6 [vA 42, vA x1, vA x2, vI x3, vI 1, vI 0] [] σ Q)) : Tri (d + 1) M_An_closeUp [vA 42, vA x1, vA x2, vI x3] σ Q :=
  Tri_intro rfl (Nat.le_of_ble_eq_true rfl) (ls := [vA 42, vA x1, vA x2, vI x3, vU, vU]) rfl (fun hok => L_iconst dAn_closeUp_0 in_1 (L_istore dAn_closeUp_1 (by decide) (L_iconst dAn_closeUp_3 in_0 (L_istore dAn_closeUp_4 (by decide) ((h (hok _ (List.mem_of_getElem? (i := 3) rfl))))))))
theorem s_An_closeUp_6 {d : Nat} {x1 x2 x3 x4 x5 : Int} {σ : SG} {Q : Int → SG → Prop} (h : (5 < x5 → Q 0 σ) ∧ (x5 ≤ 5 → (x4 = 0 → Q 0 σ) ∧ (x4 ≠ 0 → (x3 = 0 → Tri d M_An_growToPart [vA 42, vA x1, vA x2] σ (fun r4 σ4 => L (d + 1) M_An_closeUp 6 [vA 42, vA x1, vA x2, vI x3, vI r4, vI (w32 (x5 + 1))] [] σ4 Q)) ∧ (x3 ≠ 0 → Tri d M_An_growToIdeal [vA 42, vA x1, vA x2] σ (fun r5 σ5 => L (d + 1) M_An_closeUp 6 [vA 42, vA x1, vA x2, vI x3, vI r5, vI (w32 (x5 + 1))] [] σ5 Q))))) : L (d + 1) M_An_closeUp 6 [vA 42, vA x1, vA x2, vI x3, vI x4, vI x5] [] σ Q :=
  L_iload dAn_closeUp_6 rfl (L_iconst dAn_closeUp_8 in_5 (L_icmp_gt dAn_closeUp_9 (by decide) ⟨fun c1 => L_return rfl dAn_closeUp_44 (h.1 c1), fun c1 => L_iload dAn_closeUp_12 rfl (L_if_eq dAn_closeUp_14 (by decide) ⟨fun c2 => L_return rfl dAn_closeUp_44 ((h.2 c1).1 c2), fun c2 => L_iload_n dAn_closeUp_17 rfl (L_if_eq dAn_closeUp_18 (by decide) ⟨fun c3 => L_aload_n dAn_closeUp_30 rfl (L_aload_n dAn_closeUp_31 rfl (L_aload_n dAn_closeUp_32 rfl (L_callVI rfl cv_An_growToPart (As := [vA x1, vA x2]) rfl (tk4 180 rfl rfl) rfl (Nat.le_of_ble_eq_true rfl) dAn_closeUp_33 ⟨ob_42, Tri.mono (((h.2 c1).2 c2).1 c3) (fun r4 σ4 q4 => L_istore dAn_closeUp_36 (by decide) (L_iinc dAn_closeUp_38 rfl (by decide) (L_goto dAn_closeUp_41 (by decide) q4)))⟩))), fun c3 => L_aload_n dAn_closeUp_21 rfl (L_aload_n dAn_closeUp_22 rfl (L_aload_n dAn_closeUp_23 rfl (L_callVI rfl cv_An_growToIdeal (As := [vA x1, vA x2]) rfl (tk4 171 rfl rfl) rfl (Nat.le_of_ble_eq_true rfl) dAn_closeUp_24 ⟨ob_42, Tri.mono (((h.2 c1).2 c2).2 c3) (fun r5 σ5 q5 => L_goto dAn_closeUp_27 (by decide) (L_istore dAn_closeUp_36 (by decide) (L_iinc dAn_closeUp_38 rfl (by decide) (L_goto dAn_closeUp_41 (by decide) q5))))⟩)))⟩)⟩)⟩))
theorem dAn_growToIdeal_0 : decode prog_2_method_9_code 0 = .ok (.iconst 0, 1) := by decide +kernel
theorem dAn_growToIdeal_1 : decode prog_2_method_9_code 1 = .ok (.istore_n 3, 1) := by decide +kernel
theorem dAn_growToIdeal_2 : decode prog_2_method_9_code 2 = .ok (.iconst 0, 1) := by decide +kernel
theorem dAn_growToIdeal_3 : decode prog_2_method_9_code 3 = .ok (.istore 4, 2) := by decide +kernel
theorem dAn_growToIdeal_5 : decode prog_2_method_9_code 5 = .ok (.iload 4, 2) := by decide +kernel
theorem dAn_growToIdeal_7 : decode prog_2_method_9_code 7 = .ok (.aload_n 1, 1) := by decide +kernel
theorem dAn_growToIdeal_8 : decode prog_2_method_9_code 8 = .ok (.getfield 62, 3) := by decide +kernel
theorem dAn_growToIdeal_11 : decode prog_2_method_9_code 11 = .ok (.if_icmp .ge 73, 3) := by decide +kernel
theorem dAn_growToIdeal_14 : decode prog_2_method_9_code 14 = .ok (.iconst 0, 1) := by decide +kernel
theorem dAn_growToIdeal_15 : decode prog_2_method_9_code 15 = .ok (.istore 5, 2) := by decide +kernel
theorem dAn_growToIdeal_17 : decode prog_2_method_9_code 17 = .ok (.iload 5, 2) := by decide +kernel
theorem dAn_growToIdeal_19 : decode prog_2_method_9_code 19 = .ok (.aload_n 1, 1) := by decide +kernel
theorem dAn_growToIdeal_20 : decode prog_2_method_9_code 20 = .ok (.getfield 62, 3) := by decide +kernel
theorem dAn_growToIdeal_23 : decode prog_2_method_9_code 23 = .ok (.if_icmp .ge 55, 3) := by decide +kernel
theorem dAn_growToIdeal_26 : decode prog_2_method_9_code 26 = .ok (.aload_n 2, 1) := by decide +kernel
theorem dAn_growToIdeal_27 : decode prog_2_method_9_code 27 = .ok (.iload 4, 2) := by decide +kernel
theorem dAn_growToIdeal_29 : decode prog_2_method_9_code 29 = .ok (.invokevirtual 69, 3) := by decide +kernel
theorem dAn_growToIdeal_32 : decode prog_2_method_9_code 32 = .ok (.ifCond .eq 40, 3) := by decide +kernel
theorem dAn_growToIdeal_35 : decode prog_2_method_9_code 35 = .ok (.aload_n 1, 1) := by decide +kernel
theorem dAn_growToIdeal_36 : decode prog_2_method_9_code 36 = .ok (.aload_n 2, 1) := by decide +kernel
theorem dAn_growToIdeal_37 : decode prog_2_method_9_code 37 = .ok (.getfield 73, 3) := by decide +kernel
theorem dAn_growToIdeal_40 : decode prog_2_method_9_code 40 = .ok (.iload 4, 2) := by decide +kernel
theorem dAn_growToIdeal_42 : decode prog_2_method_9_code 42 = .ok (.iconst 5, 1) := by decide +kernel
theorem dAn_growToIdeal_43 : decode prog_2_method_9_code 43 = .ok (.imul, 1) := by decide +kernel
theorem dAn_growToIdeal_44 : decode prog_2_method_9_code 44 = .ok (.getstatic 103, 3) := by decide +kernel
theorem dAn_growToIdeal_47 : decode prog_2_method_9_code 47 = .ok (.iload 5, 2) := by decide +kernel
theorem dAn_growToIdeal_49 : decode prog_2_method_9_code 49 = .ok (.iconst 5, 1) := by decide +kernel
theorem dAn_growToIdeal_50 : decode prog_2_method_9_code 50 = .ok (.imul, 1) := by decide +kernel
theorem dAn_growToIdeal_51 : decode prog_2_method_9_code 51 = .ok (.aload_n 0, 1) := by decide +kernel
theorem dAn_growToIdeal_52 : decode prog_2_method_9_code 52 = .ok (.getfield 42, 3) := by decide +kernel
theorem dAn_growToIdeal_55 : decode prog_2_method_9_code 55 = .ok (.invokevirtual 76, 3) := by decide +kernel
theorem dAn_growToIdeal_58 : decode prog_2_method_9_code 58 = .ok (.aload_n 2, 1) := by decide +kernel
theorem dAn_growToIdeal_59 : decode prog_2_method_9_code 59 = .ok (.aload_n 0, 1) := by decide +kernel
theorem dAn_growToIdeal_60 : decode prog_2_method_9_code 60 = .ok (.getfield 42, 3) := by decide +kernel
theorem dAn_growToIdeal_63 : decode prog_2_method_9_code 63 = .ok (.iconst 0, 1) := by decide +kernel
theorem dAn_growToIdeal_64 : decode prog_2_method_9_code 64 = .ok (.invokevirtual 80, 3) := by decide +kernel
theorem dAn_growToIdeal_67 : decode prog_2_method_9_code 67 = .ok (.ifCond .eq 5, 3) := by decide +kernel
theorem dAn_growToIdeal_70 : decode prog_2_method_9_code 70 = .ok (.iconst 1, 1) := by decide +kernel
theorem dAn_growToIdeal_71 : decode prog_2_method_9_code 71 = .ok (.istore_n 3, 1) := by decide +kernel
theorem dAn_growToIdeal_72 : decode prog_2_method_9_code 72 = .ok (.iinc 5 1, 3) := by decide +kernel
theorem dAn_growToIdeal_75 : decode prog_2_method_9_code 75 = .ok (.goto (-58), 3) := by decide +kernel
theorem dAn_growToIdeal_78 : decode prog_2_method_9_code 78 = .ok (.iinc 4 1, 3) := by decide +kernel
theorem dAn_growToIdeal_81 : decode prog_2_method_9_code 81 = .ok (.goto (-76), 3) := by decide +kernel
theorem dAn_growToIdeal_84 : decode prog_2_method_9_code 84 = .ok (.iload_n 3, 1) := by decide +kernel
theorem dAn_growToIdeal_85 : decode prog_2_method_9_code 85 = .ok (.ireturn, 1) := by decide +kernel
theorem t_An_growToIdeal {d : Nat} {x1 x2 : Int} {σ : SG} {Q : Int → SG → Prop} (h : L (d + 1) M_An_growToIdeal 5 [vA 42, vA x1, vA x2, vI 0, vI 0, vU] [] σ Q) : Tri (d + 1) M_An_growToIdeal [vA 42, vA x1, vA x2] σ Q :=
  Tri_intro rfl (Nat.le_of_ble_eq_true rfl) (ls := [vA 42, vA x1, vA x2, vU, vU, vU]) rfl (fun hok => L_iconst dAn_growToIdeal_0 in_0 (L_istore_n dAn_growToIdeal_1 (by decide) (L_iconst dAn_growToIdeal_2 in_0 (L_istore dAn_growToIdeal_3 (by decide) (h)))))
theorem s_An_growToIdeal_5 {d : Nat} {x1 x2 x3 x4 : Int} {σ : SG} {Q : Int → SG → Prop} (h : obok 10 x1 ∧ (σ x1 2 ≤ x4 → (x3 = 0 ∨ x3 = 1) ∧ Q x3 σ) ∧ (x4 < σ x1 2 → L (d + 1) M_An_growToIdeal 17 [vA 42, vA x1, vA x2, vI x3, vI x4, vI 0] [] σ Q)) : L (d + 1) M_An_growToIdeal 5 [vA 42, vA x1, vA x2, vI x3, vI x4, vU] [] σ Q :=
  L_iload dAn_growToIdeal_5 rfl (L_aload_n dAn_growToIdeal_7 rfl (L_getf fw_An_62 rfl dAn_growToIdeal_8 ⟨h.1, L_icmp_ge dAn_growToIdeal_11 (by decide) ⟨fun c1 => L_iload_n dAn_growToIdeal_84 rfl (L_zreturn rfl dAn_growToIdeal_85 (h.2.1 c1)), fun c1 => L_iconst dAn_growToIdeal_14 in_0 (L_istore dAn_growToIdeal_15 (by decide) (h.2.2 c1))⟩⟩))
theorem s_An_growToIdeal_17 {d : Nat} {x1 x2 x3 x4 x5 : Int} {σ : SG} {Q : Int → SG → Prop} (h : obok 10 x1 ∧ (σ x1 2 ≤ x5 → L (d + 1) M_An_growToIdeal 5 [vA 42, vA x1, vA x2, vI x3, vI (w32 (x4 + 1)), vU] [] σ Q) ∧ (x5 < σ x1 2 → obok 2 x2 ∧ Tri d M_Ec_leadsAt [vA x2, vI x4] σ (fun r2 σ2 => (r2 = 0 → L (d + 1) M_An_growToIdeal 17 [vA 42, vA x1, vA x2, vI x3, vI x4, vI (w32 (x5 + 1))] [] σ2 Q) ∧ (r2 ≠ 0 → obok 2 x2 ∧ obok 10 x1 ∧ Tri d M_Wd_bracketInto [vA x1, vA (x2 + 1), vI (w32 (x4 * 5)), vA (-2), vI (w32 (x5 * 5)), vA 66] σ2 (fun r4 σ4 => obok 2 x2 ∧ Tri d M_Ec_add [vA x2, vA 66, vI 0] σ4 (fun r5 σ5 => (r5 = 0 → L (d + 1) M_An_growToIdeal 17 [vA 42, vA x1, vA x2, vI x3, vI x4, vI (w32 (x5 + 1))] [] σ5 Q) ∧ (r5 ≠ 0 → L (d + 1) M_An_growToIdeal 17 [vA 42, vA x1, vA x2, vI 1, vI x4, vI (w32 (x5 + 1))] [] σ5 Q))))))) : L (d + 1) M_An_growToIdeal 17 [vA 42, vA x1, vA x2, vI x3, vI x4, vI x5] [] σ Q :=
  L_iload dAn_growToIdeal_17 rfl (L_aload_n dAn_growToIdeal_19 rfl (L_getf fw_An_62 rfl dAn_growToIdeal_20 ⟨h.1, L_icmp_ge dAn_growToIdeal_23 (by decide) ⟨fun c1 => L_iinc dAn_growToIdeal_78 rfl (by decide) (L_goto dAn_growToIdeal_81 (by decide) (L_weak [true, true, true, true, true, false] (h.2.1 c1))), fun c1 => L_aload_n dAn_growToIdeal_26 rfl (L_iload dAn_growToIdeal_27 rfl (L_callVI rfl cv_Ec_leadsAt (As := [vI x4]) rfl (tk4 175 rfl rfl) rfl (Nat.le_of_ble_eq_true rfl) dAn_growToIdeal_29 ⟨(h.2.2 c1).1, Tri.mono ((h.2.2 c1).2) (fun r2 σ2 q2 => L_if_eq dAn_growToIdeal_32 (by decide) ⟨fun c3 => L_iinc dAn_growToIdeal_72 rfl (by decide) (L_goto dAn_growToIdeal_75 (by decide) (q2.1 c3)), fun c3 => L_aload_n dAn_growToIdeal_35 rfl (L_aload_n dAn_growToIdeal_36 rfl (L_getF (b := x2 + 1) fw_An_73 rfl rfl (by omega) dAn_growToIdeal_37 ⟨(q2.2 c3).1, L_iload dAn_growToIdeal_40 rfl (L_iconst dAn_growToIdeal_42 in_5 (L_imul dAn_growToIdeal_43 (L_units (by decide +kernel) dAn_growToIdeal_44 (L_iload dAn_growToIdeal_47 rfl (L_iconst dAn_growToIdeal_49 in_5 (L_imul dAn_growToIdeal_50 (L_aload_n dAn_growToIdeal_51 rfl (L_getF (b := 66) fw_An_42 rfl rfl (by decide) dAn_growToIdeal_52 ⟨ob_42, L_callVV rfl cv_Wd_bracketInto (As := [vA (x2 + 1), vI (w32 (x4 * 5)), vA (-2), vI (w32 (x5 * 5)), vA 66]) rfl (tk4 178 rfl rfl) rfl (Nat.le_of_ble_eq_true rfl) dAn_growToIdeal_55 ⟨(q2.2 c3).2.1, Tri.mono ((q2.2 c3).2.2) (fun r4 σ4 q4 => L_aload_n dAn_growToIdeal_58 rfl (L_aload_n dAn_growToIdeal_59 rfl (L_getF (b := 66) fw_An_42 rfl rfl (by decide) dAn_growToIdeal_60 ⟨ob_42, L_iconst dAn_growToIdeal_63 in_0 (L_callVI rfl cv_Ec_add (As := [vA 66, vI 0]) rfl (tk4 179 rfl rfl) rfl (Nat.le_of_ble_eq_true rfl) dAn_growToIdeal_64 ⟨q4.1, Tri.mono q4.2 (fun r5 σ5 q5 => L_if_eq dAn_growToIdeal_67 (by decide) ⟨fun c6 => L_iinc dAn_growToIdeal_72 rfl (by decide) (L_goto dAn_growToIdeal_75 (by decide) (q5.1 c6)), fun c6 => L_iconst dAn_growToIdeal_70 in_1 (L_istore_n dAn_growToIdeal_71 (by decide) (L_iinc dAn_growToIdeal_72 rfl (by decide) (L_goto dAn_growToIdeal_75 (by decide) (q5.2 c6))))⟩)⟩)⟩)))⟩⟩))))))))⟩))⟩)⟩))⟩⟩))
theorem dAn_growToPart_0 : decode prog_2_method_10_code 0 = .ok (.iconst 0, 1) := by decide +kernel
theorem dAn_growToPart_1 : decode prog_2_method_10_code 1 = .ok (.istore_n 3, 1) := by decide +kernel
theorem dAn_growToPart_2 : decode prog_2_method_10_code 2 = .ok (.iconst 0, 1) := by decide +kernel
theorem dAn_growToPart_3 : decode prog_2_method_10_code 3 = .ok (.istore 4, 2) := by decide +kernel
theorem dAn_growToPart_5 : decode prog_2_method_10_code 5 = .ok (.iload 4, 2) := by decide +kernel
theorem dAn_growToPart_7 : decode prog_2_method_10_code 7 = .ok (.aload_n 1, 1) := by decide +kernel
theorem dAn_growToPart_8 : decode prog_2_method_10_code 8 = .ok (.getfield 62, 3) := by decide +kernel
theorem dAn_growToPart_11 : decode prog_2_method_10_code 11 = .ok (.if_icmp .ge 86, 3) := by decide +kernel
theorem dAn_growToPart_14 : decode prog_2_method_10_code 14 = .ok (.iload 4, 2) := by decide +kernel
theorem dAn_growToPart_16 : decode prog_2_method_10_code 16 = .ok (.iconst 1, 1) := by decide +kernel
theorem dAn_growToPart_17 : decode prog_2_method_10_code 17 = .ok (.iadd, 1) := by decide +kernel
theorem dAn_growToPart_18 : decode prog_2_method_10_code 18 = .ok (.istore 5, 2) := by decide +kernel
theorem dAn_growToPart_20 : decode prog_2_method_10_code 20 = .ok (.iload 5, 2) := by decide +kernel
theorem dAn_growToPart_22 : decode prog_2_method_10_code 22 = .ok (.aload_n 1, 1) := by decide +kernel
theorem dAn_growToPart_23 : decode prog_2_method_10_code 23 = .ok (.getfield 62, 3) := by decide +kernel
theorem dAn_growToPart_26 : decode prog_2_method_10_code 26 = .ok (.if_icmp .ge 65, 3) := by decide +kernel
theorem dAn_growToPart_29 : decode prog_2_method_10_code 29 = .ok (.aload_n 2, 1) := by decide +kernel
theorem dAn_growToPart_30 : decode prog_2_method_10_code 30 = .ok (.iload 4, 2) := by decide +kernel
theorem dAn_growToPart_32 : decode prog_2_method_10_code 32 = .ok (.invokevirtual 69, 3) := by decide +kernel
theorem dAn_growToPart_35 : decode prog_2_method_10_code 35 = .ok (.ifCond .eq 50, 3) := by decide +kernel
theorem dAn_growToPart_38 : decode prog_2_method_10_code 38 = .ok (.aload_n 2, 1) := by decide +kernel
theorem dAn_growToPart_39 : decode prog_2_method_10_code 39 = .ok (.iload 5, 2) := by decide +kernel
theorem dAn_growToPart_41 : decode prog_2_method_10_code 41 = .ok (.invokevirtual 69, 3) := by decide +kernel
theorem dAn_growToPart_44 : decode prog_2_method_10_code 44 = .ok (.ifCond .eq 41, 3) := by decide +kernel
theorem dAn_growToPart_47 : decode prog_2_method_10_code 47 = .ok (.aload_n 1, 1) := by decide +kernel
theorem dAn_growToPart_48 : decode prog_2_method_10_code 48 = .ok (.aload_n 2, 1) := by decide +kernel
theorem dAn_growToPart_49 : decode prog_2_method_10_code 49 = .ok (.getfield 73, 3) := by decide +kernel
theorem dAn_growToPart_52 : decode prog_2_method_10_code 52 = .ok (.iload 4, 2) := by decide +kernel
theorem dAn_growToPart_54 : decode prog_2_method_10_code 54 = .ok (.iconst 5, 1) := by decide +kernel
theorem dAn_growToPart_55 : decode prog_2_method_10_code 55 = .ok (.imul, 1) := by decide +kernel
theorem dAn_growToPart_56 : decode prog_2_method_10_code 56 = .ok (.aload_n 2, 1) := by decide +kernel
theorem dAn_growToPart_57 : decode prog_2_method_10_code 57 = .ok (.getfield 73, 3) := by decide +kernel
theorem dAn_growToPart_60 : decode prog_2_method_10_code 60 = .ok (.iload 5, 2) := by decide +kernel
theorem dAn_growToPart_62 : decode prog_2_method_10_code 62 = .ok (.iconst 5, 1) := by decide +kernel
theorem dAn_growToPart_63 : decode prog_2_method_10_code 63 = .ok (.imul, 1) := by decide +kernel
theorem dAn_growToPart_64 : decode prog_2_method_10_code 64 = .ok (.aload_n 0, 1) := by decide +kernel
theorem dAn_growToPart_65 : decode prog_2_method_10_code 65 = .ok (.getfield 42, 3) := by decide +kernel
theorem dAn_growToPart_68 : decode prog_2_method_10_code 68 = .ok (.invokevirtual 76, 3) := by decide +kernel
theorem dAn_growToPart_71 : decode prog_2_method_10_code 71 = .ok (.aload_n 2, 1) := by decide +kernel
theorem dAn_growToPart_72 : decode prog_2_method_10_code 72 = .ok (.aload_n 0, 1) := by decide +kernel
theorem dAn_growToPart_73 : decode prog_2_method_10_code 73 = .ok (.getfield 42, 3) := by decide +kernel
theorem dAn_growToPart_76 : decode prog_2_method_10_code 76 = .ok (.iconst 0, 1) := by decide +kernel
theorem dAn_growToPart_77 : decode prog_2_method_10_code 77 = .ok (.invokevirtual 80, 3) := by decide +kernel
theorem dAn_growToPart_80 : decode prog_2_method_10_code 80 = .ok (.ifCond .eq 5, 3) := by decide +kernel
theorem dAn_growToPart_83 : decode prog_2_method_10_code 83 = .ok (.iconst 1, 1) := by decide +kernel
theorem dAn_growToPart_84 : decode prog_2_method_10_code 84 = .ok (.istore_n 3, 1) := by decide +kernel
theorem dAn_growToPart_85 : decode prog_2_method_10_code 85 = .ok (.iinc 5 1, 3) := by decide +kernel
theorem dAn_growToPart_88 : decode prog_2_method_10_code 88 = .ok (.goto (-68), 3) := by decide +kernel
theorem dAn_growToPart_91 : decode prog_2_method_10_code 91 = .ok (.iinc 4 1, 3) := by decide +kernel
theorem dAn_growToPart_94 : decode prog_2_method_10_code 94 = .ok (.goto (-89), 3) := by decide +kernel
theorem dAn_growToPart_97 : decode prog_2_method_10_code 97 = .ok (.iload_n 3, 1) := by decide +kernel
theorem dAn_growToPart_98 : decode prog_2_method_10_code 98 = .ok (.ireturn, 1) := by decide +kernel
theorem t_An_growToPart {d : Nat} {x1 x2 : Int} {σ : SG} {Q : Int → SG → Prop} (h : L (d + 1) M_An_growToPart 5 [vA 42, vA x1, vA x2, vI 0, vI 0, vU] [] σ Q) : Tri (d + 1) M_An_growToPart [vA 42, vA x1, vA x2] σ Q :=
  Tri_intro rfl (Nat.le_of_ble_eq_true rfl) (ls := [vA 42, vA x1, vA x2, vU, vU, vU]) rfl (fun hok => L_iconst dAn_growToPart_0 in_0 (L_istore_n dAn_growToPart_1 (by decide) (L_iconst dAn_growToPart_2 in_0 (L_istore dAn_growToPart_3 (by decide) (h)))))
theorem s_An_growToPart_5 {d : Nat} {x1 x2 x3 x4 : Int} {σ : SG} {Q : Int → SG → Prop} (h : obok 10 x1 ∧ (σ x1 2 ≤ x4 → (x3 = 0 ∨ x3 = 1) ∧ Q x3 σ) ∧ (x4 < σ x1 2 → L (d + 1) M_An_growToPart 20 [vA 42, vA x1, vA x2, vI x3, vI x4, vI (w32 (x4 + 1))] [] σ Q)) : L (d + 1) M_An_growToPart 5 [vA 42, vA x1, vA x2, vI x3, vI x4, vU] [] σ Q :=
  L_iload dAn_growToPart_5 rfl (L_aload_n dAn_growToPart_7 rfl (L_getf fw_An_62 rfl dAn_growToPart_8 ⟨h.1, L_icmp_ge dAn_growToPart_11 (by decide) ⟨fun c1 => L_iload_n dAn_growToPart_97 rfl (L_zreturn rfl dAn_growToPart_98 (h.2.1 c1)), fun c1 => L_iload dAn_growToPart_14 rfl (L_iconst dAn_growToPart_16 in_1 (L_iadd dAn_growToPart_17 (L_istore dAn_growToPart_18 (by decide) (h.2.2 c1))))⟩⟩))
theorem s_An_growToPart_20 {d : Nat} {x1 x2 x3 x4 x5 : Int} {σ : SG} {Q : Int → SG → Prop} (h : obok 10 x1 ∧ (σ x1 2 ≤ x5 → L (d + 1) M_An_growToPart 5 [vA 42, vA x1, vA x2, vI x3, vI (w32 (x4 + 1)), vU] [] σ Q) ∧ (x5 < σ x1 2 → obok 2 x2 ∧ Tri d M_Ec_leadsAt [vA x2, vI x4] σ (fun r2 σ2 => (r2 = 0 → L (d + 1) M_An_growToPart 20 [vA 42, vA x1, vA x2, vI x3, vI x4, vI (w32 (x5 + 1))] [] σ2 Q) ∧ (r2 ≠ 0 → obok 2 x2 ∧ Tri d M_Ec_leadsAt [vA x2, vI x5] σ2 (fun r4 σ4 => (r4 = 0 → L (d + 1) M_An_growToPart 20 [vA 42, vA x1, vA x2, vI x3, vI x4, vI (w32 (x5 + 1))] [] σ4 Q) ∧ (r4 ≠ 0 → obok 2 x2 ∧ obok 2 x2 ∧ obok 10 x1 ∧ Tri d M_Wd_bracketInto [vA x1, vA (x2 + 1), vI (w32 (x4 * 5)), vA (x2 + 1), vI (w32 (x5 * 5)), vA 66] σ4 (fun r6 σ6 => obok 2 x2 ∧ Tri d M_Ec_add [vA x2, vA 66, vI 0] σ6 (fun r7 σ7 => (r7 = 0 → L (d + 1) M_An_growToPart 20 [vA 42, vA x1, vA x2, vI x3, vI x4, vI (w32 (x5 + 1))] [] σ7 Q) ∧ (r7 ≠ 0 → L (d + 1) M_An_growToPart 20 [vA 42, vA x1, vA x2, vI 1, vI x4, vI (w32 (x5 + 1))] [] σ7 Q))))))))) : L (d + 1) M_An_growToPart 20 [vA 42, vA x1, vA x2, vI x3, vI x4, vI x5] [] σ Q :=
  L_iload dAn_growToPart_20 rfl (L_aload_n dAn_growToPart_22 rfl (L_getf fw_An_62 rfl dAn_growToPart_23 ⟨h.1, L_icmp_ge dAn_growToPart_26 (by decide) ⟨fun c1 => L_iinc dAn_growToPart_91 rfl (by decide) (L_goto dAn_growToPart_94 (by decide) (L_weak [true, true, true, true, true, false] (h.2.1 c1))), fun c1 => L_aload_n dAn_growToPart_29 rfl (L_iload dAn_growToPart_30 rfl (L_callVI rfl cv_Ec_leadsAt (As := [vI x4]) rfl (tk4 175 rfl rfl) rfl (Nat.le_of_ble_eq_true rfl) dAn_growToPart_32 ⟨(h.2.2 c1).1, Tri.mono ((h.2.2 c1).2) (fun r2 σ2 q2 => L_if_eq dAn_growToPart_35 (by decide) ⟨fun c3 => L_iinc dAn_growToPart_85 rfl (by decide) (L_goto dAn_growToPart_88 (by decide) (q2.1 c3)), fun c3 => L_aload_n dAn_growToPart_38 rfl (L_iload dAn_growToPart_39 rfl (L_callVI rfl cv_Ec_leadsAt (As := [vI x5]) rfl (tk4 175 rfl rfl) rfl (Nat.le_of_ble_eq_true rfl) dAn_growToPart_41 ⟨(q2.2 c3).1, Tri.mono ((q2.2 c3).2) (fun r4 σ4 q4 => L_if_eq dAn_growToPart_44 (by decide) ⟨fun c5 => L_iinc dAn_growToPart_85 rfl (by decide) (L_goto dAn_growToPart_88 (by decide) (q4.1 c5)), fun c5 => L_aload_n dAn_growToPart_47 rfl (L_aload_n dAn_growToPart_48 rfl (L_getF (b := x2 + 1) fw_An_73 rfl rfl (by omega) dAn_growToPart_49 ⟨(q4.2 c5).1, L_iload dAn_growToPart_52 rfl (L_iconst dAn_growToPart_54 in_5 (L_imul dAn_growToPart_55 (L_aload_n dAn_growToPart_56 rfl (L_getF (b := x2 + 1) fw_An_73 rfl rfl (by omega) dAn_growToPart_57 ⟨(q4.2 c5).2.1, L_iload dAn_growToPart_60 rfl (L_iconst dAn_growToPart_62 in_5 (L_imul dAn_growToPart_63 (L_aload_n dAn_growToPart_64 rfl (L_getF (b := 66) fw_An_42 rfl rfl (by decide) dAn_growToPart_65 ⟨ob_42, L_callVV rfl cv_Wd_bracketInto (As := [vA (x2 + 1), vI (w32 (x4 * 5)), vA (x2 + 1), vI (w32 (x5 * 5)), vA 66]) rfl (tk4 178 rfl rfl) rfl (Nat.le_of_ble_eq_true rfl) dAn_growToPart_68 ⟨(q4.2 c5).2.2.1, Tri.mono ((q4.2 c5).2.2.2) (fun r6 σ6 q6 => L_aload_n dAn_growToPart_71 rfl (L_aload_n dAn_growToPart_72 rfl (L_getF (b := 66) fw_An_42 rfl rfl (by decide) dAn_growToPart_73 ⟨ob_42, L_iconst dAn_growToPart_76 in_0 (L_callVI rfl cv_Ec_add (As := [vA 66, vI 0]) rfl (tk4 179 rfl rfl) rfl (Nat.le_of_ble_eq_true rfl) dAn_growToPart_77 ⟨q6.1, Tri.mono q6.2 (fun r7 σ7 q7 => L_if_eq dAn_growToPart_80 (by decide) ⟨fun c8 => L_iinc dAn_growToPart_85 rfl (by decide) (L_goto dAn_growToPart_88 (by decide) (q7.1 c8)), fun c8 => L_iconst dAn_growToPart_83 in_1 (L_istore_n dAn_growToPart_84 (by decide) (L_iinc dAn_growToPart_85 rfl (by decide) (L_goto dAn_growToPart_88 (by decide) (q7.2 c8))))⟩)⟩)⟩)))⟩⟩))))⟩))))⟩))⟩)⟩))⟩)⟩))⟩⟩))
theorem dAn_isIdeal_0 : decode prog_2_method_11_code 0 = .ok (.iconst 0, 1) := by decide +kernel
theorem dAn_isIdeal_1 : decode prog_2_method_11_code 1 = .ok (.istore_n 3, 1) := by decide +kernel
theorem dAn_isIdeal_2 : decode prog_2_method_11_code 2 = .ok (.iload_n 3, 1) := by decide +kernel
theorem dAn_isIdeal_3 : decode prog_2_method_11_code 3 = .ok (.aload_n 1, 1) := by decide +kernel
theorem dAn_isIdeal_4 : decode prog_2_method_11_code 4 = .ok (.getfield 62, 3) := by decide +kernel
theorem dAn_isIdeal_7 : decode prog_2_method_11_code 7 = .ok (.if_icmp .ge 71, 3) := by decide +kernel
theorem dAn_isIdeal_10 : decode prog_2_method_11_code 10 = .ok (.iconst 0, 1) := by decide +kernel
theorem dAn_isIdeal_11 : decode prog_2_method_11_code 11 = .ok (.istore 4, 2) := by decide +kernel
theorem dAn_isIdeal_13 : decode prog_2_method_11_code 13 = .ok (.iload 4, 2) := by decide +kernel
theorem dAn_isIdeal_15 : decode prog_2_method_11_code 15 = .ok (.aload_n 1, 1) := by decide +kernel
theorem dAn_isIdeal_16 : decode prog_2_method_11_code 16 = .ok (.getfield 62, 3) := by decide +kernel
theorem dAn_isIdeal_19 : decode prog_2_method_11_code 19 = .ok (.if_icmp .ge 53, 3) := by decide +kernel
theorem dAn_isIdeal_22 : decode prog_2_method_11_code 22 = .ok (.aload_n 2, 1) := by decide +kernel
theorem dAn_isIdeal_23 : decode prog_2_method_11_code 23 = .ok (.iload_n 3, 1) := by decide +kernel
theorem dAn_isIdeal_24 : decode prog_2_method_11_code 24 = .ok (.invokevirtual 69, 3) := by decide +kernel
theorem dAn_isIdeal_27 : decode prog_2_method_11_code 27 = .ok (.ifCond .eq 39, 3) := by decide +kernel
theorem dAn_isIdeal_30 : decode prog_2_method_11_code 30 = .ok (.aload_n 1, 1) := by decide +kernel
theorem dAn_isIdeal_31 : decode prog_2_method_11_code 31 = .ok (.aload_n 2, 1) := by decide +kernel
theorem dAn_isIdeal_32 : decode prog_2_method_11_code 32 = .ok (.getfield 73, 3) := by decide +kernel
theorem dAn_isIdeal_35 : decode prog_2_method_11_code 35 = .ok (.iload_n 3, 1) := by decide +kernel
theorem dAn_isIdeal_36 : decode prog_2_method_11_code 36 = .ok (.iconst 5, 1) := by decide +kernel
theorem dAn_isIdeal_37 : decode prog_2_method_11_code 37 = .ok (.imul, 1) := by decide +kernel
theorem dAn_isIdeal_38 : decode prog_2_method_11_code 38 = .ok (.getstatic 103, 3) := by decide +kernel
theorem dAn_isIdeal_41 : decode prog_2_method_11_code 41 = .ok (.iload 4, 2) := by decide +kernel
theorem dAn_isIdeal_43 : decode prog_2_method_11_code 43 = .ok (.iconst 5, 1) := by decide +kernel
theorem dAn_isIdeal_44 : decode prog_2_method_11_code 44 = .ok (.imul, 1) := by decide +kernel
theorem dAn_isIdeal_45 : decode prog_2_method_11_code 45 = .ok (.aload_n 0, 1) := by decide +kernel
theorem dAn_isIdeal_46 : decode prog_2_method_11_code 46 = .ok (.getfield 42, 3) := by decide +kernel
theorem dAn_isIdeal_49 : decode prog_2_method_11_code 49 = .ok (.invokevirtual 76, 3) := by decide +kernel
theorem dAn_isIdeal_52 : decode prog_2_method_11_code 52 = .ok (.aload_n 2, 1) := by decide +kernel
theorem dAn_isIdeal_53 : decode prog_2_method_11_code 53 = .ok (.aload_n 0, 1) := by decide +kernel
theorem dAn_isIdeal_54 : decode prog_2_method_11_code 54 = .ok (.getfield 42, 3) := by decide +kernel
theorem dAn_isIdeal_57 : decode prog_2_method_11_code 57 = .ok (.iconst 0, 1) := by decide +kernel
theorem dAn_isIdeal_58 : decode prog_2_method_11_code 58 = .ok (.invokevirtual 117, 3) := by decide +kernel
theorem dAn_isIdeal_61 : decode prog_2_method_11_code 61 = .ok (.ifCond .ne 5, 3) := by decide +kernel
theorem dAn_isIdeal_64 : decode prog_2_method_11_code 64 = .ok (.iconst 0, 1) := by decide +kernel
theorem dAn_isIdeal_65 : decode prog_2_method_11_code 65 = .ok (.ireturn, 1) := by decide +kernel
theorem dAn_isIdeal_66 : decode prog_2_method_11_code 66 = .ok (.iinc 4 1, 3) := by decide +kernel
theorem dAn_isIdeal_69 : decode prog_2_method_11_code 69 = .ok (.goto (-56), 3) := by decide +kernel
theorem dAn_isIdeal_72 : decode prog_2_method_11_code 72 = .ok (.iinc 3 1, 3) := by decide +kernel
theorem dAn_isIdeal_75 : decode prog_2_method_11_code 75 = .ok (.goto (-73), 3) := by decide +kernel
theorem dAn_isIdeal_78 : decode prog_2_method_11_code 78 = .ok (.iconst 1, 1) := by decide +kernel
theorem dAn_isIdeal_79 : decode prog_2_method_11_code 79 = .ok (.ireturn, 1) := by decide +kernel
theorem t_An_isIdeal {d : Nat} {x1 x2 : Int} {σ : SG} {Q : Int → SG → Prop} (h : L (d + 1) M_An_isIdeal 2 [vA 42, vA x1, vA x2, vI 0, vU] [] σ Q) : Tri (d + 1) M_An_isIdeal [vA 42, vA x1, vA x2] σ Q :=
  Tri_intro rfl (Nat.le_of_ble_eq_true rfl) (ls := [vA 42, vA x1, vA x2, vU, vU]) rfl (fun hok => L_iconst dAn_isIdeal_0 in_0 (L_istore_n dAn_isIdeal_1 (by decide) (h)))
theorem s_An_isIdeal_2 {d : Nat} {x1 x2 x3 : Int} {σ : SG} {Q : Int → SG → Prop} (h : obok 10 x1 ∧ (σ x1 2 ≤ x3 → Q 1 σ) ∧ (x3 < σ x1 2 → L (d + 1) M_An_isIdeal 13 [vA 42, vA x1, vA x2, vI x3, vI 0] [] σ Q)) : L (d + 1) M_An_isIdeal 2 [vA 42, vA x1, vA x2, vI x3, vU] [] σ Q :=
  L_iload_n dAn_isIdeal_2 rfl (L_aload_n dAn_isIdeal_3 rfl (L_getf fw_An_62 rfl dAn_isIdeal_4 ⟨h.1, L_icmp_ge dAn_isIdeal_7 (by decide) ⟨fun c1 => L_iconst dAn_isIdeal_78 in_1 (L_zreturn1 rfl dAn_isIdeal_79 (h.2.1 c1)), fun c1 => L_iconst dAn_isIdeal_10 in_0 (L_istore dAn_isIdeal_11 (by decide) (h.2.2 c1))⟩⟩))
theorem s_An_isIdeal_13 {d : Nat} {x1 x2 x3 x4 : Int} {σ : SG} {Q : Int → SG → Prop} (h : obok 10 x1 ∧ (σ x1 2 ≤ x4 → L (d + 1) M_An_isIdeal 2 [vA 42, vA x1, vA x2, vI (w32 (x3 + 1)), vU] [] σ Q) ∧ (x4 < σ x1 2 → obok 2 x2 ∧ Tri d M_Ec_leadsAt [vA x2, vI x3] σ (fun r2 σ2 => (r2 = 0 → L (d + 1) M_An_isIdeal 13 [vA 42, vA x1, vA x2, vI x3, vI (w32 (x4 + 1))] [] σ2 Q) ∧ (r2 ≠ 0 → obok 2 x2 ∧ obok 10 x1 ∧ Tri d M_Wd_bracketInto [vA x1, vA (x2 + 1), vI (w32 (x3 * 5)), vA (-2), vI (w32 (x4 * 5)), vA 66] σ2 (fun r4 σ4 => obok 2 x2 ∧ Tri d M_Ec_holds [vA x2, vA 66, vI 0] σ4 (fun r5 σ5 => (r5 ≠ 0 → L (d + 1) M_An_isIdeal 13 [vA 42, vA x1, vA x2, vI x3, vI (w32 (x4 + 1))] [] σ5 Q) ∧ (r5 = 0 → Q 0 σ5))))))) : L (d + 1) M_An_isIdeal 13 [vA 42, vA x1, vA x2, vI x3, vI x4] [] σ Q :=
  L_iload dAn_isIdeal_13 rfl (L_aload_n dAn_isIdeal_15 rfl (L_getf fw_An_62 rfl dAn_isIdeal_16 ⟨h.1, L_icmp_ge dAn_isIdeal_19 (by decide) ⟨fun c1 => L_iinc dAn_isIdeal_72 rfl (by decide) (L_goto dAn_isIdeal_75 (by decide) (L_weak [true, true, true, true, false] (h.2.1 c1))), fun c1 => L_aload_n dAn_isIdeal_22 rfl (L_iload_n dAn_isIdeal_23 rfl (L_callVI rfl cv_Ec_leadsAt (As := [vI x3]) rfl (tk4 175 rfl rfl) rfl (Nat.le_of_ble_eq_true rfl) dAn_isIdeal_24 ⟨(h.2.2 c1).1, Tri.mono ((h.2.2 c1).2) (fun r2 σ2 q2 => L_if_eq dAn_isIdeal_27 (by decide) ⟨fun c3 => L_iinc dAn_isIdeal_66 rfl (by decide) (L_goto dAn_isIdeal_69 (by decide) (q2.1 c3)), fun c3 => L_aload_n dAn_isIdeal_30 rfl (L_aload_n dAn_isIdeal_31 rfl (L_getF (b := x2 + 1) fw_An_73 rfl rfl (by omega) dAn_isIdeal_32 ⟨(q2.2 c3).1, L_iload_n dAn_isIdeal_35 rfl (L_iconst dAn_isIdeal_36 in_5 (L_imul dAn_isIdeal_37 (L_units (by decide +kernel) dAn_isIdeal_38 (L_iload dAn_isIdeal_41 rfl (L_iconst dAn_isIdeal_43 in_5 (L_imul dAn_isIdeal_44 (L_aload_n dAn_isIdeal_45 rfl (L_getF (b := 66) fw_An_42 rfl rfl (by decide) dAn_isIdeal_46 ⟨ob_42, L_callVV rfl cv_Wd_bracketInto (As := [vA (x2 + 1), vI (w32 (x3 * 5)), vA (-2), vI (w32 (x4 * 5)), vA 66]) rfl (tk4 178 rfl rfl) rfl (Nat.le_of_ble_eq_true rfl) dAn_isIdeal_49 ⟨(q2.2 c3).2.1, Tri.mono ((q2.2 c3).2.2) (fun r4 σ4 q4 => L_aload_n dAn_isIdeal_52 rfl (L_aload_n dAn_isIdeal_53 rfl (L_getF (b := 66) fw_An_42 rfl rfl (by decide) dAn_isIdeal_54 ⟨ob_42, L_iconst dAn_isIdeal_57 in_0 (L_callVI rfl cv_Ec_holds (As := [vA 66, vI 0]) rfl (tk5 63 rfl rfl) rfl (Nat.le_of_ble_eq_true rfl) dAn_isIdeal_58 ⟨q4.1, Tri.mono q4.2 (fun r5 σ5 q5 => L_if_ne dAn_isIdeal_61 (by decide) ⟨fun c6 => L_iinc dAn_isIdeal_66 rfl (by decide) (L_goto dAn_isIdeal_69 (by decide) (q5.1 c6)), fun c6 => L_iconst dAn_isIdeal_64 in_0 (L_zreturn0 rfl dAn_isIdeal_65 (q5.2 c6))⟩)⟩)⟩)))⟩⟩))))))))⟩))⟩)⟩))⟩⟩))
theorem dAn_bracketsLieIn_0 : decode prog_2_method_12_code 0 = .ok (.iconst 0, 1) := by decide +kernel
theorem dAn_bracketsLieIn_1 : decode prog_2_method_12_code 1 = .ok (.istore 4, 2) := by decide +kernel
theorem dAn_bracketsLieIn_3 : decode prog_2_method_12_code 3 = .ok (.iload 4, 2) := by decide +kernel
theorem dAn_bracketsLieIn_5 : decode prog_2_method_12_code 5 = .ok (.aload_n 1, 1) := by decide +kernel
theorem dAn_bracketsLieIn_6 : decode prog_2_method_12_code 6 = .ok (.getfield 62, 3) := by decide +kernel
theorem dAn_bracketsLieIn_9 : decode prog_2_method_12_code 9 = .ok (.if_icmp .ge 86, 3) := by decide +kernel
theorem dAn_bracketsLieIn_12 : decode prog_2_method_12_code 12 = .ok (.iload 4, 2) := by decide +kernel
theorem dAn_bracketsLieIn_14 : decode prog_2_method_12_code 14 = .ok (.iconst 1, 1) := by decide +kernel
theorem dAn_bracketsLieIn_15 : decode prog_2_method_12_code 15 = .ok (.iadd, 1) := by decide +kernel
theorem dAn_bracketsLieIn_16 : decode prog_2_method_12_code 16 = .ok (.istore 5, 2) := by decide +kernel
theorem dAn_bracketsLieIn_18 : decode prog_2_method_12_code 18 = .ok (.iload 5, 2) := by decide +kernel
theorem dAn_bracketsLieIn_20 : decode prog_2_method_12_code 20 = .ok (.aload_n 1, 1) := by decide +kernel
theorem dAn_bracketsLieIn_21 : decode prog_2_method_12_code 21 = .ok (.getfield 62, 3) := by decide +kernel
theorem dAn_bracketsLieIn_24 : decode prog_2_method_12_code 24 = .ok (.if_icmp .ge 65, 3) := by decide +kernel
theorem dAn_bracketsLieIn_27 : decode prog_2_method_12_code 27 = .ok (.aload_n 2, 1) := by decide +kernel
theorem dAn_bracketsLieIn_28 : decode prog_2_method_12_code 28 = .ok (.iload 4, 2) := by decide +kernel
theorem dAn_bracketsLieIn_30 : decode prog_2_method_12_code 30 = .ok (.invokevirtual 69, 3) := by decide +kernel
theorem dAn_bracketsLieIn_33 : decode prog_2_method_12_code 33 = .ok (.ifCond .eq 50, 3) := by decide +kernel
theorem dAn_bracketsLieIn_36 : decode prog_2_method_12_code 36 = .ok (.aload_n 2, 1) := by decide +kernel
theorem dAn_bracketsLieIn_37 : decode prog_2_method_12_code 37 = .ok (.iload 5, 2) := by decide +kernel
theorem dAn_bracketsLieIn_39 : decode prog_2_method_12_code 39 = .ok (.invokevirtual 69, 3) := by decide +kernel
theorem dAn_bracketsLieIn_42 : decode prog_2_method_12_code 42 = .ok (.ifCond .eq 41, 3) := by decide +kernel
theorem dAn_bracketsLieIn_45 : decode prog_2_method_12_code 45 = .ok (.aload_n 1, 1) := by decide +kernel
theorem dAn_bracketsLieIn_46 : decode prog_2_method_12_code 46 = .ok (.aload_n 2, 1) := by decide +kernel
theorem dAn_bracketsLieIn_47 : decode prog_2_method_12_code 47 = .ok (.getfield 73, 3) := by decide +kernel
theorem dAn_bracketsLieIn_50 : decode prog_2_method_12_code 50 = .ok (.iload 4, 2) := by decide +kernel
theorem dAn_bracketsLieIn_52 : decode prog_2_method_12_code 52 = .ok (.iconst 5, 1) := by decide +kernel
theorem dAn_bracketsLieIn_53 : decode prog_2_method_12_code 53 = .ok (.imul, 1) := by decide +kernel
theorem dAn_bracketsLieIn_54 : decode prog_2_method_12_code 54 = .ok (.aload_n 2, 1) := by decide +kernel
theorem dAn_bracketsLieIn_55 : decode prog_2_method_12_code 55 = .ok (.getfield 73, 3) := by decide +kernel
theorem dAn_bracketsLieIn_58 : decode prog_2_method_12_code 58 = .ok (.iload 5, 2) := by decide +kernel
theorem dAn_bracketsLieIn_60 : decode prog_2_method_12_code 60 = .ok (.iconst 5, 1) := by decide +kernel
theorem dAn_bracketsLieIn_61 : decode prog_2_method_12_code 61 = .ok (.imul, 1) := by decide +kernel
theorem dAn_bracketsLieIn_62 : decode prog_2_method_12_code 62 = .ok (.aload_n 0, 1) := by decide +kernel
theorem dAn_bracketsLieIn_63 : decode prog_2_method_12_code 63 = .ok (.getfield 42, 3) := by decide +kernel
theorem dAn_bracketsLieIn_66 : decode prog_2_method_12_code 66 = .ok (.invokevirtual 76, 3) := by decide +kernel
theorem dAn_bracketsLieIn_69 : decode prog_2_method_12_code 69 = .ok (.aload_n 3, 1) := by decide +kernel
theorem dAn_bracketsLieIn_70 : decode prog_2_method_12_code 70 = .ok (.aload_n 0, 1) := by decide +kernel
theorem dAn_bracketsLieIn_71 : decode prog_2_method_12_code 71 = .ok (.getfield 42, 3) := by decide +kernel
theorem dAn_bracketsLieIn_74 : decode prog_2_method_12_code 74 = .ok (.iconst 0, 1) := by decide +kernel
theorem dAn_bracketsLieIn_75 : decode prog_2_method_12_code 75 = .ok (.invokevirtual 117, 3) := by decide +kernel
theorem dAn_bracketsLieIn_78 : decode prog_2_method_12_code 78 = .ok (.ifCond .ne 5, 3) := by decide +kernel
theorem dAn_bracketsLieIn_81 : decode prog_2_method_12_code 81 = .ok (.iconst 0, 1) := by decide +kernel
theorem dAn_bracketsLieIn_82 : decode prog_2_method_12_code 82 = .ok (.ireturn, 1) := by decide +kernel
theorem dAn_bracketsLieIn_83 : decode prog_2_method_12_code 83 = .ok (.iinc 5 1, 3) := by decide +kernel
theorem dAn_bracketsLieIn_86 : decode prog_2_method_12_code 86 = .ok (.goto (-68), 3) := by decide +kernel
theorem dAn_bracketsLieIn_89 : decode prog_2_method_12_code 89 = .ok (.iinc 4 1, 3) := by decide +kernel
theorem dAn_bracketsLieIn_92 : decode prog_2_method_12_code 92 = .ok (.goto (-89), 3) := by decide +kernel
theorem dAn_bracketsLieIn_95 : decode prog_2_method_12_code 95 = .ok (.iconst 1, 1) := by decide +kernel
theorem dAn_bracketsLieIn_96 : decode prog_2_method_12_code 96 = .ok (.ireturn, 1) := by decide +kernel
theorem t_An_bracketsLieIn {d : Nat} {x1 x2 x3 : Int} {σ : SG} {Q : Int → SG → Prop} (h : L (d + 1) M_An_bracketsLieIn 3 [vA 42, vA x1, vA x2, vA x3, vI 0, vU] [] σ Q) : Tri (d + 1) M_An_bracketsLieIn [vA 42, vA x1, vA x2, vA x3] σ Q :=
  Tri_intro rfl (Nat.le_of_ble_eq_true rfl) (ls := [vA 42, vA x1, vA x2, vA x3, vU, vU]) rfl (fun hok => L_iconst dAn_bracketsLieIn_0 in_0 (L_istore dAn_bracketsLieIn_1 (by decide) (h)))
theorem s_An_bracketsLieIn_3 {d : Nat} {x1 x2 x3 x4 : Int} {σ : SG} {Q : Int → SG → Prop} (h : obok 10 x1 ∧ (σ x1 2 ≤ x4 → Q 1 σ) ∧ (x4 < σ x1 2 → L (d + 1) M_An_bracketsLieIn 18 [vA 42, vA x1, vA x2, vA x3, vI x4, vI (w32 (x4 + 1))] [] σ Q)) : L (d + 1) M_An_bracketsLieIn 3 [vA 42, vA x1, vA x2, vA x3, vI x4, vU] [] σ Q :=
  L_iload dAn_bracketsLieIn_3 rfl (L_aload_n dAn_bracketsLieIn_5 rfl (L_getf fw_An_62 rfl dAn_bracketsLieIn_6 ⟨h.1, L_icmp_ge dAn_bracketsLieIn_9 (by decide) ⟨fun c1 => L_iconst dAn_bracketsLieIn_95 in_1 (L_zreturn1 rfl dAn_bracketsLieIn_96 (h.2.1 c1)), fun c1 => L_iload dAn_bracketsLieIn_12 rfl (L_iconst dAn_bracketsLieIn_14 in_1 (L_iadd dAn_bracketsLieIn_15 (L_istore dAn_bracketsLieIn_16 (by decide) (h.2.2 c1))))⟩⟩))
theorem s_An_bracketsLieIn_18 {d : Nat} {x1 x2 x3 x4 x5 : Int} {σ : SG} {Q : Int → SG → Prop} (h : obok 10 x1 ∧ (σ x1 2 ≤ x5 → L (d + 1) M_An_bracketsLieIn 3 [vA 42, vA x1, vA x2, vA x3, vI (w32 (x4 + 1)), vU] [] σ Q) ∧ (x5 < σ x1 2 → obok 2 x2 ∧ Tri d M_Ec_leadsAt [vA x2, vI x4] σ (fun r2 σ2 => (r2 = 0 → L (d + 1) M_An_bracketsLieIn 18 [vA 42, vA x1, vA x2, vA x3, vI x4, vI (w32 (x5 + 1))] [] σ2 Q) ∧ (r2 ≠ 0 → obok 2 x2 ∧ Tri d M_Ec_leadsAt [vA x2, vI x5] σ2 (fun r4 σ4 => (r4 = 0 → L (d + 1) M_An_bracketsLieIn 18 [vA 42, vA x1, vA x2, vA x3, vI x4, vI (w32 (x5 + 1))] [] σ4 Q) ∧ (r4 ≠ 0 → obok 2 x2 ∧ obok 2 x2 ∧ obok 10 x1 ∧ Tri d M_Wd_bracketInto [vA x1, vA (x2 + 1), vI (w32 (x4 * 5)), vA (x2 + 1), vI (w32 (x5 * 5)), vA 66] σ4 (fun r6 σ6 => obok 2 x3 ∧ Tri d M_Ec_holds [vA x3, vA 66, vI 0] σ6 (fun r7 σ7 => (r7 ≠ 0 → L (d + 1) M_An_bracketsLieIn 18 [vA 42, vA x1, vA x2, vA x3, vI x4, vI (w32 (x5 + 1))] [] σ7 Q) ∧ (r7 = 0 → Q 0 σ7))))))))) : L (d + 1) M_An_bracketsLieIn 18 [vA 42, vA x1, vA x2, vA x3, vI x4, vI x5] [] σ Q :=
  L_iload dAn_bracketsLieIn_18 rfl (L_aload_n dAn_bracketsLieIn_20 rfl (L_getf fw_An_62 rfl dAn_bracketsLieIn_21 ⟨h.1, L_icmp_ge dAn_bracketsLieIn_24 (by decide) ⟨fun c1 => L_iinc dAn_bracketsLieIn_89 rfl (by decide) (L_goto dAn_bracketsLieIn_92 (by decide) (L_weak [true, true, true, true, true, false] (h.2.1 c1))), fun c1 => L_aload_n dAn_bracketsLieIn_27 rfl (L_iload dAn_bracketsLieIn_28 rfl (L_callVI rfl cv_Ec_leadsAt (As := [vI x4]) rfl (tk4 175 rfl rfl) rfl (Nat.le_of_ble_eq_true rfl) dAn_bracketsLieIn_30 ⟨(h.2.2 c1).1, Tri.mono ((h.2.2 c1).2) (fun r2 σ2 q2 => L_if_eq dAn_bracketsLieIn_33 (by decide) ⟨fun c3 => L_iinc dAn_bracketsLieIn_83 rfl (by decide) (L_goto dAn_bracketsLieIn_86 (by decide) (q2.1 c3)), fun c3 => L_aload_n dAn_bracketsLieIn_36 rfl (L_iload dAn_bracketsLieIn_37 rfl (L_callVI rfl cv_Ec_leadsAt (As := [vI x5]) rfl (tk4 175 rfl rfl) rfl (Nat.le_of_ble_eq_true rfl) dAn_bracketsLieIn_39 ⟨(q2.2 c3).1, Tri.mono ((q2.2 c3).2) (fun r4 σ4 q4 => L_if_eq dAn_bracketsLieIn_42 (by decide) ⟨fun c5 => L_iinc dAn_bracketsLieIn_83 rfl (by decide) (L_goto dAn_bracketsLieIn_86 (by decide) (q4.1 c5)), fun c5 => L_aload_n dAn_bracketsLieIn_45 rfl (L_aload_n dAn_bracketsLieIn_46 rfl (L_getF (b := x2 + 1) fw_An_73 rfl rfl (by omega) dAn_bracketsLieIn_47 ⟨(q4.2 c5).1, L_iload dAn_bracketsLieIn_50 rfl (L_iconst dAn_bracketsLieIn_52 in_5 (L_imul dAn_bracketsLieIn_53 (L_aload_n dAn_bracketsLieIn_54 rfl (L_getF (b := x2 + 1) fw_An_73 rfl rfl (by omega) dAn_bracketsLieIn_55 ⟨(q4.2 c5).2.1, L_iload dAn_bracketsLieIn_58 rfl (L_iconst dAn_bracketsLieIn_60 in_5 (L_imul dAn_bracketsLieIn_61 (L_aload_n dAn_bracketsLieIn_62 rfl (L_getF (b := 66) fw_An_42 rfl rfl (by decide) dAn_bracketsLieIn_63 ⟨ob_42, L_callVV rfl cv_Wd_bracketInto (As := [vA (x2 + 1), vI (w32 (x4 * 5)), vA (x2 + 1), vI (w32 (x5 * 5)), vA 66]) rfl (tk4 178 rfl rfl) rfl (Nat.le_of_ble_eq_true rfl) dAn_bracketsLieIn_66 ⟨(q4.2 c5).2.2.1, Tri.mono ((q4.2 c5).2.2.2) (fun r6 σ6 q6 => L_aload_n dAn_bracketsLieIn_69 rfl (L_aload_n dAn_bracketsLieIn_70 rfl (L_getF (b := 66) fw_An_42 rfl rfl (by decide) dAn_bracketsLieIn_71 ⟨ob_42, L_iconst dAn_bracketsLieIn_74 in_0 (L_callVI rfl cv_Ec_holds (As := [vA 66, vI 0]) rfl (tk5 63 rfl rfl) rfl (Nat.le_of_ble_eq_true rfl) dAn_bracketsLieIn_75 ⟨q6.1, Tri.mono q6.2 (fun r7 σ7 q7 => L_if_ne dAn_bracketsLieIn_78 (by decide) ⟨fun c8 => L_iinc dAn_bracketsLieIn_83 rfl (by decide) (L_goto dAn_bracketsLieIn_86 (by decide) (q7.1 c8)), fun c8 => L_iconst dAn_bracketsLieIn_81 in_0 (L_zreturn0 rfl dAn_bracketsLieIn_82 (q7.2 c8))⟩)⟩)⟩)))⟩⟩))))⟩))))⟩))⟩)⟩))⟩)⟩))⟩⟩))
theorem dAn_isSimple_0 : decode prog_2_method_13_code 0 = .ok (.aload_n 1, 1) := by decide +kernel
theorem dAn_isSimple_1 : decode prog_2_method_13_code 1 = .ok (.invokevirtual 120, 3) := by decide +kernel
theorem dAn_isSimple_4 : decode prog_2_method_13_code 4 = .ok (.ifCond .ne 5, 3) := by decide +kernel
theorem dAn_isSimple_7 : decode prog_2_method_13_code 7 = .ok (.iconst 0, 1) := by decide +kernel
theorem dAn_isSimple_8 : decode prog_2_method_13_code 8 = .ok (.ireturn, 1) := by decide +kernel
theorem dAn_isSimple_9 : decode prog_2_method_13_code 9 = .ok (.aload_n 1, 1) := by decide +kernel
theorem dAn_isSimple_10 : decode prog_2_method_13_code 10 = .ok (.invokevirtual 124, 3) := by decide +kernel
theorem dAn_isSimple_13 : decode prog_2_method_13_code 13 = .ok (.istore_n 2, 1) := by decide +kernel
theorem dAn_isSimple_14 : decode prog_2_method_13_code 14 = .ok (.iconst 1, 1) := by decide +kernel
theorem dAn_isSimple_15 : decode prog_2_method_13_code 15 = .ok (.istore_n 3, 1) := by decide +kernel
theorem dAn_isSimple_16 : decode prog_2_method_13_code 16 = .ok (.iload_n 3, 1) := by decide +kernel
theorem dAn_isSimple_17 : decode prog_2_method_13_code 17 = .ok (.iload_n 2, 1) := by decide +kernel
theorem dAn_isSimple_18 : decode prog_2_method_13_code 18 = .ok (.if_icmp .ge 73, 3) := by decide +kernel
theorem dAn_isSimple_21 : decode prog_2_method_13_code 21 = .ok (.aload_n 1, 1) := by decide +kernel
theorem dAn_isSimple_22 : decode prog_2_method_13_code 22 = .ok (.iload_n 3, 1) := by decide +kernel
theorem dAn_isSimple_23 : decode prog_2_method_13_code 23 = .ok (.aload_n 0, 1) := by decide +kernel
theorem dAn_isSimple_24 : decode prog_2_method_13_code 24 = .ok (.getfield 42, 3) := by decide +kernel
theorem dAn_isSimple_27 : decode prog_2_method_13_code 27 = .ok (.iconst 0, 1) := by decide +kernel
theorem dAn_isSimple_28 : decode prog_2_method_13_code 28 = .ok (.invokevirtual 95, 3) := by decide +kernel
theorem dAn_isSimple_31 : decode prog_2_method_13_code 31 = .ok (.aload_n 0, 1) := by decide +kernel
theorem dAn_isSimple_32 : decode prog_2_method_13_code 32 = .ok (.getfield 29, 3) := by decide +kernel
theorem dAn_isSimple_35 : decode prog_2_method_13_code 35 = .ok (.aload_n 1, 1) := by decide +kernel
theorem dAn_isSimple_36 : decode prog_2_method_13_code 36 = .ok (.getfield 57, 3) := by decide +kernel
theorem dAn_isSimple_39 : decode prog_2_method_13_code 39 = .ok (.aload_n 1, 1) := by decide +kernel
theorem dAn_isSimple_40 : decode prog_2_method_13_code 40 = .ok (.getfield 62, 3) := by decide +kernel
theorem dAn_isSimple_43 : decode prog_2_method_13_code 43 = .ok (.invokevirtual 65, 3) := by decide +kernel
theorem dAn_isSimple_46 : decode prog_2_method_13_code 46 = .ok (.aload_n 0, 1) := by decide +kernel
theorem dAn_isSimple_47 : decode prog_2_method_13_code 47 = .ok (.getfield 29, 3) := by decide +kernel
theorem dAn_isSimple_50 : decode prog_2_method_13_code 50 = .ok (.aload_n 0, 1) := by decide +kernel
theorem dAn_isSimple_51 : decode prog_2_method_13_code 51 = .ok (.getfield 42, 3) := by decide +kernel
theorem dAn_isSimple_54 : decode prog_2_method_13_code 54 = .ok (.iconst 0, 1) := by decide +kernel
theorem dAn_isSimple_55 : decode prog_2_method_13_code 55 = .ok (.invokevirtual 80, 3) := by decide +kernel
theorem dAn_isSimple_58 : decode prog_2_method_13_code 58 = .ok (.pop, 1) := by decide +kernel
theorem dAn_isSimple_59 : decode prog_2_method_13_code 59 = .ok (.aload_n 0, 1) := by decide +kernel
theorem dAn_isSimple_60 : decode prog_2_method_13_code 60 = .ok (.aload_n 1, 1) := by decide +kernel
theorem dAn_isSimple_61 : decode prog_2_method_13_code 61 = .ok (.aload_n 0, 1) := by decide +kernel
theorem dAn_isSimple_62 : decode prog_2_method_13_code 62 = .ok (.getfield 29, 3) := by decide +kernel
theorem dAn_isSimple_65 : decode prog_2_method_13_code 65 = .ok (.iconst 1, 1) := by decide +kernel
theorem dAn_isSimple_66 : decode prog_2_method_13_code 66 = .ok (.invokevirtual 127, 3) := by decide +kernel
theorem dAn_isSimple_69 : decode prog_2_method_13_code 69 = .ok (.aload_n 0, 1) := by decide +kernel
theorem dAn_isSimple_70 : decode prog_2_method_13_code 70 = .ok (.getfield 29, 3) := by decide +kernel
theorem dAn_isSimple_73 : decode prog_2_method_13_code 73 = .ok (.getfield 53, 3) := by decide +kernel
theorem dAn_isSimple_76 : decode prog_2_method_13_code 76 = .ok (.aload_n 1, 1) := by decide +kernel
theorem dAn_isSimple_77 : decode prog_2_method_13_code 77 = .ok (.getfield 62, 3) := by decide +kernel
theorem dAn_isSimple_80 : decode prog_2_method_13_code 80 = .ok (.if_icmp .ge 5, 3) := by decide +kernel
theorem dAn_isSimple_83 : decode prog_2_method_13_code 83 = .ok (.iconst 0, 1) := by decide +kernel
theorem dAn_isSimple_84 : decode prog_2_method_13_code 84 = .ok (.ireturn, 1) := by decide +kernel
theorem dAn_isSimple_85 : decode prog_2_method_13_code 85 = .ok (.iinc 3 1, 3) := by decide +kernel
theorem dAn_isSimple_88 : decode prog_2_method_13_code 88 = .ok (.goto (-72), 3) := by decide +kernel
theorem dAn_isSimple_91 : decode prog_2_method_13_code 91 = .ok (.iconst 1, 1) := by decide +kernel
theorem dAn_isSimple_92 : decode prog_2_method_13_code 92 = .ok (.ireturn, 1) := by decide +kernel
theorem t_An_isSimple {d : Nat} {x1 : Int} {σ : SG} {Q : Int → SG → Prop} (h : obok 10 x1 ∧ Tri d M_Wd_countCells [vA x1] σ (fun r1 σ1 => (r1 ≠ 0 → obok 10 x1 ∧ Tri d M_Wd_vectors [vA x1] σ1 (fun r3 σ3 => L (d + 1) M_An_isSimple 16 [vA 42, vA x1, vI r3, vI 1] [] σ3 Q)) ∧ (r1 = 0 → Q 0 σ1))) : Tri (d + 1) M_An_isSimple [vA 42, vA x1] σ Q :=
  Tri_intro rfl (Nat.le_of_ble_eq_true rfl) (ls := [vA 42, vA x1, vU, vU]) rfl (fun hok => L_aload_n dAn_isSimple_0 rfl (L_callVI rfl cv_Wd_countCells (As := []) rfl (tk5 9 rfl rfl) rfl (Nat.le_of_ble_eq_true rfl) dAn_isSimple_1 ⟨h.1, Tri.mono (h.2) (fun r1 σ1 q1 => L_if_ne dAn_isSimple_4 (by decide) ⟨fun c2 => L_aload_n dAn_isSimple_9 rfl (L_callVI rfl cv_Wd_vectors (As := []) rfl (tk5 10 rfl rfl) rfl (Nat.le_of_ble_eq_true rfl) dAn_isSimple_10 ⟨(q1.1 c2).1, Tri.mono ((q1.1 c2).2) (fun r3 σ3 q3 => L_istore_n dAn_isSimple_13 (by decide) (L_iconst dAn_isSimple_14 in_1 (L_istore_n dAn_isSimple_15 (by decide) q3)))⟩), fun c2 => L_iconst dAn_isSimple_7 in_0 (L_zreturn0 rfl dAn_isSimple_8 (q1.2 c2))⟩)⟩))
theorem s_An_isSimple_16 {d : Nat} {x1 x2 x3 : Int} {σ : SG} {Q : Int → SG → Prop} (h : (x2 ≤ x3 → Q 1 σ) ∧ (x3 < x2 → obok 10 x1 ∧ Tri d M_Wd_unpack [vA x1, vI x3, vA 66, vI 0] σ (fun r2 σ2 => obok 10 x1 ∧ obok 10 x1 ∧ Tri d M_Ec_begin [vA 55, vI (σ2 x1 1), vI (σ2 x1 2)] σ2 (fun r3 σ3 => Tri d M_Ec_add [vA 55, vA 66, vI 0] σ3 (fun r4 σ4 => Tri d M_An_closeUp [vA 42, vA x1, vA 55, vI 1] σ4 (fun r5 σ5 => obok 10 x1 ∧ (σ5 x1 2 ≤ σ5 55 5 → L (d + 1) M_An_isSimple 16 [vA 42, vA x1, vI x2, vI (w32 (x3 + 1))] [] σ5 Q) ∧ (σ5 55 5 < σ5 x1 2 → Q 0 σ5))))))) : L (d + 1) M_An_isSimple 16 [vA 42, vA x1, vI x2, vI x3] [] σ Q :=
  L_iload_n dAn_isSimple_16 rfl (L_iload_n dAn_isSimple_17 rfl (L_icmp_ge dAn_isSimple_18 (by decide) ⟨fun c1 => L_iconst dAn_isSimple_91 in_1 (L_zreturn1 rfl dAn_isSimple_92 (h.1 c1)), fun c1 => L_aload_n dAn_isSimple_21 rfl (L_iload_n dAn_isSimple_22 rfl (L_aload_n dAn_isSimple_23 rfl (L_getF (b := 66) fw_An_42 rfl rfl (by decide) dAn_isSimple_24 ⟨ob_42, L_iconst dAn_isSimple_27 in_0 (L_callVV rfl cv_Wd_unpack (As := [vI x3, vA 66, vI 0]) rfl (tk5 0 rfl rfl) rfl (Nat.le_of_ble_eq_true rfl) dAn_isSimple_28 ⟨(h.2 c1).1, Tri.mono ((h.2 c1).2) (fun r2 σ2 q2 => L_aload_n dAn_isSimple_31 rfl (L_getF (b := 55) fw_An_29 rfl rfl (by decide) dAn_isSimple_32 ⟨ob_42, L_aload_n dAn_isSimple_35 rfl (L_getf fw_An_57 rfl dAn_isSimple_36 ⟨q2.1, L_aload_n dAn_isSimple_39 rfl (L_getf fw_An_62 rfl dAn_isSimple_40 ⟨q2.2.1, L_callVV rfl cv_Ec_begin (As := [vI (σ2 x1 1), vI (σ2 x1 2)]) rfl (tk4 210 rfl rfl) rfl (Nat.le_of_ble_eq_true rfl) dAn_isSimple_43 ⟨ob_55, Tri.mono q2.2.2 (fun r3 σ3 q3 => L_aload_n dAn_isSimple_46 rfl (L_getF (b := 55) fw_An_29 rfl rfl (by decide) dAn_isSimple_47 ⟨ob_42, L_aload_n dAn_isSimple_50 rfl (L_getF (b := 66) fw_An_42 rfl rfl (by decide) dAn_isSimple_51 ⟨ob_42, L_iconst dAn_isSimple_54 in_0 (L_callVI rfl cv_Ec_add (As := [vA 66, vI 0]) rfl (tk4 179 rfl rfl) rfl (Nat.le_of_ble_eq_true rfl) dAn_isSimple_55 ⟨ob_55, Tri.mono q3 (fun r4 σ4 q4 => L_pop dAn_isSimple_58 n01 (L_aload_n dAn_isSimple_59 rfl (L_aload_n dAn_isSimple_60 rfl (L_aload_n dAn_isSimple_61 rfl (L_getF (b := 55) fw_An_29 rfl rfl (by decide) dAn_isSimple_62 ⟨ob_42, L_iconst dAn_isSimple_65 in_1 (L_callVV rfl cv_An_closeUp (As := [vA x1, vA 55, vI 1]) rfl (tk5 11 rfl rfl) rfl (Nat.le_of_ble_eq_true rfl) dAn_isSimple_66 ⟨ob_42, Tri.mono q4 (fun r5 σ5 q5 => L_aload_n dAn_isSimple_69 rfl (L_getF (b := 55) fw_An_29 rfl rfl (by decide) dAn_isSimple_70 ⟨ob_42, L_getf fw_An_53 rfl dAn_isSimple_73 ⟨ob_55, L_aload_n dAn_isSimple_76 rfl (L_getf fw_An_62 rfl dAn_isSimple_77 ⟨q5.1, L_icmp_ge dAn_isSimple_80 (by decide) ⟨fun c6 => L_iinc dAn_isSimple_85 rfl (by decide) (L_goto dAn_isSimple_88 (by decide) (q5.2.1 c6)), fun c6 => L_iconst dAn_isSimple_83 in_0 (L_zreturn0 rfl dAn_isSimple_84 (q5.2.2 c6))⟩⟩)⟩⟩))⟩)⟩)))))⟩)⟩)⟩))⟩⟩)⟩)⟩))⟩)⟩)))⟩))
theorem dAn_radicalSize_0 : decode prog_2_method_14_code 0 = .ok (.aload_n 1, 1) := by decide +kernel
theorem dAn_radicalSize_1 : decode prog_2_method_14_code 1 = .ok (.getfield 62, 3) := by decide +kernel
theorem dAn_radicalSize_4 : decode prog_2_method_14_code 4 = .ok (.istore_n 3, 1) := by decide +kernel
theorem dAn_radicalSize_5 : decode prog_2_method_14_code 5 = .ok (.iload_n 3, 1) := by decide +kernel
theorem dAn_radicalSize_6 : decode prog_2_method_14_code 6 = .ok (.ifCond .le 79, 3) := by decide +kernel
theorem dAn_radicalSize_9 : decode prog_2_method_14_code 9 = .ok (.aload_n 0, 1) := by decide +kernel
theorem dAn_radicalSize_10 : decode prog_2_method_14_code 10 = .ok (.getfield 38, 3) := by decide +kernel
theorem dAn_radicalSize_13 : decode prog_2_method_14_code 13 = .ok (.aload_n 1, 1) := by decide +kernel
theorem dAn_radicalSize_14 : decode prog_2_method_14_code 14 = .ok (.iload_n 3, 1) := by decide +kernel
theorem dAn_radicalSize_15 : decode prog_2_method_14_code 15 = .ok (.invokevirtual 131, 3) := by decide +kernel
theorem dAn_radicalSize_18 : decode prog_2_method_14_code 18 = .ok (.iconst 0, 1) := by decide +kernel
theorem dAn_radicalSize_19 : decode prog_2_method_14_code 19 = .ok (.istore 4, 2) := by decide +kernel
theorem dAn_radicalSize_21 : decode prog_2_method_14_code 21 = .ok (.iload 4, 2) := by decide +kernel
theorem dAn_radicalSize_23 : decode prog_2_method_14_code 23 = .ok (.sipush 4000, 3) := by decide +kernel
theorem dAn_radicalSize_26 : decode prog_2_method_14_code 26 = .ok (.if_icmp .ge 53, 3) := by decide +kernel
theorem dAn_radicalSize_29 : decode prog_2_method_14_code 29 = .ok (.aload_n 0, 1) := by decide +kernel
theorem dAn_radicalSize_30 : decode prog_2_method_14_code 30 = .ok (.getfield 38, 3) := by decide +kernel
theorem dAn_radicalSize_33 : decode prog_2_method_14_code 33 = .ok (.invokevirtual 134, 3) := by decide +kernel
theorem dAn_radicalSize_36 : decode prog_2_method_14_code 36 = .ok (.ifCond .eq 43, 3) := by decide +kernel
theorem dAn_radicalSize_39 : decode prog_2_method_14_code 39 = .ok (.aload_n 0, 1) := by decide +kernel
theorem dAn_radicalSize_40 : decode prog_2_method_14_code 40 = .ok (.aload_n 1, 1) := by decide +kernel
theorem dAn_radicalSize_41 : decode prog_2_method_14_code 41 = .ok (.aload_n 0, 1) := by decide +kernel
theorem dAn_radicalSize_42 : decode prog_2_method_14_code 42 = .ok (.getfield 38, 3) := by decide +kernel
theorem dAn_radicalSize_45 : decode prog_2_method_14_code 45 = .ok (.getfield 138, 3) := by decide +kernel
theorem dAn_radicalSize_48 : decode prog_2_method_14_code 48 = .ok (.invokevirtual 141, 3) := by decide +kernel
theorem dAn_radicalSize_51 : decode prog_2_method_14_code 51 = .ok (.ifCond .eq 22, 3) := by decide +kernel
theorem dAn_radicalSize_54 : decode prog_2_method_14_code 54 = .ok (.aload_n 0, 1) := by decide +kernel
theorem dAn_radicalSize_55 : decode prog_2_method_14_code 55 = .ok (.aload_n 1, 1) := by decide +kernel
theorem dAn_radicalSize_56 : decode prog_2_method_14_code 56 = .ok (.aload_n 0, 1) := by decide +kernel
theorem dAn_radicalSize_57 : decode prog_2_method_14_code 57 = .ok (.getfield 38, 3) := by decide +kernel
theorem dAn_radicalSize_60 : decode prog_2_method_14_code 60 = .ok (.getfield 138, 3) := by decide +kernel
theorem dAn_radicalSize_63 : decode prog_2_method_14_code 63 = .ok (.iload_n 3, 1) := by decide +kernel
theorem dAn_radicalSize_64 : decode prog_2_method_14_code 64 = .ok (.iload_n 2, 1) := by decide +kernel
theorem dAn_radicalSize_65 : decode prog_2_method_14_code 65 = .ok (.invokevirtual 87, 3) := by decide +kernel
theorem dAn_radicalSize_68 : decode prog_2_method_14_code 68 = .ok (.ifCond .ne 5, 3) := by decide +kernel
theorem dAn_radicalSize_71 : decode prog_2_method_14_code 71 = .ok (.iload_n 3, 1) := by decide +kernel
theorem dAn_radicalSize_72 : decode prog_2_method_14_code 72 = .ok (.ireturn, 1) := by decide +kernel
theorem dAn_radicalSize_73 : decode prog_2_method_14_code 73 = .ok (.iinc 4 1, 3) := by decide +kernel
theorem dAn_radicalSize_76 : decode prog_2_method_14_code 76 = .ok (.goto (-55), 3) := by decide +kernel
theorem dAn_radicalSize_79 : decode prog_2_method_14_code 79 = .ok (.iinc 3 (-1), 3) := by decide +kernel
theorem dAn_radicalSize_82 : decode prog_2_method_14_code 82 = .ok (.goto (-77), 3) := by decide +kernel
theorem dAn_radicalSize_85 : decode prog_2_method_14_code 85 = .ok (.iconst 0, 1) := by decide +kernel
theorem dAn_radicalSize_86 : decode prog_2_method_14_code 86 = .ok (.ireturn, 1) := by decide +kernel
theorem t_An_radicalSize {d : Nat} {x1 x2 : Int} {σ : SG} {Q : Int → SG → Prop} (h : inI x2 → (obok 10 x1 ∧ L (d + 1) M_An_radicalSize 5 [vA 42, vA x1, vI x2, vI (σ x1 2), vU] [] σ Q)) : Tri (d + 1) M_An_radicalSize [vA 42, vA x1, vI x2] σ Q :=
  Tri_intro rfl (Nat.le_of_ble_eq_true rfl) (ls := [vA 42, vA x1, vI x2, vU, vU]) rfl (fun hok => L_aload_n dAn_radicalSize_0 rfl (L_getf fw_An_62 rfl dAn_radicalSize_1 ⟨(h (hok _ (List.mem_of_getElem? (i := 2) rfl))).1, L_istore_n dAn_radicalSize_4 (by decide) ((h (hok _ (List.mem_of_getElem? (i := 2) rfl))).2)⟩))
theorem s_An_radicalSize_5 {d : Nat} {x1 x2 x3 : Int} {σ : SG} {Q : Int → SG → Prop} (h : (x3 ≤ 0 → Q 0 σ) ∧ (0 < x3 → Tri d M_Sp_begin [vA 61, vA x1, vI x3] σ (fun r2 σ2 => L (d + 1) M_An_radicalSize 21 [vA 42, vA x1, vI x2, vI x3, vI 0] [] σ2 Q))) : L (d + 1) M_An_radicalSize 5 [vA 42, vA x1, vI x2, vI x3, vU] [] σ Q :=
  L_iload_n dAn_radicalSize_5 rfl (L_if_le dAn_radicalSize_6 (by decide) ⟨fun c1 => L_iconst dAn_radicalSize_85 in_0 (L_ireturn rfl dAn_radicalSize_86 (h.1 c1)), fun c1 => L_aload_n dAn_radicalSize_9 rfl (L_getF (b := 61) fw_An_38 rfl rfl (by decide) dAn_radicalSize_10 ⟨ob_42, L_aload_n dAn_radicalSize_13 rfl (L_iload_n dAn_radicalSize_14 rfl (L_callVV rfl cv_Sp_begin (As := [vA x1, vI x3]) rfl (tk5 26 rfl rfl) rfl (Nat.le_of_ble_eq_true rfl) dAn_radicalSize_15 ⟨ob_61, Tri.mono (h.2 c1) (fun r2 σ2 q2 => L_iconst dAn_radicalSize_18 in_0 (L_istore dAn_radicalSize_19 (by decide) q2))⟩))⟩)⟩)
theorem s_An_radicalSize_21 {d : Nat} {x1 x2 x3 x4 : Int} {σ : SG} {Q : Int → SG → Prop} (h : (4000 ≤ x4 → L (d + 1) M_An_radicalSize 5 [vA 42, vA x1, vI x2, vI (w32 (x3 + (-1))), vU] [] σ Q) ∧ (x4 < 4000 → Tri d M_Sp_goOn [vA 61] σ (fun r2 σ2 => (r2 = 0 → L (d + 1) M_An_radicalSize 5 [vA 42, vA x1, vI x2, vI (w32 (x3 + (-1))), vU] [] σ2 Q) ∧ (r2 ≠ 0 → Tri d M_An_isIdeal [vA 42, vA x1, vA 62] σ2 (fun r4 σ4 => (r4 = 0 → L (d + 1) M_An_radicalSize 21 [vA 42, vA x1, vI x2, vI x3, vI (w32 (x4 + 1))] [] σ4 Q) ∧ (r4 ≠ 0 → Tri d M_An_seriesSize [vA 42, vA x1, vA 62, vI x3, vI x2] σ4 (fun r6 σ6 => (r6 ≠ 0 → L (d + 1) M_An_radicalSize 21 [vA 42, vA x1, vI x2, vI x3, vI (w32 (x4 + 1))] [] σ6 Q) ∧ (r6 = 0 → Q x3 σ6)))))))) : L (d + 1) M_An_radicalSize 21 [vA 42, vA x1, vI x2, vI x3, vI x4] [] σ Q :=
  L_iload dAn_radicalSize_21 rfl (L_sipush dAn_radicalSize_23 sp_4000 in_4000 (L_icmp_ge dAn_radicalSize_26 (by decide) ⟨fun c1 => L_iinc dAn_radicalSize_79 rfl (by decide) (L_goto dAn_radicalSize_82 (by decide) (L_weak [true, true, true, true, false] (h.1 c1))), fun c1 => L_aload_n dAn_radicalSize_29 rfl (L_getF (b := 61) fw_An_38 rfl rfl (by decide) dAn_radicalSize_30 ⟨ob_42, L_callVI rfl cv_Sp_goOn (As := []) rfl (tk5 30 rfl rfl) rfl (Nat.le_of_ble_eq_true rfl) dAn_radicalSize_33 ⟨ob_61, Tri.mono (h.2 c1) (fun r2 σ2 q2 => L_if_eq dAn_radicalSize_36 (by decide) ⟨fun c3 => L_iinc dAn_radicalSize_79 rfl (by decide) (L_goto dAn_radicalSize_82 (by decide) (L_weak [true, true, true, true, false] (q2.1 c3))), fun c3 => L_aload_n dAn_radicalSize_39 rfl (L_aload_n dAn_radicalSize_40 rfl (L_aload_n dAn_radicalSize_41 rfl (L_getF (b := 61) fw_An_38 rfl rfl (by decide) dAn_radicalSize_42 ⟨ob_42, L_getF (b := 62) fw_An_138 rfl rfl (by decide) dAn_radicalSize_45 ⟨ob_61, L_callVI rfl cv_An_isIdeal (As := [vA x1, vA 62]) rfl (tk5 59 rfl rfl) rfl (Nat.le_of_ble_eq_true rfl) dAn_radicalSize_48 ⟨ob_42, Tri.mono (q2.2 c3) (fun r4 σ4 q4 => L_if_eq dAn_radicalSize_51 (by decide) ⟨fun c5 => L_iinc dAn_radicalSize_73 rfl (by decide) (L_goto dAn_radicalSize_76 (by decide) (q4.1 c5)), fun c5 => L_aload_n dAn_radicalSize_54 rfl (L_aload_n dAn_radicalSize_55 rfl (L_aload_n dAn_radicalSize_56 rfl (L_getF (b := 61) fw_An_38 rfl rfl (by decide) dAn_radicalSize_57 ⟨ob_42, L_getF (b := 62) fw_An_138 rfl rfl (by decide) dAn_radicalSize_60 ⟨ob_61, L_iload_n dAn_radicalSize_63 rfl (L_iload_n dAn_radicalSize_64 rfl (L_callVI rfl cv_An_seriesSize (As := [vA x1, vA 62, vI x3, vI x2]) rfl (tk4 202 rfl rfl) rfl (Nat.le_of_ble_eq_true rfl) dAn_radicalSize_65 ⟨ob_42, Tri.mono (q4.2 c5) (fun r6 σ6 q6 => L_if_ne dAn_radicalSize_68 (by decide) ⟨fun c7 => L_iinc dAn_radicalSize_73 rfl (by decide) (L_goto dAn_radicalSize_76 (by decide) (q6.1 c7)), fun c7 => L_iload_n dAn_radicalSize_71 rfl (L_ireturn rfl dAn_radicalSize_72 (q6.2 c7))⟩)⟩))⟩⟩)))⟩)⟩⟩⟩)))⟩)⟩⟩)⟩))
theorem dAn_countSpans_0 : decode prog_2_method_15_code 0 = .ok (.iconst 0, 1) := by decide +kernel
theorem dAn_countSpans_1 : decode prog_2_method_15_code 1 = .ok (.istore 4, 2) := by decide +kernel
theorem dAn_countSpans_3 : decode prog_2_method_15_code 3 = .ok (.aload_n 0, 1) := by decide +kernel
theorem dAn_countSpans_4 : decode prog_2_method_15_code 4 = .ok (.getfield 26, 3) := by decide +kernel
theorem dAn_countSpans_7 : decode prog_2_method_15_code 7 = .ok (.aload_n 1, 1) := by decide +kernel
theorem dAn_countSpans_8 : decode prog_2_method_15_code 8 = .ok (.getfield 57, 3) := by decide +kernel
theorem dAn_countSpans_11 : decode prog_2_method_15_code 11 = .ok (.aload_n 1, 1) := by decide +kernel
theorem dAn_countSpans_12 : decode prog_2_method_15_code 12 = .ok (.getfield 62, 3) := by decide +kernel
theorem dAn_countSpans_15 : decode prog_2_method_15_code 15 = .ok (.invokevirtual 65, 3) := by decide +kernel
theorem dAn_countSpans_18 : decode prog_2_method_15_code 18 = .ok (.aload_n 0, 1) := by decide +kernel
theorem dAn_countSpans_19 : decode prog_2_method_15_code 19 = .ok (.getfield 38, 3) := by decide +kernel
theorem dAn_countSpans_22 : decode prog_2_method_15_code 22 = .ok (.aload_n 1, 1) := by decide +kernel
theorem dAn_countSpans_23 : decode prog_2_method_15_code 23 = .ok (.iload_n 2, 1) := by decide +kernel
theorem dAn_countSpans_24 : decode prog_2_method_15_code 24 = .ok (.invokevirtual 131, 3) := by decide +kernel
theorem dAn_countSpans_27 : decode prog_2_method_15_code 27 = .ok (.iconst 0, 1) := by decide +kernel
theorem dAn_countSpans_28 : decode prog_2_method_15_code 28 = .ok (.istore 5, 2) := by decide +kernel
theorem dAn_countSpans_30 : decode prog_2_method_15_code 30 = .ok (.iload 5, 2) := by decide +kernel
theorem dAn_countSpans_32 : decode prog_2_method_15_code 32 = .ok (.sipush 4000, 3) := by decide +kernel
theorem dAn_countSpans_35 : decode prog_2_method_15_code 35 = .ok (.if_icmp .ge 45, 3) := by decide +kernel
theorem dAn_countSpans_38 : decode prog_2_method_15_code 38 = .ok (.aload_n 0, 1) := by decide +kernel
theorem dAn_countSpans_39 : decode prog_2_method_15_code 39 = .ok (.getfield 38, 3) := by decide +kernel
theorem dAn_countSpans_42 : decode prog_2_method_15_code 42 = .ok (.invokevirtual 134, 3) := by decide +kernel
theorem dAn_countSpans_45 : decode prog_2_method_15_code 45 = .ok (.ifCond .eq 35, 3) := by decide +kernel
theorem dAn_countSpans_48 : decode prog_2_method_15_code 48 = .ok (.iload 4, 2) := by decide +kernel
theorem dAn_countSpans_50 : decode prog_2_method_15_code 50 = .ok (.aload_n 0, 1) := by decide +kernel
theorem dAn_countSpans_51 : decode prog_2_method_15_code 51 = .ok (.aload_n 1, 1) := by decide +kernel
theorem dAn_countSpans_52 : decode prog_2_method_15_code 52 = .ok (.aload_n 0, 1) := by decide +kernel
theorem dAn_countSpans_53 : decode prog_2_method_15_code 53 = .ok (.getfield 38, 3) := by decide +kernel
theorem dAn_countSpans_56 : decode prog_2_method_15_code 56 = .ok (.getfield 138, 3) := by decide +kernel
theorem dAn_countSpans_59 : decode prog_2_method_15_code 59 = .ok (.iload_n 3, 1) := by decide +kernel
theorem dAn_countSpans_60 : decode prog_2_method_15_code 60 = .ok (.invokevirtual 144, 3) := by decide +kernel
theorem dAn_countSpans_63 : decode prog_2_method_15_code 63 = .ok (.ifCond .eq 7, 3) := by decide +kernel
theorem dAn_countSpans_66 : decode prog_2_method_15_code 66 = .ok (.iconst 1, 1) := by decide +kernel
theorem dAn_countSpans_67 : decode prog_2_method_15_code 67 = .ok (.goto 4, 3) := by decide +kernel
theorem dAn_countSpans_70 : decode prog_2_method_15_code 70 = .ok (.iconst 0, 1) := by decide +kernel
theorem dAn_countSpans_71 : decode prog_2_method_15_code 71 = .ok (.iadd, 1) := by decide +kernel
theorem dAn_countSpans_72 : decode prog_2_method_15_code 72 = .ok (.istore 4, 2) := by decide +kernel
theorem dAn_countSpans_74 : decode prog_2_method_15_code 74 = .ok (.iinc 5 1, 3) := by decide +kernel
theorem dAn_countSpans_77 : decode prog_2_method_15_code 77 = .ok (.goto (-47), 3) := by decide +kernel
theorem dAn_countSpans_80 : decode prog_2_method_15_code 80 = .ok (.iload 4, 2) := by decide +kernel
theorem dAn_countSpans_82 : decode prog_2_method_15_code 82 = .ok (.ireturn, 1) := by decide +kernel
theorem t_An_countSpans {d : Nat} {x1 x2 x3 : Int} {σ : SG} {Q : Int → SG → Prop} (h : inI x2 → inI x3 → (obok 10 x1 ∧ obok 10 x1 ∧ Tri d M_Ec_begin [vA 52, vI (σ x1 1), vI (σ x1 2)] σ (fun r1 σ1 => Tri d M_Sp_begin [vA 61, vA x1, vI x2] σ1 (fun r2 σ2 => L (d + 1) M_An_countSpans 30 [vA 42, vA x1, vU, vI x3, vI 0, vI 0] [] σ2 Q)))) : Tri (d + 1) M_An_countSpans [vA 42, vA x1, vI x2, vI x3] σ Q :=
  Tri_intro rfl (Nat.le_of_ble_eq_true rfl) (ls := [vA 42, vA x1, vI x2, vI x3, vU, vU]) rfl (fun hok => L_iconst dAn_countSpans_0 in_0 (L_istore dAn_countSpans_1 (by decide) (L_aload_n dAn_countSpans_3 rfl (L_getF (b := 52) fw_An_26 rfl rfl (by decide) dAn_countSpans_4 ⟨ob_42, L_aload_n dAn_countSpans_7 rfl (L_getf fw_An_57 rfl dAn_countSpans_8 ⟨(h (hok _ (List.mem_of_getElem? (i := 2) rfl)) (hok _ (List.mem_of_getElem? (i := 3) rfl))).1, L_aload_n dAn_countSpans_11 rfl (L_getf fw_An_62 rfl dAn_countSpans_12 ⟨(h (hok _ (List.mem_of_getElem? (i := 2) rfl)) (hok _ (List.mem_of_getElem? (i := 3) rfl))).2.1, L_callVV rfl cv_Ec_begin (As := [vI (σ x1 1), vI (σ x1 2)]) rfl (tk4 210 rfl rfl) rfl (Nat.le_of_ble_eq_true rfl) dAn_countSpans_15 ⟨ob_52, Tri.mono ((h (hok _ (List.mem_of_getElem? (i := 2) rfl)) (hok _ (List.mem_of_getElem? (i := 3) rfl))).2.2) (fun r1 σ1 q1 => L_aload_n dAn_countSpans_18 rfl (L_getF (b := 61) fw_An_38 rfl rfl (by decide) dAn_countSpans_19 ⟨ob_42, L_aload_n dAn_countSpans_22 rfl (L_iload_n dAn_countSpans_23 rfl (L_callVV rfl cv_Sp_begin (As := [vA x1, vI x2]) rfl (tk5 26 rfl rfl) rfl (Nat.le_of_ble_eq_true rfl) dAn_countSpans_24 ⟨ob_61, Tri.mono q1 (fun r2 σ2 q2 => L_iconst dAn_countSpans_27 in_0 (L_istore dAn_countSpans_28 (by decide) (L_weak [true, true, false, true, true, true] q2)))⟩))⟩))⟩⟩)⟩)⟩))))
theorem s_An_countSpans_30 {d : Nat} {x1 x3 x4 x5 : Int} {σ : SG} {Q : Int → SG → Prop} (h : (4000 ≤ x5 → Q x4 σ) ∧ (x5 < 4000 → Tri d M_Sp_goOn [vA 61] σ (fun r2 σ2 => (r2 = 0 → Q x4 σ2) ∧ (r2 ≠ 0 → Tri d M_An_isOfKind [vA 42, vA x1, vA 62, vI x3] σ2 (fun r4 σ4 => (r4 = 0 → L (d + 1) M_An_countSpans 30 [vA 42, vA x1, vU, vI x3, vI (w32 (x4 + 0)), vI (w32 (x5 + 1))] [] σ4 Q) ∧ (r4 ≠ 0 → L (d + 1) M_An_countSpans 30 [vA 42, vA x1, vU, vI x3, vI (w32 (x4 + 1)), vI (w32 (x5 + 1))] [] σ4 Q)))))) : L (d + 1) M_An_countSpans 30 [vA 42, vA x1, vU, vI x3, vI x4, vI x5] [] σ Q :=
  L_iload dAn_countSpans_30 rfl (L_sipush dAn_countSpans_32 sp_4000 in_4000 (L_icmp_ge dAn_countSpans_35 (by decide) ⟨fun c1 => L_iload dAn_countSpans_80 rfl (L_ireturn rfl dAn_countSpans_82 (h.1 c1)), fun c1 => L_aload_n dAn_countSpans_38 rfl (L_getF (b := 61) fw_An_38 rfl rfl (by decide) dAn_countSpans_39 ⟨ob_42, L_callVI rfl cv_Sp_goOn (As := []) rfl (tk5 30 rfl rfl) rfl (Nat.le_of_ble_eq_true rfl) dAn_countSpans_42 ⟨ob_61, Tri.mono (h.2 c1) (fun r2 σ2 q2 => L_if_eq dAn_countSpans_45 (by decide) ⟨fun c3 => L_iload dAn_countSpans_80 rfl (L_ireturn rfl dAn_countSpans_82 (q2.1 c3)), fun c3 => L_iload dAn_countSpans_48 rfl (L_aload_n dAn_countSpans_50 rfl (L_aload_n dAn_countSpans_51 rfl (L_aload_n dAn_countSpans_52 rfl (L_getF (b := 61) fw_An_38 rfl rfl (by decide) dAn_countSpans_53 ⟨ob_42, L_getF (b := 62) fw_An_138 rfl rfl (by decide) dAn_countSpans_56 ⟨ob_61, L_iload_n dAn_countSpans_59 rfl (L_callVI rfl cv_An_isOfKind (As := [vA x1, vA 62, vI x3]) rfl (tk5 75 rfl rfl) rfl (Nat.le_of_ble_eq_true rfl) dAn_countSpans_60 ⟨ob_42, Tri.mono (q2.2 c3) (fun r4 σ4 q4 => L_if_eq dAn_countSpans_63 (by decide) ⟨fun c5 => L_iconst dAn_countSpans_70 in_0 (L_iadd dAn_countSpans_71 (L_istore dAn_countSpans_72 (by decide) (L_iinc dAn_countSpans_74 rfl (by decide) (L_goto dAn_countSpans_77 (by decide) (q4.1 c5))))), fun c5 => L_iconst dAn_countSpans_66 in_1 (L_goto dAn_countSpans_67 (by decide) (L_iadd dAn_countSpans_71 (L_istore dAn_countSpans_72 (by decide) (L_iinc dAn_countSpans_74 rfl (by decide) (L_goto dAn_countSpans_77 (by decide) (q4.2 c5))))))⟩)⟩)⟩⟩))))⟩)⟩⟩)⟩))
theorem dAn_isOfKind_0 : decode prog_2_method_16_code 0 = .ok (.iload_n 3, 1) := by decide +kernel
theorem dAn_isOfKind_1 : decode prog_2_method_16_code 1 = .ok (.tableswitch 59 (-1) 2 #[31, 33, 41, 48], 31) := by decide +kernel
theorem dAn_isOfKind_32 : decode prog_2_method_16_code 32 = .ok (.iconst 1, 1) := by decide +kernel
theorem dAn_isOfKind_33 : decode prog_2_method_16_code 33 = .ok (.ireturn, 1) := by decide +kernel
theorem dAn_isOfKind_34 : decode prog_2_method_16_code 34 = .ok (.aload_n 0, 1) := by decide +kernel
theorem dAn_isOfKind_35 : decode prog_2_method_16_code 35 = .ok (.aload_n 1, 1) := by decide +kernel
theorem dAn_isOfKind_36 : decode prog_2_method_16_code 36 = .ok (.aload_n 2, 1) := by decide +kernel
theorem dAn_isOfKind_37 : decode prog_2_method_16_code 37 = .ok (.aload_n 2, 1) := by decide +kernel
theorem dAn_isOfKind_38 : decode prog_2_method_16_code 38 = .ok (.invokevirtual 148, 3) := by decide +kernel
theorem dAn_isOfKind_41 : decode prog_2_method_16_code 41 = .ok (.ireturn, 1) := by decide +kernel
theorem dAn_isOfKind_42 : decode prog_2_method_16_code 42 = .ok (.aload_n 0, 1) := by decide +kernel
theorem dAn_isOfKind_43 : decode prog_2_method_16_code 43 = .ok (.aload_n 1, 1) := by decide +kernel
theorem dAn_isOfKind_44 : decode prog_2_method_16_code 44 = .ok (.aload_n 2, 1) := by decide +kernel
theorem dAn_isOfKind_45 : decode prog_2_method_16_code 45 = .ok (.invokevirtual 141, 3) := by decide +kernel
theorem dAn_isOfKind_48 : decode prog_2_method_16_code 48 = .ok (.ireturn, 1) := by decide +kernel
theorem dAn_isOfKind_49 : decode prog_2_method_16_code 49 = .ok (.aload_n 0, 1) := by decide +kernel
theorem dAn_isOfKind_50 : decode prog_2_method_16_code 50 = .ok (.aload_n 1, 1) := by decide +kernel
theorem dAn_isOfKind_51 : decode prog_2_method_16_code 51 = .ok (.aload_n 2, 1) := by decide +kernel
theorem dAn_isOfKind_52 : decode prog_2_method_16_code 52 = .ok (.aload_n 0, 1) := by decide +kernel
theorem dAn_isOfKind_53 : decode prog_2_method_16_code 53 = .ok (.getfield 26, 3) := by decide +kernel
theorem dAn_isOfKind_56 : decode prog_2_method_16_code 56 = .ok (.invokevirtual 148, 3) := by decide +kernel
theorem dAn_isOfKind_59 : decode prog_2_method_16_code 59 = .ok (.ireturn, 1) := by decide +kernel
theorem dAn_isOfKind_60 : decode prog_2_method_16_code 60 = .ok (.aload_n 0, 1) := by decide +kernel
theorem dAn_isOfKind_61 : decode prog_2_method_16_code 61 = .ok (.aload_n 1, 1) := by decide +kernel
theorem dAn_isOfKind_62 : decode prog_2_method_16_code 62 = .ok (.aload_n 2, 1) := by decide +kernel
theorem dAn_isOfKind_63 : decode prog_2_method_16_code 63 = .ok (.aload_n 2, 1) := by decide +kernel
theorem dAn_isOfKind_64 : decode prog_2_method_16_code 64 = .ok (.invokevirtual 148, 3) := by decide +kernel
theorem dAn_isOfKind_67 : decode prog_2_method_16_code 67 = .ok (.ifCond .eq 35, 3) := by decide +kernel
theorem dAn_isOfKind_70 : decode prog_2_method_16_code 70 = .ok (.aload_n 0, 1) := by decide +kernel
theorem dAn_isOfKind_71 : decode prog_2_method_16_code 71 = .ok (.aload_n 1, 1) := by decide +kernel
theorem dAn_isOfKind_72 : decode prog_2_method_16_code 72 = .ok (.aload_n 2, 1) := by decide +kernel
theorem dAn_isOfKind_73 : decode prog_2_method_16_code 73 = .ok (.aload_n 2, 1) := by decide +kernel
theorem dAn_isOfKind_74 : decode prog_2_method_16_code 74 = .ok (.getfield 53, 3) := by decide +kernel
theorem dAn_isOfKind_77 : decode prog_2_method_16_code 77 = .ok (.iconst 1, 1) := by decide +kernel
theorem dAn_isOfKind_78 : decode prog_2_method_16_code 78 = .ok (.invokevirtual 87, 3) := by decide +kernel
theorem dAn_isOfKind_81 : decode prog_2_method_16_code 81 = .ok (.ifCond .ne 21, 3) := by decide +kernel
theorem dAn_isOfKind_84 : decode prog_2_method_16_code 84 = .ok (.aload_n 0, 1) := by decide +kernel
theorem dAn_isOfKind_85 : decode prog_2_method_16_code 85 = .ok (.aload_n 1, 1) := by decide +kernel
theorem dAn_isOfKind_86 : decode prog_2_method_16_code 86 = .ok (.aload_n 2, 1) := by decide +kernel
theorem dAn_isOfKind_87 : decode prog_2_method_16_code 87 = .ok (.aload_n 2, 1) := by decide +kernel
theorem dAn_isOfKind_88 : decode prog_2_method_16_code 88 = .ok (.invokevirtual 91, 3) := by decide +kernel
theorem dAn_isOfKind_91 : decode prog_2_method_16_code 91 = .ok (.aload_n 2, 1) := by decide +kernel
theorem dAn_isOfKind_92 : decode prog_2_method_16_code 92 = .ok (.getfield 53, 3) := by decide +kernel
theorem dAn_isOfKind_95 : decode prog_2_method_16_code 95 = .ok (.if_icmp .ne 7, 3) := by decide +kernel
theorem dAn_isOfKind_98 : decode prog_2_method_16_code 98 = .ok (.iconst 1, 1) := by decide +kernel
theorem dAn_isOfKind_99 : decode prog_2_method_16_code 99 = .ok (.goto 4, 3) := by decide +kernel
theorem dAn_isOfKind_102 : decode prog_2_method_16_code 102 = .ok (.iconst 0, 1) := by decide +kernel
theorem dAn_isOfKind_103 : decode prog_2_method_16_code 103 = .ok (.ireturn, 1) := by decide +kernel
theorem t_An_isOfKind {d : Nat} {x1 x2 x3 : Int} {σ : SG} {Q : Int → SG → Prop} (h : inI x3 → (((x3 < -1 ∨ 2 < x3) → Tri d M_An_bracketsLieIn [vA 42, vA x1, vA x2, vA x2] σ (fun r2 σ2 => (r2 = 0 → Q 0 σ2) ∧ (r2 ≠ 0 → obok 2 x2 ∧ Tri d M_An_seriesSize [vA 42, vA x1, vA x2, vI (σ2 x2 5), vI 1] σ2 (fun r4 σ4 => (r4 ≠ 0 → Q 0 σ4) ∧ (r4 = 0 → Tri d M_An_sizeOfMovers [vA 42, vA x1, vA x2, vA x2] σ4 (fun r6 σ6 => obok 2 x2 ∧ (r6 ≠ σ6 x2 5 → Q 0 σ6) ∧ (r6 = σ6 x2 5 → Q 1 σ6))))))) ∧ (x3 = -1 → Q 1 σ) ∧ (x3 = 0 → Tri d M_An_bracketsLieIn [vA 42, vA x1, vA x2, vA x2] σ (fun r8 σ8 => (r8 = 0 ∨ r8 = 1) ∧ Q r8 σ8)) ∧ (x3 = 1 → Tri d M_An_isIdeal [vA 42, vA x1, vA x2] σ (fun r9 σ9 => (r9 = 0 ∨ r9 = 1) ∧ Q r9 σ9)) ∧ (x3 = 2 → Tri d M_An_bracketsLieIn [vA 42, vA x1, vA x2, vA 52] σ (fun r10 σ10 => (r10 = 0 ∨ r10 = 1) ∧ Q r10 σ10)))) : Tri (d + 1) M_An_isOfKind [vA 42, vA x1, vA x2, vI x3] σ Q :=
  Tri_intro rfl (Nat.le_of_ble_eq_true rfl) (ls := [vA 42, vA x1, vA x2, vI x3]) rfl (fun hok => L_iload_n dAn_isOfKind_0 rfl (L_table dAn_isOfKind_1 (by decide) ⟨fun c1 => L_aload_n dAn_isOfKind_60 rfl (L_aload_n dAn_isOfKind_61 rfl (L_aload_n dAn_isOfKind_62 rfl (L_aload_n dAn_isOfKind_63 rfl (L_callVI rfl cv_An_bracketsLieIn (As := [vA x1, vA x2, vA x2]) rfl (tk5 79 rfl rfl) rfl (Nat.le_of_ble_eq_true rfl) dAn_isOfKind_64 ⟨ob_42, Tri.mono ((h (hok _ (List.mem_of_getElem? (i := 3) rfl))).1 c1) (fun r2 σ2 q2 => L_if_eq dAn_isOfKind_67 (by decide) ⟨fun c3 => L_iconst dAn_isOfKind_102 in_0 (L_zreturn0 rfl dAn_isOfKind_103 (q2.1 c3)), fun c3 => L_aload_n dAn_isOfKind_70 rfl (L_aload_n dAn_isOfKind_71 rfl (L_aload_n dAn_isOfKind_72 rfl (L_aload_n dAn_isOfKind_73 rfl (L_getf fw_An_53 rfl dAn_isOfKind_74 ⟨(q2.2 c3).1, L_iconst dAn_isOfKind_77 in_1 (L_callVI rfl cv_An_seriesSize (As := [vA x1, vA x2, vI (σ2 x2 5), vI 1]) rfl (tk4 202 rfl rfl) rfl (Nat.le_of_ble_eq_true rfl) dAn_isOfKind_78 ⟨ob_42, Tri.mono ((q2.2 c3).2) (fun r4 σ4 q4 => L_if_ne dAn_isOfKind_81 (by decide) ⟨fun c5 => L_iconst dAn_isOfKind_102 in_0 (L_zreturn0 rfl dAn_isOfKind_103 (q4.1 c5)), fun c5 => L_aload_n dAn_isOfKind_84 rfl (L_aload_n dAn_isOfKind_85 rfl (L_aload_n dAn_isOfKind_86 rfl (L_aload_n dAn_isOfKind_87 rfl (L_callVI rfl cv_An_sizeOfMovers (As := [vA x1, vA x2, vA x2]) rfl (tk4 223 rfl rfl) rfl (Nat.le_of_ble_eq_true rfl) dAn_isOfKind_88 ⟨ob_42, Tri.mono (q4.2 c5) (fun r6 σ6 q6 => L_aload_n dAn_isOfKind_91 rfl (L_getf fw_An_53 rfl dAn_isOfKind_92 ⟨q6.1, L_icmp_ne dAn_isOfKind_95 (by decide) ⟨fun c7 => L_iconst dAn_isOfKind_102 in_0 (L_zreturn0 rfl dAn_isOfKind_103 (q6.2.1 c7)), fun c7 => L_iconst dAn_isOfKind_98 in_1 (L_goto dAn_isOfKind_99 (by decide) (L_zreturn1 rfl dAn_isOfKind_103 (q6.2.2 c7)))⟩⟩))⟩))))⟩)⟩)⟩))))⟩)⟩)))), fun k1 c1a c1b c1 => match k1, c1 with | 0, c1 => ⟨31, 32, rfl, by decide, L_iconst dAn_isOfKind_32 in_1 (L_zreturn1 rfl dAn_isOfKind_33 ((h (hok _ (List.mem_of_getElem? (i := 3) rfl))).2.1 (by omega)))⟩ | 1, c1 => ⟨33, 34, rfl, by decide, L_aload_n dAn_isOfKind_34 rfl (L_aload_n dAn_isOfKind_35 rfl (L_aload_n dAn_isOfKind_36 rfl (L_aload_n dAn_isOfKind_37 rfl (L_callVI rfl cv_An_bracketsLieIn (As := [vA x1, vA x2, vA x2]) rfl (tk5 79 rfl rfl) rfl (Nat.le_of_ble_eq_true rfl) dAn_isOfKind_38 ⟨ob_42, Tri.mono ((h (hok _ (List.mem_of_getElem? (i := 3) rfl))).2.2.1 (by omega)) (fun r8 σ8 q8 => L_zreturn rfl dAn_isOfKind_41 q8)⟩))))⟩ | 2, c1 => ⟨41, 42, rfl, by decide, L_aload_n dAn_isOfKind_42 rfl (L_aload_n dAn_isOfKind_43 rfl (L_aload_n dAn_isOfKind_44 rfl (L_callVI rfl cv_An_isIdeal (As := [vA x1, vA x2]) rfl (tk5 59 rfl rfl) rfl (Nat.le_of_ble_eq_true rfl) dAn_isOfKind_45 ⟨ob_42, Tri.mono ((h (hok _ (List.mem_of_getElem? (i := 3) rfl))).2.2.2.1 (by omega)) (fun r9 σ9 q9 => L_zreturn rfl dAn_isOfKind_48 q9)⟩)))⟩ | 3, c1 => ⟨48, 49, rfl, by decide, L_aload_n dAn_isOfKind_49 rfl (L_aload_n dAn_isOfKind_50 rfl (L_aload_n dAn_isOfKind_51 rfl (L_aload_n dAn_isOfKind_52 rfl (L_getF (b := 52) fw_An_26 rfl rfl (by decide) dAn_isOfKind_53 ⟨ob_42, L_callVI rfl cv_An_bracketsLieIn (As := [vA x1, vA x2, vA 52]) rfl (tk5 79 rfl rfl) rfl (Nat.le_of_ble_eq_true rfl) dAn_isOfKind_56 ⟨ob_42, Tri.mono ((h (hok _ (List.mem_of_getElem? (i := 3) rfl))).2.2.2.2 (by omega)) (fun r10 σ10 q10 => L_zreturn rfl dAn_isOfKind_59 q10)⟩⟩))))⟩ | (n + 4), c1 => absurd c1b (by omega)⟩))
theorem dAn_countCommuting_0 : decode prog_2_method_17_code 0 = .ok (.aload_n 1, 1) := by decide +kernel
theorem dAn_countCommuting_1 : decode prog_2_method_17_code 1 = .ok (.invokevirtual 124, 3) := by decide +kernel
theorem dAn_countCommuting_4 : decode prog_2_method_17_code 4 = .ok (.istore_n 2, 1) := by decide +kernel
theorem dAn_countCommuting_5 : decode prog_2_method_17_code 5 = .ok (.iload_n 2, 1) := by decide +kernel
theorem dAn_countCommuting_6 : decode prog_2_method_17_code 6 = .ok (.istore_n 3, 1) := by decide +kernel
theorem dAn_countCommuting_7 : decode prog_2_method_17_code 7 = .ok (.aload_n 0, 1) := by decide +kernel
theorem dAn_countCommuting_8 : decode prog_2_method_17_code 8 = .ok (.getfield 38, 3) := by decide +kernel
theorem dAn_countCommuting_11 : decode prog_2_method_17_code 11 = .ok (.aload_n 1, 1) := by decide +kernel
theorem dAn_countCommuting_12 : decode prog_2_method_17_code 12 = .ok (.iconst 1, 1) := by decide +kernel
theorem dAn_countCommuting_13 : decode prog_2_method_17_code 13 = .ok (.invokevirtual 131, 3) := by decide +kernel
theorem dAn_countCommuting_16 : decode prog_2_method_17_code 16 = .ok (.aload_n 0, 1) := by decide +kernel
theorem dAn_countCommuting_17 : decode prog_2_method_17_code 17 = .ok (.getfield 26, 3) := by decide +kernel
theorem dAn_countCommuting_20 : decode prog_2_method_17_code 20 = .ok (.aload_n 1, 1) := by decide +kernel
theorem dAn_countCommuting_21 : decode prog_2_method_17_code 21 = .ok (.getfield 57, 3) := by decide +kernel
theorem dAn_countCommuting_24 : decode prog_2_method_17_code 24 = .ok (.aload_n 1, 1) := by decide +kernel
theorem dAn_countCommuting_25 : decode prog_2_method_17_code 25 = .ok (.getfield 62, 3) := by decide +kernel
theorem dAn_countCommuting_28 : decode prog_2_method_17_code 28 = .ok (.invokevirtual 65, 3) := by decide +kernel
theorem dAn_countCommuting_31 : decode prog_2_method_17_code 31 = .ok (.iconst 0, 1) := by decide +kernel
theorem dAn_countCommuting_32 : decode prog_2_method_17_code 32 = .ok (.istore 4, 2) := by decide +kernel
theorem dAn_countCommuting_34 : decode prog_2_method_17_code 34 = .ok (.iload 4, 2) := by decide +kernel
theorem dAn_countCommuting_36 : decode prog_2_method_17_code 36 = .ok (.sipush 4000, 3) := by decide +kernel
theorem dAn_countCommuting_39 : decode prog_2_method_17_code 39 = .ok (.if_icmp .ge 52, 3) := by decide +kernel
theorem dAn_countCommuting_42 : decode prog_2_method_17_code 42 = .ok (.aload_n 0, 1) := by decide +kernel
theorem dAn_countCommuting_43 : decode prog_2_method_17_code 43 = .ok (.getfield 38, 3) := by decide +kernel
theorem dAn_countCommuting_46 : decode prog_2_method_17_code 46 = .ok (.invokevirtual 134, 3) := by decide +kernel
theorem dAn_countCommuting_49 : decode prog_2_method_17_code 49 = .ok (.ifCond .eq 42, 3) := by decide +kernel
theorem dAn_countCommuting_52 : decode prog_2_method_17_code 52 = .ok (.iload_n 3, 1) := by decide +kernel
theorem dAn_countCommuting_53 : decode prog_2_method_17_code 53 = .ok (.aload_n 1, 1) := by decide +kernel
theorem dAn_countCommuting_54 : decode prog_2_method_17_code 54 = .ok (.getfield 57, 3) := by decide +kernel
theorem dAn_countCommuting_57 : decode prog_2_method_17_code 57 = .ok (.iconst 1, 1) := by decide +kernel
theorem dAn_countCommuting_58 : decode prog_2_method_17_code 58 = .ok (.isub, 1) := by decide +kernel
theorem dAn_countCommuting_59 : decode prog_2_method_17_code 59 = .ok (.aload_n 1, 1) := by decide +kernel
theorem dAn_countCommuting_60 : decode prog_2_method_17_code 60 = .ok (.getfield 57, 3) := by decide +kernel
theorem dAn_countCommuting_63 : decode prog_2_method_17_code 63 = .ok (.aload_n 0, 1) := by decide +kernel
theorem dAn_countCommuting_64 : decode prog_2_method_17_code 64 = .ok (.aload_n 1, 1) := by decide +kernel
theorem dAn_countCommuting_65 : decode prog_2_method_17_code 65 = .ok (.aload_n 0, 1) := by decide +kernel
theorem dAn_countCommuting_66 : decode prog_2_method_17_code 66 = .ok (.getfield 38, 3) := by decide +kernel
theorem dAn_countCommuting_69 : decode prog_2_method_17_code 69 = .ok (.getfield 138, 3) := by decide +kernel
theorem dAn_countCommuting_72 : decode prog_2_method_17_code 72 = .ok (.aload_n 0, 1) := by decide +kernel
theorem dAn_countCommuting_73 : decode prog_2_method_17_code 73 = .ok (.getfield 26, 3) := by decide +kernel
theorem dAn_countCommuting_76 : decode prog_2_method_17_code 76 = .ok (.invokevirtual 91, 3) := by decide +kernel
theorem dAn_countCommuting_79 : decode prog_2_method_17_code 79 = .ok (.invokestatic 152, 3) := by decide +kernel
theorem dAn_countCommuting_82 : decode prog_2_method_17_code 82 = .ok (.imul, 1) := by decide +kernel
theorem dAn_countCommuting_83 : decode prog_2_method_17_code 83 = .ok (.iadd, 1) := by decide +kernel
theorem dAn_countCommuting_84 : decode prog_2_method_17_code 84 = .ok (.istore_n 3, 1) := by decide +kernel
theorem dAn_countCommuting_85 : decode prog_2_method_17_code 85 = .ok (.iinc 4 1, 3) := by decide +kernel
theorem dAn_countCommuting_88 : decode prog_2_method_17_code 88 = .ok (.goto (-54), 3) := by decide +kernel
theorem dAn_countCommuting_91 : decode prog_2_method_17_code 91 = .ok (.iload_n 3, 1) := by decide +kernel
theorem dAn_countCommuting_92 : decode prog_2_method_17_code 92 = .ok (.ireturn, 1) := by decide +kernel
theorem t_An_countCommuting {d : Nat} {x1 : Int} {σ : SG} {Q : Int → SG → Prop} (h : obok 10 x1 ∧ Tri d M_Wd_vectors [vA x1] σ (fun r1 σ1 => Tri d M_Sp_begin [vA 61, vA x1, vI 1] σ1 (fun r2 σ2 => obok 10 x1 ∧ obok 10 x1 ∧ Tri d M_Ec_begin [vA 52, vI (σ2 x1 1), vI (σ2 x1 2)] σ2 (fun r3 σ3 => L (d + 1) M_An_countCommuting 34 [vA 42, vA x1, vU, vI r1, vI 0] [] σ3 Q)))) : Tri (d + 1) M_An_countCommuting [vA 42, vA x1] σ Q :=
  Tri_intro rfl (Nat.le_of_ble_eq_true rfl) (ls := [vA 42, vA x1, vU, vU, vU]) rfl (fun hok => L_aload_n dAn_countCommuting_0 rfl (L_callVI rfl cv_Wd_vectors (As := []) rfl (tk5 10 rfl rfl) rfl (Nat.le_of_ble_eq_true rfl) dAn_countCommuting_1 ⟨h.1, Tri.mono (h.2) (fun r1 σ1 q1 => L_istore_n dAn_countCommuting_4 (by decide) (L_iload_n dAn_countCommuting_5 rfl (L_istore_n dAn_countCommuting_6 (by decide) (L_aload_n dAn_countCommuting_7 rfl (L_getF (b := 61) fw_An_38 rfl rfl (by decide) dAn_countCommuting_8 ⟨ob_42, L_aload_n dAn_countCommuting_11 rfl (L_iconst dAn_countCommuting_12 in_1 (L_callVV rfl cv_Sp_begin (As := [vA x1, vI 1]) rfl (tk5 26 rfl rfl) rfl (Nat.le_of_ble_eq_true rfl) dAn_countCommuting_13 ⟨ob_61, Tri.mono q1 (fun r2 σ2 q2 => L_aload_n dAn_countCommuting_16 rfl (L_getF (b := 52) fw_An_26 rfl rfl (by decide) dAn_countCommuting_17 ⟨ob_42, L_aload_n dAn_countCommuting_20 rfl (L_getf fw_An_57 rfl dAn_countCommuting_21 ⟨q2.1, L_aload_n dAn_countCommuting_24 rfl (L_getf fw_An_62 rfl dAn_countCommuting_25 ⟨q2.2.1, L_callVV rfl cv_Ec_begin (As := [vI (σ2 x1 1), vI (σ2 x1 2)]) rfl (tk4 210 rfl rfl) rfl (Nat.le_of_ble_eq_true rfl) dAn_countCommuting_28 ⟨ob_52, Tri.mono q2.2.2 (fun r3 σ3 q3 => L_iconst dAn_countCommuting_31 in_0 (L_istore dAn_countCommuting_32 (by decide) (L_weak [true, true, false, true, true] q3)))⟩⟩)⟩)⟩))⟩))⟩)))))⟩))
theorem s_An_countCommuting_34 {d : Nat} {x1 x3 x4 : Int} {σ : SG} {Q : Int → SG → Prop} (h : (4000 ≤ x4 → Q x3 σ) ∧ (x4 < 4000 → Tri d M_Sp_goOn [vA 61] σ (fun r2 σ2 => (r2 = 0 → Q x3 σ2) ∧ (r2 ≠ 0 → obok 10 x1 ∧ obok 10 x1 ∧ Tri d M_An_sizeOfMovers [vA 42, vA x1, vA 62, vA 52] σ2 (fun r4 σ4 => Tri d M_X_raised [vI (σ2 x1 1), vI r4] σ4 (fun r5 σ5 => L (d + 1) M_An_countCommuting 34 [vA 42, vA x1, vU, vI (w32 (x3 + (w32 ((w32 ((σ2 x1 1) - 1)) * r5)))), vI (w32 (x4 + 1))] [] σ5 Q)))))) : L (d + 1) M_An_countCommuting 34 [vA 42, vA x1, vU, vI x3, vI x4] [] σ Q :=
  L_iload dAn_countCommuting_34 rfl (L_sipush dAn_countCommuting_36 sp_4000 in_4000 (L_icmp_ge dAn_countCommuting_39 (by decide) ⟨fun c1 => L_iload_n dAn_countCommuting_91 rfl (L_ireturn rfl dAn_countCommuting_92 (h.1 c1)), fun c1 => L_aload_n dAn_countCommuting_42 rfl (L_getF (b := 61) fw_An_38 rfl rfl (by decide) dAn_countCommuting_43 ⟨ob_42, L_callVI rfl cv_Sp_goOn (As := []) rfl (tk5 30 rfl rfl) rfl (Nat.le_of_ble_eq_true rfl) dAn_countCommuting_46 ⟨ob_61, Tri.mono (h.2 c1) (fun r2 σ2 q2 => L_if_eq dAn_countCommuting_49 (by decide) ⟨fun c3 => L_iload_n dAn_countCommuting_91 rfl (L_ireturn rfl dAn_countCommuting_92 (q2.1 c3)), fun c3 => L_iload_n dAn_countCommuting_52 rfl (L_aload_n dAn_countCommuting_53 rfl (L_getf fw_An_57 rfl dAn_countCommuting_54 ⟨(q2.2 c3).1, L_iconst dAn_countCommuting_57 in_1 (L_isub dAn_countCommuting_58 (L_aload_n dAn_countCommuting_59 rfl (L_getf fw_An_57 rfl dAn_countCommuting_60 ⟨(q2.2 c3).2.1, L_aload_n dAn_countCommuting_63 rfl (L_aload_n dAn_countCommuting_64 rfl (L_aload_n dAn_countCommuting_65 rfl (L_getF (b := 61) fw_An_38 rfl rfl (by decide) dAn_countCommuting_66 ⟨ob_42, L_getF (b := 62) fw_An_138 rfl rfl (by decide) dAn_countCommuting_69 ⟨ob_61, L_aload_n dAn_countCommuting_72 rfl (L_getF (b := 52) fw_An_26 rfl rfl (by decide) dAn_countCommuting_73 ⟨ob_42, L_callVI rfl cv_An_sizeOfMovers (As := [vA x1, vA 62, vA 52]) rfl (tk4 223 rfl rfl) rfl (Nat.le_of_ble_eq_true rfl) dAn_countCommuting_76 ⟨ob_42, Tri.mono ((q2.2 c3).2.2) (fun r4 σ4 q4 => L_callNI rfl cs_X_raised (As := [vI (σ2 x1 1), vI r4]) rfl (by decide +kernel) rfl (Nat.le_of_ble_eq_true rfl) dAn_countCommuting_79 (Tri.mono q4 (fun r5 σ5 q5 => L_imul dAn_countCommuting_82 (L_iadd dAn_countCommuting_83 (L_istore_n dAn_countCommuting_84 (by decide) (L_iinc dAn_countCommuting_85 rfl (by decide) (L_goto dAn_countCommuting_88 (by decide) q5)))))))⟩⟩)⟩⟩)))⟩)))⟩))⟩)⟩⟩)⟩))
theorem dMe_isUnimodular_0 : decode prog_6_method_2_code 0 = .ok (.iconst 0, 1) := by decide +kernel
theorem dMe_isUnimodular_1 : decode prog_6_method_2_code 1 = .ok (.istore_n 2, 1) := by decide +kernel
theorem dMe_isUnimodular_2 : decode prog_6_method_2_code 2 = .ok (.iload_n 2, 1) := by decide +kernel
theorem dMe_isUnimodular_3 : decode prog_6_method_2_code 3 = .ok (.aload_n 1, 1) := by decide +kernel
theorem dMe_isUnimodular_4 : decode prog_6_method_2_code 4 = .ok (.getfield 39, 3) := by decide +kernel
theorem dMe_isUnimodular_7 : decode prog_6_method_2_code 7 = .ok (.if_icmp .ge 54, 3) := by decide +kernel
theorem dMe_isUnimodular_10 : decode prog_6_method_2_code 10 = .ok (.iconst 0, 1) := by decide +kernel
theorem dMe_isUnimodular_11 : decode prog_6_method_2_code 11 = .ok (.istore_n 3, 1) := by decide +kernel
theorem dMe_isUnimodular_12 : decode prog_6_method_2_code 12 = .ok (.iconst 0, 1) := by decide +kernel
theorem dMe_isUnimodular_13 : decode prog_6_method_2_code 13 = .ok (.istore 4, 2) := by decide +kernel
theorem dMe_isUnimodular_15 : decode prog_6_method_2_code 15 = .ok (.iload 4, 2) := by decide +kernel
theorem dMe_isUnimodular_17 : decode prog_6_method_2_code 17 = .ok (.aload_n 1, 1) := by decide +kernel
theorem dMe_isUnimodular_18 : decode prog_6_method_2_code 18 = .ok (.getfield 39, 3) := by decide +kernel
theorem dMe_isUnimodular_21 : decode prog_6_method_2_code 21 = .ok (.if_icmp .ge 21, 3) := by decide +kernel
theorem dMe_isUnimodular_24 : decode prog_6_method_2_code 24 = .ok (.iload_n 3, 1) := by decide +kernel
theorem dMe_isUnimodular_25 : decode prog_6_method_2_code 25 = .ok (.aload_n 1, 1) := by decide +kernel
theorem dMe_isUnimodular_26 : decode prog_6_method_2_code 26 = .ok (.iload_n 2, 1) := by decide +kernel
theorem dMe_isUnimodular_27 : decode prog_6_method_2_code 27 = .ok (.iload 4, 2) := by decide +kernel
theorem dMe_isUnimodular_29 : decode prog_6_method_2_code 29 = .ok (.iload 4, 2) := by decide +kernel
theorem dMe_isUnimodular_31 : decode prog_6_method_2_code 31 = .ok (.invokevirtual 45, 3) := by decide +kernel
theorem dMe_isUnimodular_34 : decode prog_6_method_2_code 34 = .ok (.iadd, 1) := by decide +kernel
theorem dMe_isUnimodular_35 : decode prog_6_method_2_code 35 = .ok (.istore_n 3, 1) := by decide +kernel
theorem dMe_isUnimodular_36 : decode prog_6_method_2_code 36 = .ok (.iinc 4 1, 3) := by decide +kernel
theorem dMe_isUnimodular_39 : decode prog_6_method_2_code 39 = .ok (.goto (-24), 3) := by decide +kernel
theorem dMe_isUnimodular_42 : decode prog_6_method_2_code 42 = .ok (.iload_n 3, 1) := by decide +kernel
theorem dMe_isUnimodular_43 : decode prog_6_method_2_code 43 = .ok (.aload_n 1, 1) := by decide +kernel
theorem dMe_isUnimodular_44 : decode prog_6_method_2_code 44 = .ok (.getfield 49, 3) := by decide +kernel
theorem dMe_isUnimodular_47 : decode prog_6_method_2_code 47 = .ok (.invokestatic 52, 3) := by decide +kernel
theorem dMe_isUnimodular_50 : decode prog_6_method_2_code 50 = .ok (.ifCond .eq 5, 3) := by decide +kernel
theorem dMe_isUnimodular_53 : decode prog_6_method_2_code 53 = .ok (.iconst 0, 1) := by decide +kernel
theorem dMe_isUnimodular_54 : decode prog_6_method_2_code 54 = .ok (.ireturn, 1) := by decide +kernel
theorem dMe_isUnimodular_55 : decode prog_6_method_2_code 55 = .ok (.iinc 2 1, 3) := by decide +kernel
theorem dMe_isUnimodular_58 : decode prog_6_method_2_code 58 = .ok (.goto (-56), 3) := by decide +kernel
theorem dMe_isUnimodular_61 : decode prog_6_method_2_code 61 = .ok (.iconst 1, 1) := by decide +kernel
theorem dMe_isUnimodular_62 : decode prog_6_method_2_code 62 = .ok (.ireturn, 1) := by decide +kernel
theorem t_Me_isUnimodular {d : Nat} {x1 : Int} {σ : SG} {Q : Int → SG → Prop} (h : L (d + 1) M_Me_isUnimodular 2 [vU, vA x1, vI 0, vU, vU] [] σ Q) : Tri (d + 1) M_Me_isUnimodular [vA 68, vA x1] σ Q :=
  Tri_intro rfl (Nat.le_of_ble_eq_true rfl) (ls := [vA 68, vA x1, vU, vU, vU]) rfl (fun hok => L_iconst dMe_isUnimodular_0 in_0 (L_istore_n dMe_isUnimodular_1 (by decide) (L_weak [false, true, true, true, true] (h))))
theorem s_Me_isUnimodular_2 {d : Nat} {x1 x2 : Int} {σ : SG} {Q : Int → SG → Prop} (h : obok 10 x1 ∧ (σ x1 2 ≤ x2 → Q 1 σ) ∧ (x2 < σ x1 2 → L (d + 1) M_Me_isUnimodular 15 [vU, vA x1, vI x2, vI 0, vI 0] [] σ Q)) : L (d + 1) M_Me_isUnimodular 2 [vU, vA x1, vI x2, vU, vU] [] σ Q :=
  L_iload_n dMe_isUnimodular_2 rfl (L_aload_n dMe_isUnimodular_3 rfl (L_getf fw_Me_39 rfl dMe_isUnimodular_4 ⟨h.1, L_icmp_ge dMe_isUnimodular_7 (by decide) ⟨fun c1 => L_iconst dMe_isUnimodular_61 in_1 (L_zreturn1 rfl dMe_isUnimodular_62 (h.2.1 c1)), fun c1 => L_iconst dMe_isUnimodular_10 in_0 (L_istore_n dMe_isUnimodular_11 (by decide) (L_iconst dMe_isUnimodular_12 in_0 (L_istore dMe_isUnimodular_13 (by decide) (h.2.2 c1))))⟩⟩))
theorem s_Me_isUnimodular_15 {d : Nat} {x1 x2 x3 x4 : Int} {σ : SG} {Q : Int → SG → Prop} (h : obok 10 x1 ∧ (σ x1 2 ≤ x4 → obok 10 x1 ∧ Tri d M_X_mod [vI x3, vI (σ x1 1)] σ (fun r2 σ2 => (r2 = 0 → L (d + 1) M_Me_isUnimodular 2 [vU, vA x1, vI (w32 (x2 + 1)), vU, vU] [] σ2 Q) ∧ (r2 ≠ 0 → Q 0 σ2))) ∧ (x4 < σ x1 2 → obok 10 x1 ∧ Tri d M_Wd_cell [vA x1, vI x2, vI x4, vI x4] σ (fun r4 σ4 => L (d + 1) M_Me_isUnimodular 15 [vU, vA x1, vI x2, vI (w32 (x3 + r4)), vI (w32 (x4 + 1))] [] σ4 Q))) : L (d + 1) M_Me_isUnimodular 15 [vU, vA x1, vI x2, vI x3, vI x4] [] σ Q :=
  L_iload dMe_isUnimodular_15 rfl (L_aload_n dMe_isUnimodular_17 rfl (L_getf fw_Me_39 rfl dMe_isUnimodular_18 ⟨h.1, L_icmp_ge dMe_isUnimodular_21 (by decide) ⟨fun c1 => L_iload_n dMe_isUnimodular_42 rfl (L_aload_n dMe_isUnimodular_43 rfl (L_getf fw_Me_49 rfl dMe_isUnimodular_44 ⟨(h.2.1 c1).1, L_callNI rfl cs_X_mod (As := [vI x3, vI (σ x1 1)]) rfl (by decide +kernel) rfl (Nat.le_of_ble_eq_true rfl) dMe_isUnimodular_47 (Tri.mono ((h.2.1 c1).2) (fun r2 σ2 q2 => L_if_eq dMe_isUnimodular_50 (by decide) ⟨fun c3 => L_iinc dMe_isUnimodular_55 rfl (by decide) (L_goto dMe_isUnimodular_58 (by decide) (L_weak [true, true, true, false, false] (q2.1 c3))), fun c3 => L_iconst dMe_isUnimodular_53 in_0 (L_zreturn0 rfl dMe_isUnimodular_54 (q2.2 c3))⟩))⟩)), fun c1 => L_iload_n dMe_isUnimodular_24 rfl (L_aload_n dMe_isUnimodular_25 rfl (L_iload_n dMe_isUnimodular_26 rfl (L_iload dMe_isUnimodular_27 rfl (L_iload dMe_isUnimodular_29 rfl (L_callVI rfl cv_Wd_cell (As := [vI x2, vI x4, vI x4]) rfl (tk5 16 rfl rfl) rfl (Nat.le_of_ble_eq_true rfl) dMe_isUnimodular_31 ⟨(h.2.2 c1).1, Tri.mono ((h.2.2 c1).2) (fun r4 σ4 q4 => L_iadd dMe_isUnimodular_34 (L_istore_n dMe_isUnimodular_35 (by decide) (L_iinc dMe_isUnimodular_36 rfl (by decide) (L_goto dMe_isUnimodular_39 (by decide) q4))))⟩)))))⟩⟩))
theorem dMe_vanishingPower_0 : decode prog_6_method_3_code 0 = .ok (.aload_n 1, 1) := by decide +kernel
theorem dMe_vanishingPower_1 : decode prog_6_method_3_code 1 = .ok (.iload_n 2, 1) := by decide +kernel
theorem dMe_vanishingPower_2 : decode prog_6_method_3_code 2 = .ok (.aload_n 0, 1) := by decide +kernel
theorem dMe_vanishingPower_3 : decode prog_6_method_3_code 3 = .ok (.getfield 20, 3) := by decide +kernel
theorem dMe_vanishingPower_6 : decode prog_6_method_3_code 6 = .ok (.iconst 0, 1) := by decide +kernel
theorem dMe_vanishingPower_7 : decode prog_6_method_3_code 7 = .ok (.invokevirtual 56, 3) := by decide +kernel
theorem dMe_vanishingPower_10 : decode prog_6_method_3_code 10 = .ok (.iconst 0, 1) := by decide +kernel
theorem dMe_vanishingPower_11 : decode prog_6_method_3_code 11 = .ok (.istore_n 3, 1) := by decide +kernel
theorem dMe_vanishingPower_12 : decode prog_6_method_3_code 12 = .ok (.iload_n 3, 1) := by decide +kernel
theorem dMe_vanishingPower_13 : decode prog_6_method_3_code 13 = .ok (.aload_n 1, 1) := by decide +kernel
theorem dMe_vanishingPower_14 : decode prog_6_method_3_code 14 = .ok (.getfield 39, 3) := by decide +kernel
theorem dMe_vanishingPower_17 : decode prog_6_method_3_code 17 = .ok (.if_icmp .ge 47, 3) := by decide +kernel
theorem dMe_vanishingPower_20 : decode prog_6_method_3_code 20 = .ok (.aload_n 1, 1) := by decide +kernel
theorem dMe_vanishingPower_21 : decode prog_6_method_3_code 21 = .ok (.aload_n 0, 1) := by decide +kernel
theorem dMe_vanishingPower_22 : decode prog_6_method_3_code 22 = .ok (.getfield 20, 3) := by decide +kernel
theorem dMe_vanishingPower_25 : decode prog_6_method_3_code 25 = .ok (.iconst 0, 1) := by decide +kernel
theorem dMe_vanishingPower_26 : decode prog_6_method_3_code 26 = .ok (.getstatic 60, 3) := by decide +kernel
theorem dMe_vanishingPower_29 : decode prog_6_method_3_code 29 = .ok (.iload_n 3, 1) := by decide +kernel
theorem dMe_vanishingPower_30 : decode prog_6_method_3_code 30 = .ok (.iconst 5, 1) := by decide +kernel
theorem dMe_vanishingPower_31 : decode prog_6_method_3_code 31 = .ok (.imul, 1) := by decide +kernel
theorem dMe_vanishingPower_32 : decode prog_6_method_3_code 32 = .ok (.aload_n 0, 1) := by decide +kernel
theorem dMe_vanishingPower_33 : decode prog_6_method_3_code 33 = .ok (.getfield 33, 3) := by decide +kernel
theorem dMe_vanishingPower_36 : decode prog_6_method_3_code 36 = .ok (.invokevirtual 63, 3) := by decide +kernel
theorem dMe_vanishingPower_39 : decode prog_6_method_3_code 39 = .ok (.aload_n 0, 1) := by decide +kernel
theorem dMe_vanishingPower_40 : decode prog_6_method_3_code 40 = .ok (.getfield 33, 3) := by decide +kernel
theorem dMe_vanishingPower_43 : decode prog_6_method_3_code 43 = .ok (.iconst 0, 1) := by decide +kernel
theorem dMe_vanishingPower_44 : decode prog_6_method_3_code 44 = .ok (.aload_n 0, 1) := by decide +kernel
theorem dMe_vanishingPower_45 : decode prog_6_method_3_code 45 = .ok (.getfield 24, 3) := by decide +kernel
theorem dMe_vanishingPower_48 : decode prog_6_method_3_code 48 = .ok (.iload_n 3, 1) := by decide +kernel
theorem dMe_vanishingPower_49 : decode prog_6_method_3_code 49 = .ok (.iconst 5, 1) := by decide +kernel
theorem dMe_vanishingPower_50 : decode prog_6_method_3_code 50 = .ok (.imul, 1) := by decide +kernel
theorem dMe_vanishingPower_51 : decode prog_6_method_3_code 51 = .ok (.aload_n 1, 1) := by decide +kernel
theorem dMe_vanishingPower_52 : decode prog_6_method_3_code 52 = .ok (.getfield 39, 3) := by decide +kernel
theorem dMe_vanishingPower_55 : decode prog_6_method_3_code 55 = .ok (.invokestatic 67, 3) := by decide +kernel
theorem dMe_vanishingPower_58 : decode prog_6_method_3_code 58 = .ok (.iinc 3 1, 3) := by decide +kernel
theorem dMe_vanishingPower_61 : decode prog_6_method_3_code 61 = .ok (.goto (-49), 3) := by decide +kernel
theorem dMe_vanishingPower_64 : decode prog_6_method_3_code 64 = .ok (.aload_n 0, 1) := by decide +kernel
theorem dMe_vanishingPower_65 : decode prog_6_method_3_code 65 = .ok (.getfield 24, 3) := by decide +kernel
theorem dMe_vanishingPower_68 : decode prog_6_method_3_code 68 = .ok (.iconst 0, 1) := by decide +kernel
theorem dMe_vanishingPower_69 : decode prog_6_method_3_code 69 = .ok (.aload_n 0, 1) := by decide +kernel
theorem dMe_vanishingPower_70 : decode prog_6_method_3_code 70 = .ok (.getfield 27, 3) := by decide +kernel
theorem dMe_vanishingPower_73 : decode prog_6_method_3_code 73 = .ok (.iconst 0, 1) := by decide +kernel
theorem dMe_vanishingPower_74 : decode prog_6_method_3_code 74 = .ok (.bipush 25, 2) := by decide +kernel
theorem dMe_vanishingPower_76 : decode prog_6_method_3_code 76 = .ok (.invokestatic 67, 3) := by decide +kernel
theorem dMe_vanishingPower_79 : decode prog_6_method_3_code 79 = .ok (.iconst 1, 1) := by decide +kernel
theorem dMe_vanishingPower_80 : decode prog_6_method_3_code 80 = .ok (.istore_n 3, 1) := by decide +kernel
theorem dMe_vanishingPower_81 : decode prog_6_method_3_code 81 = .ok (.iload_n 3, 1) := by decide +kernel
theorem dMe_vanishingPower_82 : decode prog_6_method_3_code 82 = .ok (.aload_n 1, 1) := by decide +kernel
theorem dMe_vanishingPower_83 : decode prog_6_method_3_code 83 = .ok (.getfield 39, 3) := by decide +kernel
theorem dMe_vanishingPower_86 : decode prog_6_method_3_code 86 = .ok (.if_icmp .gt 30, 3) := by decide +kernel
theorem dMe_vanishingPower_89 : decode prog_6_method_3_code 89 = .ok (.aload_n 0, 1) := by decide +kernel
theorem dMe_vanishingPower_90 : decode prog_6_method_3_code 90 = .ok (.getfield 27, 3) := by decide +kernel
theorem dMe_vanishingPower_93 : decode prog_6_method_3_code 93 = .ok (.aload_n 1, 1) := by decide +kernel
theorem dMe_vanishingPower_94 : decode prog_6_method_3_code 94 = .ok (.getfield 39, 3) := by decide +kernel
theorem dMe_vanishingPower_97 : decode prog_6_method_3_code 97 = .ok (.invokestatic 73, 3) := by decide +kernel
theorem dMe_vanishingPower_100 : decode prog_6_method_3_code 100 = .ok (.ifCond .eq 5, 3) := by decide +kernel
theorem dMe_vanishingPower_103 : decode prog_6_method_3_code 103 = .ok (.iload_n 3, 1) := by decide +kernel
theorem dMe_vanishingPower_104 : decode prog_6_method_3_code 104 = .ok (.ireturn, 1) := by decide +kernel
theorem dMe_vanishingPower_105 : decode prog_6_method_3_code 105 = .ok (.aload_n 0, 1) := by decide +kernel
theorem dMe_vanishingPower_106 : decode prog_6_method_3_code 106 = .ok (.aload_n 1, 1) := by decide +kernel
theorem dMe_vanishingPower_107 : decode prog_6_method_3_code 107 = .ok (.invokevirtual 77, 3) := by decide +kernel
theorem dMe_vanishingPower_110 : decode prog_6_method_3_code 110 = .ok (.iinc 3 1, 3) := by decide +kernel
theorem dMe_vanishingPower_113 : decode prog_6_method_3_code 113 = .ok (.goto (-32), 3) := by decide +kernel
theorem dMe_vanishingPower_116 : decode prog_6_method_3_code 116 = .ok (.iconst 0, 1) := by decide +kernel
theorem dMe_vanishingPower_117 : decode prog_6_method_3_code 117 = .ok (.ireturn, 1) := by decide +kernel
theorem t_Me_vanishingPower {d : Nat} {x1 x2 : Int} {σ : SG} {Q : Int → SG → Prop} (h : inI x2 → (obok 10 x1 ∧ Tri d M_Wd_unpack [vA x1, vI x2, vA 72, vI 0] σ (fun r1 σ1 => L (d + 1) M_Me_vanishingPower 12 [vA 68, vA x1, vU, vI 0] [] σ1 Q))) : Tri (d + 1) M_Me_vanishingPower [vA 68, vA x1, vI x2] σ Q :=
  Tri_intro rfl (Nat.le_of_ble_eq_true rfl) (ls := [vA 68, vA x1, vI x2, vU]) rfl (fun hok => L_aload_n dMe_vanishingPower_0 rfl (L_iload_n dMe_vanishingPower_1 rfl (L_aload_n dMe_vanishingPower_2 rfl (L_getF (b := 72) fw_Me_20 rfl rfl (by decide) dMe_vanishingPower_3 ⟨ob_68, L_iconst dMe_vanishingPower_6 in_0 (L_callVV rfl cv_Wd_unpack (As := [vI x2, vA 72, vI 0]) rfl (tk5 102 rfl rfl) rfl (Nat.le_of_ble_eq_true rfl) dMe_vanishingPower_7 ⟨(h (hok _ (List.mem_of_getElem? (i := 2) rfl))).1, Tri.mono ((h (hok _ (List.mem_of_getElem? (i := 2) rfl))).2) (fun r1 σ1 q1 => L_iconst dMe_vanishingPower_10 in_0 (L_istore_n dMe_vanishingPower_11 (by decide) (L_weak [true, true, false, true] q1)))⟩)⟩))))
theorem s_Me_vanishingPower_12 {d : Nat} {x1 x3 : Int} {σ : SG} {Q : Int → SG → Prop} (h : obok 10 x1 ∧ (σ x1 2 ≤ x3 → ((0 : Int) ≤ 74 ∧ (kd 74).1 = 100 ∧ (kd 73).1 = 100 ∧ (0 : Int) ≤ 0 ∧ (0 : Int) ≤ 0 ∧ (0 : Int) ≤ 25 ∧ 0 + 25 ≤ ((kd 73).2 : Int) ∧ 0 + 25 ≤ ((kd 74).2 : Int)) ∧ (∀ σ2, σ2 = cpy σ 73 0 74 0 25 → L (d + 1) M_Me_vanishingPower 81 [vA 68, vA x1, vU, vI 1] [] σ2 Q)) ∧ (x3 < σ x1 2 → obok 10 x1 ∧ Tri d M_Wd_bracketInto [vA x1, vA 72, vI 0, vA (-2), vI (w32 (x3 * 5)), vA 76] σ (fun r3 σ3 => obok 10 x1 ∧ ((0 : Int) ≤ 73 ∧ (kd 73).1 = 100 ∧ (kd 76).1 = 100 ∧ (0 : Int) ≤ 0 ∧ (0 : Int) ≤ w32 (x3 * 5) ∧ (0 : Int) ≤ σ3 x1 2 ∧ 0 + (σ3 x1 2) ≤ ((kd 76).2 : Int) ∧ (w32 (x3 * 5)) + (σ3 x1 2) ≤ ((kd 73).2 : Int)) ∧ (∀ σ4, σ4 = cpy σ3 76 0 73 (w32 (x3 * 5)) (σ3 x1 2) → L (d + 1) M_Me_vanishingPower 12 [vA 68, vA x1, vU, vI (w32 (x3 + 1))] [] σ4 Q)))) : L (d + 1) M_Me_vanishingPower 12 [vA 68, vA x1, vU, vI x3] [] σ Q :=
  L_iload_n dMe_vanishingPower_12 rfl (L_aload_n dMe_vanishingPower_13 rfl (L_getf fw_Me_39 rfl dMe_vanishingPower_14 ⟨h.1, L_icmp_ge dMe_vanishingPower_17 (by decide) ⟨fun c1 => L_aload_n dMe_vanishingPower_64 rfl (L_getF (b := 73) fw_Me_24 rfl rfl (by decide) dMe_vanishingPower_65 ⟨ob_68, L_iconst dMe_vanishingPower_68 in_0 (L_aload_n dMe_vanishingPower_69 rfl (L_getF (b := 74) fw_Me_27 rfl rfl (by decide) dMe_vanishingPower_70 ⟨ob_68, L_iconst dMe_vanishingPower_73 in_0 (L_bipush dMe_vanishingPower_74 bp_25 in_25 (L_copyIN (tk5 105 rfl rfl) (Nat.le_of_ble_eq_true rfl) dMe_vanishingPower_76 ⟨(h.2.1 c1).1, fun σ2 e2 => L_iconst dMe_vanishingPower_79 in_1 (L_istore_n dMe_vanishingPower_80 (by decide) ((h.2.1 c1).2 σ2 e2))⟩))⟩))⟩), fun c1 => L_aload_n dMe_vanishingPower_20 rfl (L_aload_n dMe_vanishingPower_21 rfl (L_getF (b := 72) fw_Me_20 rfl rfl (by decide) dMe_vanishingPower_22 ⟨ob_68, L_iconst dMe_vanishingPower_25 in_0 (L_units (by decide +kernel) dMe_vanishingPower_26 (L_iload_n dMe_vanishingPower_29 rfl (L_iconst dMe_vanishingPower_30 in_5 (L_imul dMe_vanishingPower_31 (L_aload_n dMe_vanishingPower_32 rfl (L_getF (b := 76) fw_Me_33 rfl rfl (by decide) dMe_vanishingPower_33 ⟨ob_68, L_callVV rfl cv_Wd_bracketInto (As := [vA 72, vI 0, vA (-2), vI (w32 (x3 * 5)), vA 76]) rfl (tk5 104 rfl rfl) rfl (Nat.le_of_ble_eq_true rfl) dMe_vanishingPower_36 ⟨(h.2.2 c1).1, Tri.mono ((h.2.2 c1).2) (fun r3 σ3 q3 => L_aload_n dMe_vanishingPower_39 rfl (L_getF (b := 76) fw_Me_33 rfl rfl (by decide) dMe_vanishingPower_40 ⟨ob_68, L_iconst dMe_vanishingPower_43 in_0 (L_aload_n dMe_vanishingPower_44 rfl (L_getF (b := 73) fw_Me_24 rfl rfl (by decide) dMe_vanishingPower_45 ⟨ob_68, L_iload_n dMe_vanishingPower_48 rfl (L_iconst dMe_vanishingPower_49 in_5 (L_imul dMe_vanishingPower_50 (L_aload_n dMe_vanishingPower_51 rfl (L_getf fw_Me_39 rfl dMe_vanishingPower_52 ⟨q3.1, L_copyIN (tk5 105 rfl rfl) (Nat.le_of_ble_eq_true rfl) dMe_vanishingPower_55 ⟨q3.2.1, fun σ4 e4 => L_iinc dMe_vanishingPower_58 rfl (by decide) (L_goto dMe_vanishingPower_61 (by decide) (q3.2.2 σ4 e4))⟩⟩))))⟩))⟩))⟩⟩))))))⟩))⟩⟩))
theorem s_Me_vanishingPower_81 {d : Nat} {x1 x3 : Int} {σ : SG} {Q : Int → SG → Prop} (h : obok 10 x1 ∧ (σ x1 2 < x3 → Q 0 σ) ∧ (x3 ≤ σ x1 2 → obok 10 x1 ∧ Tri d M_Me_isZero [vA 74, vI (σ x1 2)] σ (fun r2 σ2 => (r2 = 0 → Tri d M_Me_multiply [vA 68, vA x1] σ2 (fun r4 σ4 => L (d + 1) M_Me_vanishingPower 81 [vA 68, vA x1, vU, vI (w32 (x3 + 1))] [] σ4 Q)) ∧ (r2 ≠ 0 → Q x3 σ2)))) : L (d + 1) M_Me_vanishingPower 81 [vA 68, vA x1, vU, vI x3] [] σ Q :=
  L_iload_n dMe_vanishingPower_81 rfl (L_aload_n dMe_vanishingPower_82 rfl (L_getf fw_Me_39 rfl dMe_vanishingPower_83 ⟨h.1, L_icmp_gt dMe_vanishingPower_86 (by decide) ⟨fun c1 => L_iconst dMe_vanishingPower_116 in_0 (L_ireturn rfl dMe_vanishingPower_117 (h.2.1 c1)), fun c1 => L_aload_n dMe_vanishingPower_89 rfl (L_getF (b := 74) fw_Me_27 rfl rfl (by decide) dMe_vanishingPower_90 ⟨ob_68, L_aload_n dMe_vanishingPower_93 rfl (L_getf fw_Me_39 rfl dMe_vanishingPower_94 ⟨(h.2.2 c1).1, L_callSI rfl cs_Me_isZero (As := [vA 74, vI (σ x1 2)]) rfl (tk5 106 rfl rfl) rfl (Nat.le_of_ble_eq_true rfl) dMe_vanishingPower_97 (Tri.mono ((h.2.2 c1).2) (fun r2 σ2 q2 => L_if_eq dMe_vanishingPower_100 (by decide) ⟨fun c3 => L_aload_n dMe_vanishingPower_105 rfl (L_aload_n dMe_vanishingPower_106 rfl (L_callVV rfl cv_Me_multiply (As := [vA x1]) rfl (tk5 109 rfl rfl) rfl (Nat.le_of_ble_eq_true rfl) dMe_vanishingPower_107 ⟨ob_68, Tri.mono (q2.1 c3) (fun r4 σ4 q4 => L_iinc dMe_vanishingPower_110 rfl (by decide) (L_goto dMe_vanishingPower_113 (by decide) q4))⟩)), fun c3 => L_iload_n dMe_vanishingPower_103 rfl (L_ireturn rfl dMe_vanishingPower_104 (q2.2 c3))⟩))⟩)⟩)⟩⟩))
theorem dMe_isZero_0 : decode prog_6_method_4_code 0 = .ok (.iconst 0, 1) := by decide +kernel
theorem dMe_isZero_1 : decode prog_6_method_4_code 1 = .ok (.istore_n 2, 1) := by decide +kernel
theorem dMe_isZero_2 : decode prog_6_method_4_code 2 = .ok (.iload_n 2, 1) := by decide +kernel
theorem dMe_isZero_3 : decode prog_6_method_4_code 3 = .ok (.iload_n 1, 1) := by decide +kernel
theorem dMe_isZero_4 : decode prog_6_method_4_code 4 = .ok (.if_icmp .ge 34, 3) := by decide +kernel
theorem dMe_isZero_7 : decode prog_6_method_4_code 7 = .ok (.iconst 0, 1) := by decide +kernel
theorem dMe_isZero_8 : decode prog_6_method_4_code 8 = .ok (.istore_n 3, 1) := by decide +kernel
theorem dMe_isZero_9 : decode prog_6_method_4_code 9 = .ok (.iload_n 3, 1) := by decide +kernel
theorem dMe_isZero_10 : decode prog_6_method_4_code 10 = .ok (.iload_n 1, 1) := by decide +kernel
theorem dMe_isZero_11 : decode prog_6_method_4_code 11 = .ok (.if_icmp .ge 21, 3) := by decide +kernel
theorem dMe_isZero_14 : decode prog_6_method_4_code 14 = .ok (.aload_n 0, 1) := by decide +kernel
theorem dMe_isZero_15 : decode prog_6_method_4_code 15 = .ok (.iload_n 2, 1) := by decide +kernel
theorem dMe_isZero_16 : decode prog_6_method_4_code 16 = .ok (.iconst 5, 1) := by decide +kernel
theorem dMe_isZero_17 : decode prog_6_method_4_code 17 = .ok (.imul, 1) := by decide +kernel
theorem dMe_isZero_18 : decode prog_6_method_4_code 18 = .ok (.iload_n 3, 1) := by decide +kernel
theorem dMe_isZero_19 : decode prog_6_method_4_code 19 = .ok (.iadd, 1) := by decide +kernel
theorem dMe_isZero_20 : decode prog_6_method_4_code 20 = .ok (.iaload, 1) := by decide +kernel
theorem dMe_isZero_21 : decode prog_6_method_4_code 21 = .ok (.ifCond .eq 5, 3) := by decide +kernel
theorem dMe_isZero_24 : decode prog_6_method_4_code 24 = .ok (.iconst 0, 1) := by decide +kernel
theorem dMe_isZero_25 : decode prog_6_method_4_code 25 = .ok (.ireturn, 1) := by decide +kernel
theorem dMe_isZero_26 : decode prog_6_method_4_code 26 = .ok (.iinc 3 1, 3) := by decide +kernel
theorem dMe_isZero_29 : decode prog_6_method_4_code 29 = .ok (.goto (-20), 3) := by decide +kernel
theorem dMe_isZero_32 : decode prog_6_method_4_code 32 = .ok (.iinc 2 1, 3) := by decide +kernel
theorem dMe_isZero_35 : decode prog_6_method_4_code 35 = .ok (.goto (-33), 3) := by decide +kernel
theorem dMe_isZero_38 : decode prog_6_method_4_code 38 = .ok (.iconst 1, 1) := by decide +kernel
theorem dMe_isZero_39 : decode prog_6_method_4_code 39 = .ok (.ireturn, 1) := by decide +kernel
theorem t_Me_isZero {d : Nat} {x0 x1 : Int} {σ : SG} {Q : Int → SG → Prop} (h : inI x1 → (L (d + 1) M_Me_isZero 2 [vA x0, vI x1, vI 0, vU] [] σ Q)) : Tri (d + 1) M_Me_isZero [vA x0, vI x1] σ Q :=
  Tri_intro rfl (Nat.le_of_ble_eq_true rfl) (ls := [vA x0, vI x1, vU, vU]) rfl (fun hok => L_iconst dMe_isZero_0 in_0 (L_istore_n dMe_isZero_1 (by decide) ((h (hok _ (List.mem_of_getElem? (i := 1) rfl))))))
theorem s_Me_isZero_2 {d : Nat} {x0 x1 x2 : Int} {σ : SG} {Q : Int → SG → Prop} (h : (x1 ≤ x2 → Q 1 σ) ∧ (x2 < x1 → L (d + 1) M_Me_isZero 9 [vA x0, vI x1, vI x2, vI 0] [] σ Q)) : L (d + 1) M_Me_isZero 2 [vA x0, vI x1, vI x2, vU] [] σ Q :=
  L_iload_n dMe_isZero_2 rfl (L_iload_n dMe_isZero_3 rfl (L_icmp_ge dMe_isZero_4 (by decide) ⟨fun c1 => L_iconst dMe_isZero_38 in_1 (L_zreturn1 rfl dMe_isZero_39 (h.1 c1)), fun c1 => L_iconst dMe_isZero_7 in_0 (L_istore_n dMe_isZero_8 (by decide) (h.2 c1))⟩))
theorem s_Me_isZero_9 {d : Nat} {x0 x1 x2 x3 : Int} {σ : SG} {Q : Int → SG → Prop} (h : (x1 ≤ x3 → L (d + 1) M_Me_isZero 2 [vA x0, vI x1, vI (w32 (x2 + 1)), vU] [] σ Q) ∧ (x3 < x1 → rdok 100 x0 (w32 ((w32 (x2 * 5)) + x3)) ∧ (σ x0 (w32 ((w32 (x2 * 5)) + x3)) = 0 → L (d + 1) M_Me_isZero 9 [vA x0, vI x1, vI x2, vI (w32 (x3 + 1))] [] σ Q) ∧ (σ x0 (w32 ((w32 (x2 * 5)) + x3)) ≠ 0 → Q 0 σ))) : L (d + 1) M_Me_isZero 9 [vA x0, vI x1, vI x2, vI x3] [] σ Q :=
  L_iload_n dMe_isZero_9 rfl (L_iload_n dMe_isZero_10 rfl (L_icmp_ge dMe_isZero_11 (by decide) ⟨fun c1 => L_iinc dMe_isZero_32 rfl (by decide) (L_goto dMe_isZero_35 (by decide) (L_weak [true, true, true, false] (h.1 c1))), fun c1 => L_aload_n dMe_isZero_14 rfl (L_iload_n dMe_isZero_15 rfl (L_iconst dMe_isZero_16 in_5 (L_imul dMe_isZero_17 (L_iload_n dMe_isZero_18 rfl (L_iadd dMe_isZero_19 (L_iaload dMe_isZero_20 ⟨(h.2 c1).1, L_if_eq dMe_isZero_21 (by decide) ⟨fun c2 => L_iinc dMe_isZero_26 rfl (by decide) (L_goto dMe_isZero_29 (by decide) ((h.2 c1).2.1 c2)), fun c2 => L_iconst dMe_isZero_24 in_0 (L_zreturn0 rfl dMe_isZero_25 ((h.2 c1).2.2 c2))⟩⟩))))))⟩))
theorem dMe_multiply_0 : decode prog_6_method_5_code 0 = .ok (.iconst 0, 1) := by decide +kernel
theorem dMe_multiply_1 : decode prog_6_method_5_code 1 = .ok (.istore_n 2, 1) := by decide +kernel
theorem dMe_multiply_2 : decode prog_6_method_5_code 2 = .ok (.iload_n 2, 1) := by decide +kernel
theorem dMe_multiply_3 : decode prog_6_method_5_code 3 = .ok (.aload_n 1, 1) := by decide +kernel
theorem dMe_multiply_4 : decode prog_6_method_5_code 4 = .ok (.getfield 39, 3) := by decide +kernel
theorem dMe_multiply_7 : decode prog_6_method_5_code 7 = .ok (.if_icmp .ge 93, 3) := by decide +kernel
theorem dMe_multiply_10 : decode prog_6_method_5_code 10 = .ok (.iconst 0, 1) := by decide +kernel
theorem dMe_multiply_11 : decode prog_6_method_5_code 11 = .ok (.istore_n 3, 1) := by decide +kernel
theorem dMe_multiply_12 : decode prog_6_method_5_code 12 = .ok (.iload_n 3, 1) := by decide +kernel
theorem dMe_multiply_13 : decode prog_6_method_5_code 13 = .ok (.aload_n 1, 1) := by decide +kernel
theorem dMe_multiply_14 : decode prog_6_method_5_code 14 = .ok (.getfield 39, 3) := by decide +kernel
theorem dMe_multiply_17 : decode prog_6_method_5_code 17 = .ok (.if_icmp .ge 77, 3) := by decide +kernel
theorem dMe_multiply_20 : decode prog_6_method_5_code 20 = .ok (.iconst 0, 1) := by decide +kernel
theorem dMe_multiply_21 : decode prog_6_method_5_code 21 = .ok (.istore 4, 2) := by decide +kernel
theorem dMe_multiply_23 : decode prog_6_method_5_code 23 = .ok (.iconst 0, 1) := by decide +kernel
theorem dMe_multiply_24 : decode prog_6_method_5_code 24 = .ok (.istore 5, 2) := by decide +kernel
theorem dMe_multiply_26 : decode prog_6_method_5_code 26 = .ok (.iload 5, 2) := by decide +kernel
theorem dMe_multiply_28 : decode prog_6_method_5_code 28 = .ok (.aload_n 1, 1) := by decide +kernel
theorem dMe_multiply_29 : decode prog_6_method_5_code 29 = .ok (.getfield 39, 3) := by decide +kernel
theorem dMe_multiply_32 : decode prog_6_method_5_code 32 = .ok (.if_icmp .ge 37, 3) := by decide +kernel
theorem dMe_multiply_35 : decode prog_6_method_5_code 35 = .ok (.iload 4, 2) := by decide +kernel
theorem dMe_multiply_37 : decode prog_6_method_5_code 37 = .ok (.aload_n 0, 1) := by decide +kernel
theorem dMe_multiply_38 : decode prog_6_method_5_code 38 = .ok (.getfield 27, 3) := by decide +kernel
theorem dMe_multiply_41 : decode prog_6_method_5_code 41 = .ok (.iload_n 2, 1) := by decide +kernel
theorem dMe_multiply_42 : decode prog_6_method_5_code 42 = .ok (.iconst 5, 1) := by decide +kernel
theorem dMe_multiply_43 : decode prog_6_method_5_code 43 = .ok (.imul, 1) := by decide +kernel
theorem dMe_multiply_44 : decode prog_6_method_5_code 44 = .ok (.iload 5, 2) := by decide +kernel
theorem dMe_multiply_46 : decode prog_6_method_5_code 46 = .ok (.iadd, 1) := by decide +kernel
theorem dMe_multiply_47 : decode prog_6_method_5_code 47 = .ok (.iaload, 1) := by decide +kernel
theorem dMe_multiply_48 : decode prog_6_method_5_code 48 = .ok (.aload_n 0, 1) := by decide +kernel
theorem dMe_multiply_49 : decode prog_6_method_5_code 49 = .ok (.getfield 24, 3) := by decide +kernel
theorem dMe_multiply_52 : decode prog_6_method_5_code 52 = .ok (.iload 5, 2) := by decide +kernel
theorem dMe_multiply_54 : decode prog_6_method_5_code 54 = .ok (.iconst 5, 1) := by decide +kernel
theorem dMe_multiply_55 : decode prog_6_method_5_code 55 = .ok (.imul, 1) := by decide +kernel
theorem dMe_multiply_56 : decode prog_6_method_5_code 56 = .ok (.iload_n 3, 1) := by decide +kernel
theorem dMe_multiply_57 : decode prog_6_method_5_code 57 = .ok (.iadd, 1) := by decide +kernel
theorem dMe_multiply_58 : decode prog_6_method_5_code 58 = .ok (.iaload, 1) := by decide +kernel
theorem dMe_multiply_59 : decode prog_6_method_5_code 59 = .ok (.imul, 1) := by decide +kernel
theorem dMe_multiply_60 : decode prog_6_method_5_code 60 = .ok (.iadd, 1) := by decide +kernel
theorem dMe_multiply_61 : decode prog_6_method_5_code 61 = .ok (.istore 4, 2) := by decide +kernel
theorem dMe_multiply_63 : decode prog_6_method_5_code 63 = .ok (.iinc 5 1, 3) := by decide +kernel
theorem dMe_multiply_66 : decode prog_6_method_5_code 66 = .ok (.goto (-40), 3) := by decide +kernel
theorem dMe_multiply_69 : decode prog_6_method_5_code 69 = .ok (.aload_n 0, 1) := by decide +kernel
theorem dMe_multiply_70 : decode prog_6_method_5_code 70 = .ok (.getfield 30, 3) := by decide +kernel
theorem dMe_multiply_73 : decode prog_6_method_5_code 73 = .ok (.iload_n 2, 1) := by decide +kernel
theorem dMe_multiply_74 : decode prog_6_method_5_code 74 = .ok (.iconst 5, 1) := by decide +kernel
theorem dMe_multiply_75 : decode prog_6_method_5_code 75 = .ok (.imul, 1) := by decide +kernel
theorem dMe_multiply_76 : decode prog_6_method_5_code 76 = .ok (.iload_n 3, 1) := by decide +kernel
theorem dMe_multiply_77 : decode prog_6_method_5_code 77 = .ok (.iadd, 1) := by decide +kernel
theorem dMe_multiply_78 : decode prog_6_method_5_code 78 = .ok (.iload 4, 2) := by decide +kernel
theorem dMe_multiply_80 : decode prog_6_method_5_code 80 = .ok (.aload_n 1, 1) := by decide +kernel
theorem dMe_multiply_81 : decode prog_6_method_5_code 81 = .ok (.getfield 49, 3) := by decide +kernel
theorem dMe_multiply_84 : decode prog_6_method_5_code 84 = .ok (.invokestatic 52, 3) := by decide +kernel
theorem dMe_multiply_87 : decode prog_6_method_5_code 87 = .ok (.iastore, 1) := by decide +kernel
theorem dMe_multiply_88 : decode prog_6_method_5_code 88 = .ok (.iinc 3 1, 3) := by decide +kernel
theorem dMe_multiply_91 : decode prog_6_method_5_code 91 = .ok (.goto (-79), 3) := by decide +kernel
theorem dMe_multiply_94 : decode prog_6_method_5_code 94 = .ok (.iinc 2 1, 3) := by decide +kernel
theorem dMe_multiply_97 : decode prog_6_method_5_code 97 = .ok (.goto (-95), 3) := by decide +kernel
theorem dMe_multiply_100 : decode prog_6_method_5_code 100 = .ok (.aload_n 0, 1) := by decide +kernel
theorem dMe_multiply_101 : decode prog_6_method_5_code 101 = .ok (.getfield 30, 3) := by decide +kernel
theorem dMe_multiply_104 : decode prog_6_method_5_code 104 = .ok (.iconst 0, 1) := by decide +kernel
theorem dMe_multiply_105 : decode prog_6_method_5_code 105 = .ok (.aload_n 0, 1) := by decide +kernel
theorem dMe_multiply_106 : decode prog_6_method_5_code 106 = .ok (.getfield 27, 3) := by decide +kernel
theorem dMe_multiply_109 : decode prog_6_method_5_code 109 = .ok (.iconst 0, 1) := by decide +kernel
theorem dMe_multiply_110 : decode prog_6_method_5_code 110 = .ok (.bipush 25, 2) := by decide +kernel
theorem dMe_multiply_112 : decode prog_6_method_5_code 112 = .ok (.invokestatic 67, 3) := by decide +kernel
theorem dMe_multiply_115 : decode prog_6_method_5_code 115 = .ok (.return_, 1) := by decide +kernel
theorem t_Me_multiply {d : Nat} {x1 : Int} {σ : SG} {Q : Int → SG → Prop} (h : L (d + 1) M_Me_multiply 2 [vA 68, vA x1, vI 0, vU, vU, vU] [] σ Q) : Tri (d + 1) M_Me_multiply [vA 68, vA x1] σ Q :=
  Tri_intro rfl (Nat.le_of_ble_eq_true rfl) (ls := [vA 68, vA x1, vU, vU, vU, vU]) rfl (fun hok => L_iconst dMe_multiply_0 in_0 (L_istore_n dMe_multiply_1 (by decide) (h)))
theorem s_Me_multiply_2 {d : Nat} {x1 x2 : Int} {σ : SG} {Q : Int → SG → Prop} (h : obok 10 x1 ∧ (σ x1 2 ≤ x2 → ((0 : Int) ≤ 74 ∧ (kd 74).1 = 100 ∧ (kd 75).1 = 100 ∧ (0 : Int) ≤ 0 ∧ (0 : Int) ≤ 0 ∧ (0 : Int) ≤ 25 ∧ 0 + 25 ≤ ((kd 75).2 : Int) ∧ 0 + 25 ≤ ((kd 74).2 : Int)) ∧ (∀ σ2, σ2 = cpy σ 75 0 74 0 25 → Q 0 σ2)) ∧ (x2 < σ x1 2 → L (d + 1) M_Me_multiply 12 [vA 68, vA x1, vI x2, vI 0, vU, vU] [] σ Q)) : L (d + 1) M_Me_multiply 2 [vA 68, vA x1, vI x2, vU, vU, vU] [] σ Q :=
  L_iload_n dMe_multiply_2 rfl (L_aload_n dMe_multiply_3 rfl (L_getf fw_Me_39 rfl dMe_multiply_4 ⟨h.1, L_icmp_ge dMe_multiply_7 (by decide) ⟨fun c1 => L_aload_n dMe_multiply_100 rfl (L_getF (b := 75) fw_Me_30 rfl rfl (by decide) dMe_multiply_101 ⟨ob_68, L_iconst dMe_multiply_104 in_0 (L_aload_n dMe_multiply_105 rfl (L_getF (b := 74) fw_Me_27 rfl rfl (by decide) dMe_multiply_106 ⟨ob_68, L_iconst dMe_multiply_109 in_0 (L_bipush dMe_multiply_110 bp_25 in_25 (L_copyIN (tk5 105 rfl rfl) (Nat.le_of_ble_eq_true rfl) dMe_multiply_112 ⟨(h.2.1 c1).1, fun σ2 e2 => L_return rfl dMe_multiply_115 ((h.2.1 c1).2 σ2 e2)⟩))⟩))⟩), fun c1 => L_iconst dMe_multiply_10 in_0 (L_istore_n dMe_multiply_11 (by decide) (h.2.2 c1))⟩⟩))
theorem s_Me_multiply_12 {d : Nat} {x1 x2 x3 : Int} {σ : SG} {Q : Int → SG → Prop} (h : obok 10 x1 ∧ (σ x1 2 ≤ x3 → L (d + 1) M_Me_multiply 2 [vA 68, vA x1, vI (w32 (x2 + 1)), vU, vU, vU] [] σ Q) ∧ (x3 < σ x1 2 → L (d + 1) M_Me_multiply 26 [vA 68, vA x1, vI x2, vI x3, vI 0, vI 0] [] σ Q)) : L (d + 1) M_Me_multiply 12 [vA 68, vA x1, vI x2, vI x3, vU, vU] [] σ Q :=
  L_iload_n dMe_multiply_12 rfl (L_aload_n dMe_multiply_13 rfl (L_getf fw_Me_39 rfl dMe_multiply_14 ⟨h.1, L_icmp_ge dMe_multiply_17 (by decide) ⟨fun c1 => L_iinc dMe_multiply_94 rfl (by decide) (L_goto dMe_multiply_97 (by decide) (L_weak [true, true, true, false, true, true] (h.2.1 c1))), fun c1 => L_iconst dMe_multiply_20 in_0 (L_istore dMe_multiply_21 (by decide) (L_iconst dMe_multiply_23 in_0 (L_istore dMe_multiply_24 (by decide) (h.2.2 c1))))⟩⟩))
theorem s_Me_multiply_26 {d : Nat} {x1 x2 x3 x4 x5 : Int} {σ : SG} {Q : Int → SG → Prop} (h : obok 10 x1 ∧ (σ x1 2 ≤ x5 → obok 10 x1 ∧ Tri d M_X_mod [vI x4, vI (σ x1 1)] σ (fun r2 σ2 => (0 ≤ w32 ((w32 (x2 * 5)) + x3) ∧ w32 ((w32 (x2 * 5)) + x3) < 25) ∧ (∀ σ3, σ3 = up σ2 75 (w32 ((w32 (x2 * 5)) + x3)) r2 → L (d + 1) M_Me_multiply 12 [vA 68, vA x1, vI x2, vI (w32 (x3 + 1)), vU, vU] [] σ3 Q))) ∧ (x5 < σ x1 2 → (0 ≤ w32 ((w32 (x2 * 5)) + x5) ∧ w32 ((w32 (x2 * 5)) + x5) < 25) ∧ (0 ≤ w32 ((w32 (x5 * 5)) + x3) ∧ w32 ((w32 (x5 * 5)) + x3) < 25) ∧ L (d + 1) M_Me_multiply 26 [vA 68, vA x1, vI x2, vI x3, vI (w32 (x4 + (w32 ((σ 74 (w32 ((w32 (x2 * 5)) + x5))) * (σ 73 (w32 ((w32 (x5 * 5)) + x3))))))), vI (w32 (x5 + 1))] [] σ Q)) : L (d + 1) M_Me_multiply 26 [vA 68, vA x1, vI x2, vI x3, vI x4, vI x5] [] σ Q :=
  L_iload dMe_multiply_26 rfl (L_aload_n dMe_multiply_28 rfl (L_getf fw_Me_39 rfl dMe_multiply_29 ⟨h.1, L_icmp_ge dMe_multiply_32 (by decide) ⟨fun c1 => L_aload_n dMe_multiply_69 rfl (L_getF (b := 75) fw_Me_30 rfl rfl (by decide) dMe_multiply_70 ⟨ob_68, L_iload_n dMe_multiply_73 rfl (L_iconst dMe_multiply_74 in_5 (L_imul dMe_multiply_75 (L_iload_n dMe_multiply_76 rfl (L_iadd dMe_multiply_77 (L_iload dMe_multiply_78 rfl (L_aload_n dMe_multiply_80 rfl (L_getf fw_Me_49 rfl dMe_multiply_81 ⟨(h.2.1 c1).1, L_callNI rfl cs_X_mod (As := [vI x4, vI (σ x1 1)]) rfl (by decide +kernel) rfl (Nat.le_of_ble_eq_true rfl) dMe_multiply_84 (Tri.mono ((h.2.1 c1).2) (fun r2 σ2 q2 => L_iastoreL (by decide) kd_75 dMe_multiply_87 ⟨q2.1, fun σ3 e3 => L_iinc dMe_multiply_88 rfl (by decide) (L_goto dMe_multiply_91 (by decide) (L_weak [true, true, true, true, false, false] (q2.2 σ3 e3)))⟩))⟩)))))))⟩), fun c1 => L_iload dMe_multiply_35 rfl (L_aload_n dMe_multiply_37 rfl (L_getF (b := 74) fw_Me_27 rfl rfl (by decide) dMe_multiply_38 ⟨ob_68, L_iload_n dMe_multiply_41 rfl (L_iconst dMe_multiply_42 in_5 (L_imul dMe_multiply_43 (L_iload dMe_multiply_44 rfl (L_iadd dMe_multiply_46 (L_ialoadL kd_74 dMe_multiply_47 ⟨(h.2.2 c1).1, L_aload_n dMe_multiply_48 rfl (L_getF (b := 73) fw_Me_24 rfl rfl (by decide) dMe_multiply_49 ⟨ob_68, L_iload dMe_multiply_52 rfl (L_iconst dMe_multiply_54 in_5 (L_imul dMe_multiply_55 (L_iload_n dMe_multiply_56 rfl (L_iadd dMe_multiply_57 (L_ialoadL kd_73 dMe_multiply_58 ⟨(h.2.2 c1).2.1, L_imul dMe_multiply_59 (L_iadd dMe_multiply_60 (L_istore dMe_multiply_61 (by decide) (L_iinc dMe_multiply_63 rfl (by decide) (L_goto dMe_multiply_66 (by decide) ((h.2.2 c1).2.2)))))⟩)))))⟩)⟩)))))⟩))⟩⟩))
theorem dMe_derivationSize_0 : decode prog_6_method_6_code 0 = .ok (.aload_n 1, 1) := by decide +kernel
theorem dMe_derivationSize_1 : decode prog_6_method_6_code 1 = .ok (.getfield 39, 3) := by decide +kernel
theorem dMe_derivationSize_4 : decode prog_6_method_6_code 4 = .ok (.istore_n 2, 1) := by decide +kernel
theorem dMe_derivationSize_5 : decode prog_6_method_6_code 5 = .ok (.aload_n 0, 1) := by decide +kernel
theorem dMe_derivationSize_6 : decode prog_6_method_6_code 6 = .ok (.getfield 14, 3) := by decide +kernel
theorem dMe_derivationSize_9 : decode prog_6_method_6_code 9 = .ok (.aload_n 1, 1) := by decide +kernel
theorem dMe_derivationSize_10 : decode prog_6_method_6_code 10 = .ok (.getfield 49, 3) := by decide +kernel
theorem dMe_derivationSize_13 : decode prog_6_method_6_code 13 = .ok (.iload_n 2, 1) := by decide +kernel
theorem dMe_derivationSize_14 : decode prog_6_method_6_code 14 = .ok (.iload_n 2, 1) := by decide +kernel
theorem dMe_derivationSize_15 : decode prog_6_method_6_code 15 = .ok (.imul, 1) := by decide +kernel
theorem dMe_derivationSize_16 : decode prog_6_method_6_code 16 = .ok (.invokevirtual 81, 3) := by decide +kernel
theorem dMe_derivationSize_19 : decode prog_6_method_6_code 19 = .ok (.iconst 0, 1) := by decide +kernel
theorem dMe_derivationSize_20 : decode prog_6_method_6_code 20 = .ok (.istore_n 3, 1) := by decide +kernel
theorem dMe_derivationSize_21 : decode prog_6_method_6_code 21 = .ok (.iload_n 3, 1) := by decide +kernel
theorem dMe_derivationSize_22 : decode prog_6_method_6_code 22 = .ok (.iload_n 2, 1) := by decide +kernel
theorem dMe_derivationSize_23 : decode prog_6_method_6_code 23 = .ok (.if_icmp .ge 51, 3) := by decide +kernel
theorem dMe_derivationSize_26 : decode prog_6_method_6_code 26 = .ok (.iload_n 3, 1) := by decide +kernel
theorem dMe_derivationSize_27 : decode prog_6_method_6_code 27 = .ok (.iconst 1, 1) := by decide +kernel
theorem dMe_derivationSize_28 : decode prog_6_method_6_code 28 = .ok (.iadd, 1) := by decide +kernel
theorem dMe_derivationSize_29 : decode prog_6_method_6_code 29 = .ok (.istore 4, 2) := by decide +kernel
theorem dMe_derivationSize_31 : decode prog_6_method_6_code 31 = .ok (.iload 4, 2) := by decide +kernel
theorem dMe_derivationSize_33 : decode prog_6_method_6_code 33 = .ok (.iload_n 2, 1) := by decide +kernel
theorem dMe_derivationSize_34 : decode prog_6_method_6_code 34 = .ok (.if_icmp .ge 34, 3) := by decide +kernel
theorem dMe_derivationSize_37 : decode prog_6_method_6_code 37 = .ok (.iconst 0, 1) := by decide +kernel
theorem dMe_derivationSize_38 : decode prog_6_method_6_code 38 = .ok (.istore 5, 2) := by decide +kernel
theorem dMe_derivationSize_40 : decode prog_6_method_6_code 40 = .ok (.iload 5, 2) := by decide +kernel
theorem dMe_derivationSize_42 : decode prog_6_method_6_code 42 = .ok (.iload_n 2, 1) := by decide +kernel
theorem dMe_derivationSize_43 : decode prog_6_method_6_code 43 = .ok (.if_icmp .ge 19, 3) := by decide +kernel
theorem dMe_derivationSize_46 : decode prog_6_method_6_code 46 = .ok (.aload_n 0, 1) := by decide +kernel
theorem dMe_derivationSize_47 : decode prog_6_method_6_code 47 = .ok (.aload_n 1, 1) := by decide +kernel
theorem dMe_derivationSize_48 : decode prog_6_method_6_code 48 = .ok (.iload_n 3, 1) := by decide +kernel
theorem dMe_derivationSize_49 : decode prog_6_method_6_code 49 = .ok (.iload 4, 2) := by decide +kernel
theorem dMe_derivationSize_51 : decode prog_6_method_6_code 51 = .ok (.iload 5, 2) := by decide +kernel
theorem dMe_derivationSize_53 : decode prog_6_method_6_code 53 = .ok (.invokevirtual 85, 3) := by decide +kernel
theorem dMe_derivationSize_56 : decode prog_6_method_6_code 56 = .ok (.iinc 5 1, 3) := by decide +kernel
theorem dMe_derivationSize_59 : decode prog_6_method_6_code 59 = .ok (.goto (-19), 3) := by decide +kernel
theorem dMe_derivationSize_62 : decode prog_6_method_6_code 62 = .ok (.iinc 4 1, 3) := by decide +kernel
theorem dMe_derivationSize_65 : decode prog_6_method_6_code 65 = .ok (.goto (-34), 3) := by decide +kernel
theorem dMe_derivationSize_68 : decode prog_6_method_6_code 68 = .ok (.iinc 3 1, 3) := by decide +kernel
theorem dMe_derivationSize_71 : decode prog_6_method_6_code 71 = .ok (.goto (-50), 3) := by decide +kernel
theorem dMe_derivationSize_74 : decode prog_6_method_6_code 74 = .ok (.iload_n 2, 1) := by decide +kernel
theorem dMe_derivationSize_75 : decode prog_6_method_6_code 75 = .ok (.iload_n 2, 1) := by decide +kernel
theorem dMe_derivationSize_76 : decode prog_6_method_6_code 76 = .ok (.imul, 1) := by decide +kernel
theorem dMe_derivationSize_77 : decode prog_6_method_6_code 77 = .ok (.aload_n 0, 1) := by decide +kernel
theorem dMe_derivationSize_78 : decode prog_6_method_6_code 78 = .ok (.getfield 14, 3) := by decide +kernel
theorem dMe_derivationSize_81 : decode prog_6_method_6_code 81 = .ok (.getfield 89, 3) := by decide +kernel
theorem dMe_derivationSize_84 : decode prog_6_method_6_code 84 = .ok (.isub, 1) := by decide +kernel
theorem dMe_derivationSize_85 : decode prog_6_method_6_code 85 = .ok (.ireturn, 1) := by decide +kernel
theorem t_Me_derivationSize {d : Nat} {x1 : Int} {σ : SG} {Q : Int → SG → Prop} (h : obok 10 x1 ∧ obok 10 x1 ∧ Tri d M_Ec_begin [vA 69, vI (σ x1 1), vI (w32 ((σ x1 2) * (σ x1 2)))] σ (fun r1 σ1 => L (d + 1) M_Me_derivationSize 21 [vA 68, vA x1, vI (σ x1 2), vI 0, vU, vU] [] σ1 Q)) : Tri (d + 1) M_Me_derivationSize [vA 68, vA x1] σ Q :=
  Tri_intro rfl (Nat.le_of_ble_eq_true rfl) (ls := [vA 68, vA x1, vU, vU, vU, vU]) rfl (fun hok => L_aload_n dMe_derivationSize_0 rfl (L_getf fw_Me_39 rfl dMe_derivationSize_1 ⟨h.1, L_istore_n dMe_derivationSize_4 (by decide) (L_aload_n dMe_derivationSize_5 rfl (L_getF (b := 69) fw_Me_14 rfl rfl (by decide) dMe_derivationSize_6 ⟨ob_68, L_aload_n dMe_derivationSize_9 rfl (L_getf fw_Me_49 rfl dMe_derivationSize_10 ⟨h.2.1, L_iload_n dMe_derivationSize_13 rfl (L_iload_n dMe_derivationSize_14 rfl (L_imul dMe_derivationSize_15 (L_callVV rfl cv_Ec_begin (As := [vI (σ x1 1), vI (w32 ((σ x1 2) * (σ x1 2)))]) rfl (tk5 121 rfl rfl) rfl (Nat.le_of_ble_eq_true rfl) dMe_derivationSize_16 ⟨ob_69, Tri.mono (h.2.2) (fun r1 σ1 q1 => L_iconst dMe_derivationSize_19 in_0 (L_istore_n dMe_derivationSize_20 (by decide) q1))⟩)))⟩)⟩))⟩))
theorem s_Me_derivationSize_21 {d : Nat} {x1 x2 x3 : Int} {σ : SG} {Q : Int → SG → Prop} (h : (x2 ≤ x3 → Q (w32 ((w32 (x2 * x2)) - (σ 69 5))) σ) ∧ (x3 < x2 → L (d + 1) M_Me_derivationSize 31 [vA 68, vA x1, vI x2, vI x3, vI (w32 (x3 + 1)), vU] [] σ Q)) : L (d + 1) M_Me_derivationSize 21 [vA 68, vA x1, vI x2, vI x3, vU, vU] [] σ Q :=
  L_iload_n dMe_derivationSize_21 rfl (L_iload_n dMe_derivationSize_22 rfl (L_icmp_ge dMe_derivationSize_23 (by decide) ⟨fun c1 => L_iload_n dMe_derivationSize_74 rfl (L_iload_n dMe_derivationSize_75 rfl (L_imul dMe_derivationSize_76 (L_aload_n dMe_derivationSize_77 rfl (L_getF (b := 69) fw_Me_14 rfl rfl (by decide) dMe_derivationSize_78 ⟨ob_68, L_getf fw_Me_89 rfl dMe_derivationSize_81 ⟨ob_69, L_isub dMe_derivationSize_84 (L_ireturn rfl dMe_derivationSize_85 (h.1 c1))⟩⟩)))), fun c1 => L_iload_n dMe_derivationSize_26 rfl (L_iconst dMe_derivationSize_27 in_1 (L_iadd dMe_derivationSize_28 (L_istore dMe_derivationSize_29 (by decide) (h.2 c1))))⟩))
theorem s_Me_derivationSize_31 {d : Nat} {x1 x2 x3 x4 : Int} {σ : SG} {Q : Int → SG → Prop} (h : (x2 ≤ x4 → L (d + 1) M_Me_derivationSize 21 [vA 68, vA x1, vI x2, vI (w32 (x3 + 1)), vU, vU] [] σ Q) ∧ (x4 < x2 → L (d + 1) M_Me_derivationSize 40 [vA 68, vA x1, vI x2, vI x3, vI x4, vI 0] [] σ Q)) : L (d + 1) M_Me_derivationSize 31 [vA 68, vA x1, vI x2, vI x3, vI x4, vU] [] σ Q :=
  L_iload dMe_derivationSize_31 rfl (L_iload_n dMe_derivationSize_33 rfl (L_icmp_ge dMe_derivationSize_34 (by decide) ⟨fun c1 => L_iinc dMe_derivationSize_68 rfl (by decide) (L_goto dMe_derivationSize_71 (by decide) (L_weak [true, true, true, true, false, true] (h.1 c1))), fun c1 => L_iconst dMe_derivationSize_37 in_0 (L_istore dMe_derivationSize_38 (by decide) (h.2 c1))⟩))
theorem s_Me_derivationSize_40 {d : Nat} {x1 x2 x3 x4 x5 : Int} {σ : SG} {Q : Int → SG → Prop} (h : (x2 ≤ x5 → L (d + 1) M_Me_derivationSize 31 [vA 68, vA x1, vI x2, vI x3, vI (w32 (x4 + 1)), vU] [] σ Q) ∧ (x5 < x2 → Tri d M_Me_bindDerivation [vA 68, vA x1, vI x3, vI x4, vI x5] σ (fun r2 σ2 => L (d + 1) M_Me_derivationSize 40 [vA 68, vA x1, vI x2, vI x3, vI x4, vI (w32 (x5 + 1))] [] σ2 Q))) : L (d + 1) M_Me_derivationSize 40 [vA 68, vA x1, vI x2, vI x3, vI x4, vI x5] [] σ Q :=
  L_iload dMe_derivationSize_40 rfl (L_iload_n dMe_derivationSize_42 rfl (L_icmp_ge dMe_derivationSize_43 (by decide) ⟨fun c1 => L_iinc dMe_derivationSize_62 rfl (by decide) (L_goto dMe_derivationSize_65 (by decide) (L_weak [true, true, true, true, true, false] (h.1 c1))), fun c1 => L_aload_n dMe_derivationSize_46 rfl (L_aload_n dMe_derivationSize_47 rfl (L_iload_n dMe_derivationSize_48 rfl (L_iload dMe_derivationSize_49 rfl (L_iload dMe_derivationSize_51 rfl (L_callVV rfl cv_Me_bindDerivation (As := [vA x1, vI x3, vI x4, vI x5]) rfl (tk5 122 rfl rfl) rfl (Nat.le_of_ble_eq_true rfl) dMe_derivationSize_53 ⟨ob_68, Tri.mono (h.2 c1) (fun r2 σ2 q2 => L_iinc dMe_derivationSize_56 rfl (by decide) (L_goto dMe_derivationSize_59 (by decide) q2))⟩)))))⟩))
theorem dMe_bindDerivation_0 : decode prog_6_method_7_code 0 = .ok (.aload_n 1, 1) := by decide +kernel
theorem dMe_bindDerivation_1 : decode prog_6_method_7_code 1 = .ok (.getfield 39, 3) := by decide +kernel
theorem dMe_bindDerivation_4 : decode prog_6_method_7_code 4 = .ok (.istore 5, 2) := by decide +kernel
theorem dMe_bindDerivation_6 : decode prog_6_method_7_code 6 = .ok (.aload_n 0, 1) := by decide +kernel
theorem dMe_bindDerivation_7 : decode prog_6_method_7_code 7 = .ok (.getfield 20, 3) := by decide +kernel
theorem dMe_bindDerivation_10 : decode prog_6_method_7_code 10 = .ok (.iconst 0, 1) := by decide +kernel
theorem dMe_bindDerivation_11 : decode prog_6_method_7_code 11 = .ok (.invokestatic 92, 3) := by decide +kernel
theorem dMe_bindDerivation_14 : decode prog_6_method_7_code 14 = .ok (.iconst 0, 1) := by decide +kernel
theorem dMe_bindDerivation_15 : decode prog_6_method_7_code 15 = .ok (.istore 6, 2) := by decide +kernel
theorem dMe_bindDerivation_17 : decode prog_6_method_7_code 17 = .ok (.iload 6, 2) := by decide +kernel
theorem dMe_bindDerivation_19 : decode prog_6_method_7_code 19 = .ok (.iload 5, 2) := by decide +kernel
theorem dMe_bindDerivation_21 : decode prog_6_method_7_code 21 = .ok (.if_icmp .ge 81, 3) := by decide +kernel
theorem dMe_bindDerivation_24 : decode prog_6_method_7_code 24 = .ok (.aload_n 0, 1) := by decide +kernel
theorem dMe_bindDerivation_25 : decode prog_6_method_7_code 25 = .ok (.getfield 20, 3) := by decide +kernel
theorem dMe_bindDerivation_28 : decode prog_6_method_7_code 28 = .ok (.iload 6, 2) := by decide +kernel
theorem dMe_bindDerivation_30 : decode prog_6_method_7_code 30 = .ok (.iload 5, 2) := by decide +kernel
theorem dMe_bindDerivation_32 : decode prog_6_method_7_code 32 = .ok (.imul, 1) := by decide +kernel
theorem dMe_bindDerivation_33 : decode prog_6_method_7_code 33 = .ok (.iload 4, 2) := by decide +kernel
theorem dMe_bindDerivation_35 : decode prog_6_method_7_code 35 = .ok (.iadd, 1) := by decide +kernel
theorem dMe_bindDerivation_36 : decode prog_6_method_7_code 36 = .ok (.dup2, 1) := by decide +kernel
theorem dMe_bindDerivation_37 : decode prog_6_method_7_code 37 = .ok (.iaload, 1) := by decide +kernel
theorem dMe_bindDerivation_38 : decode prog_6_method_7_code 38 = .ok (.aload_n 1, 1) := by decide +kernel
theorem dMe_bindDerivation_39 : decode prog_6_method_7_code 39 = .ok (.iload_n 2, 1) := by decide +kernel
theorem dMe_bindDerivation_40 : decode prog_6_method_7_code 40 = .ok (.iload_n 3, 1) := by decide +kernel
theorem dMe_bindDerivation_41 : decode prog_6_method_7_code 41 = .ok (.iload 6, 2) := by decide +kernel
theorem dMe_bindDerivation_43 : decode prog_6_method_7_code 43 = .ok (.invokevirtual 45, 3) := by decide +kernel
theorem dMe_bindDerivation_46 : decode prog_6_method_7_code 46 = .ok (.iadd, 1) := by decide +kernel
theorem dMe_bindDerivation_47 : decode prog_6_method_7_code 47 = .ok (.iastore, 1) := by decide +kernel
theorem dMe_bindDerivation_48 : decode prog_6_method_7_code 48 = .ok (.aload_n 0, 1) := by decide +kernel
theorem dMe_bindDerivation_49 : decode prog_6_method_7_code 49 = .ok (.getfield 20, 3) := by decide +kernel
theorem dMe_bindDerivation_52 : decode prog_6_method_7_code 52 = .ok (.iload_n 2, 1) := by decide +kernel
theorem dMe_bindDerivation_53 : decode prog_6_method_7_code 53 = .ok (.iload 5, 2) := by decide +kernel
theorem dMe_bindDerivation_55 : decode prog_6_method_7_code 55 = .ok (.imul, 1) := by decide +kernel
theorem dMe_bindDerivation_56 : decode prog_6_method_7_code 56 = .ok (.iload 6, 2) := by decide +kernel
theorem dMe_bindDerivation_58 : decode prog_6_method_7_code 58 = .ok (.iadd, 1) := by decide +kernel
theorem dMe_bindDerivation_59 : decode prog_6_method_7_code 59 = .ok (.dup2, 1) := by decide +kernel
theorem dMe_bindDerivation_60 : decode prog_6_method_7_code 60 = .ok (.iaload, 1) := by decide +kernel
theorem dMe_bindDerivation_61 : decode prog_6_method_7_code 61 = .ok (.aload_n 1, 1) := by decide +kernel
theorem dMe_bindDerivation_62 : decode prog_6_method_7_code 62 = .ok (.iload 6, 2) := by decide +kernel
theorem dMe_bindDerivation_64 : decode prog_6_method_7_code 64 = .ok (.iload_n 3, 1) := by decide +kernel
theorem dMe_bindDerivation_65 : decode prog_6_method_7_code 65 = .ok (.iload 4, 2) := by decide +kernel
theorem dMe_bindDerivation_67 : decode prog_6_method_7_code 67 = .ok (.invokevirtual 45, 3) := by decide +kernel
theorem dMe_bindDerivation_70 : decode prog_6_method_7_code 70 = .ok (.isub, 1) := by decide +kernel
theorem dMe_bindDerivation_71 : decode prog_6_method_7_code 71 = .ok (.iastore, 1) := by decide +kernel
theorem dMe_bindDerivation_72 : decode prog_6_method_7_code 72 = .ok (.aload_n 0, 1) := by decide +kernel
theorem dMe_bindDerivation_73 : decode prog_6_method_7_code 73 = .ok (.getfield 20, 3) := by decide +kernel
theorem dMe_bindDerivation_76 : decode prog_6_method_7_code 76 = .ok (.iload_n 3, 1) := by decide +kernel
theorem dMe_bindDerivation_77 : decode prog_6_method_7_code 77 = .ok (.iload 5, 2) := by decide +kernel
theorem dMe_bindDerivation_79 : decode prog_6_method_7_code 79 = .ok (.imul, 1) := by decide +kernel
theorem dMe_bindDerivation_80 : decode prog_6_method_7_code 80 = .ok (.iload 6, 2) := by decide +kernel
theorem dMe_bindDerivation_82 : decode prog_6_method_7_code 82 = .ok (.iadd, 1) := by decide +kernel
theorem dMe_bindDerivation_83 : decode prog_6_method_7_code 83 = .ok (.dup2, 1) := by decide +kernel
theorem dMe_bindDerivation_84 : decode prog_6_method_7_code 84 = .ok (.iaload, 1) := by decide +kernel
theorem dMe_bindDerivation_85 : decode prog_6_method_7_code 85 = .ok (.aload_n 1, 1) := by decide +kernel
theorem dMe_bindDerivation_86 : decode prog_6_method_7_code 86 = .ok (.iload_n 2, 1) := by decide +kernel
theorem dMe_bindDerivation_87 : decode prog_6_method_7_code 87 = .ok (.iload 6, 2) := by decide +kernel
theorem dMe_bindDerivation_89 : decode prog_6_method_7_code 89 = .ok (.iload 4, 2) := by decide +kernel
theorem dMe_bindDerivation_91 : decode prog_6_method_7_code 91 = .ok (.invokevirtual 45, 3) := by decide +kernel
theorem dMe_bindDerivation_94 : decode prog_6_method_7_code 94 = .ok (.isub, 1) := by decide +kernel
theorem dMe_bindDerivation_95 : decode prog_6_method_7_code 95 = .ok (.iastore, 1) := by decide +kernel
theorem dMe_bindDerivation_96 : decode prog_6_method_7_code 96 = .ok (.iinc 6 1, 3) := by decide +kernel
theorem dMe_bindDerivation_99 : decode prog_6_method_7_code 99 = .ok (.goto (-82), 3) := by decide +kernel
theorem dMe_bindDerivation_102 : decode prog_6_method_7_code 102 = .ok (.iconst 0, 1) := by decide +kernel
theorem dMe_bindDerivation_103 : decode prog_6_method_7_code 103 = .ok (.istore 6, 2) := by decide +kernel
theorem dMe_bindDerivation_105 : decode prog_6_method_7_code 105 = .ok (.iload 6, 2) := by decide +kernel
theorem dMe_bindDerivation_107 : decode prog_6_method_7_code 107 = .ok (.iload 5, 2) := by decide +kernel
theorem dMe_bindDerivation_109 : decode prog_6_method_7_code 109 = .ok (.iload 5, 2) := by decide +kernel
theorem dMe_bindDerivation_111 : decode prog_6_method_7_code 111 = .ok (.imul, 1) := by decide +kernel
theorem dMe_bindDerivation_112 : decode prog_6_method_7_code 112 = .ok (.if_icmp .ge 30, 3) := by decide +kernel
theorem dMe_bindDerivation_115 : decode prog_6_method_7_code 115 = .ok (.aload_n 0, 1) := by decide +kernel
theorem dMe_bindDerivation_116 : decode prog_6_method_7_code 116 = .ok (.getfield 20, 3) := by decide +kernel
theorem dMe_bindDerivation_119 : decode prog_6_method_7_code 119 = .ok (.iload 6, 2) := by decide +kernel
theorem dMe_bindDerivation_121 : decode prog_6_method_7_code 121 = .ok (.aload_n 0, 1) := by decide +kernel
theorem dMe_bindDerivation_122 : decode prog_6_method_7_code 122 = .ok (.getfield 20, 3) := by decide +kernel
theorem dMe_bindDerivation_125 : decode prog_6_method_7_code 125 = .ok (.iload 6, 2) := by decide +kernel
theorem dMe_bindDerivation_127 : decode prog_6_method_7_code 127 = .ok (.iaload, 1) := by decide +kernel
theorem dMe_bindDerivation_128 : decode prog_6_method_7_code 128 = .ok (.aload_n 1, 1) := by decide +kernel
theorem dMe_bindDerivation_129 : decode prog_6_method_7_code 129 = .ok (.getfield 49, 3) := by decide +kernel
theorem dMe_bindDerivation_132 : decode prog_6_method_7_code 132 = .ok (.invokestatic 52, 3) := by decide +kernel
theorem dMe_bindDerivation_135 : decode prog_6_method_7_code 135 = .ok (.iastore, 1) := by decide +kernel
theorem dMe_bindDerivation_136 : decode prog_6_method_7_code 136 = .ok (.iinc 6 1, 3) := by decide +kernel
theorem dMe_bindDerivation_139 : decode prog_6_method_7_code 139 = .ok (.goto (-34), 3) := by decide +kernel
theorem dMe_bindDerivation_142 : decode prog_6_method_7_code 142 = .ok (.aload_n 0, 1) := by decide +kernel
theorem dMe_bindDerivation_143 : decode prog_6_method_7_code 143 = .ok (.getfield 14, 3) := by decide +kernel
theorem dMe_bindDerivation_146 : decode prog_6_method_7_code 146 = .ok (.aload_n 0, 1) := by decide +kernel
theorem dMe_bindDerivation_147 : decode prog_6_method_7_code 147 = .ok (.getfield 20, 3) := by decide +kernel
theorem dMe_bindDerivation_150 : decode prog_6_method_7_code 150 = .ok (.iconst 0, 1) := by decide +kernel
theorem dMe_bindDerivation_151 : decode prog_6_method_7_code 151 = .ok (.invokevirtual 98, 3) := by decide +kernel
theorem dMe_bindDerivation_154 : decode prog_6_method_7_code 154 = .ok (.pop, 1) := by decide +kernel
theorem dMe_bindDerivation_155 : decode prog_6_method_7_code 155 = .ok (.return_, 1) := by decide +kernel
theorem t_Me_bindDerivation {d : Nat} {x1 x2 x3 x4 : Int} {σ : SG} {Q : Int → SG → Prop} (h : inI x2 → inI x3 → inI x4 → (obok 10 x1 ∧ Tri d M_JA_fill___II_V [vA 72, vI 0] σ (fun r1 σ1 => L (d + 1) M_Me_bindDerivation 17 [vA 68, vA x1, vI x2, vI x3, vI x4, vI (σ x1 2), vI 0] [] σ1 Q))) : Tri (d + 1) M_Me_bindDerivation [vA 68, vA x1, vI x2, vI x3, vI x4] σ Q :=
  Tri_intro rfl (Nat.le_of_ble_eq_true rfl) (ls := [vA 68, vA x1, vI x2, vI x3, vI x4, vU, vU]) rfl (fun hok => L_aload_n dMe_bindDerivation_0 rfl (L_getf fw_Me_39 rfl dMe_bindDerivation_1 ⟨(h (hok _ (List.mem_of_getElem? (i := 2) rfl)) (hok _ (List.mem_of_getElem? (i := 3) rfl)) (hok _ (List.mem_of_getElem? (i := 4) rfl))).1, L_istore dMe_bindDerivation_4 (by decide) (L_aload_n dMe_bindDerivation_6 rfl (L_getF (b := 72) fw_Me_20 rfl rfl (by decide) dMe_bindDerivation_7 ⟨ob_68, L_iconst dMe_bindDerivation_10 in_0 (L_callSV rfl cs_JA_fill___II_V (As := [vA 72, vI 0]) rfl (tk5 126 rfl rfl) rfl (Nat.le_of_ble_eq_true rfl) dMe_bindDerivation_11 (Tri.mono ((h (hok _ (List.mem_of_getElem? (i := 2) rfl)) (hok _ (List.mem_of_getElem? (i := 3) rfl)) (hok _ (List.mem_of_getElem? (i := 4) rfl))).2) (fun r1 σ1 q1 => L_iconst dMe_bindDerivation_14 in_0 (L_istore dMe_bindDerivation_15 (by decide) q1))))⟩))⟩))
theorem s_Me_bindDerivation_17 {d : Nat} {x1 x2 x3 x4 x5 x6 : Int} {σ : SG} {Q : Int → SG → Prop} (h : (x5 ≤ x6 → L (d + 1) M_Me_bindDerivation 105 [vA 68, vA x1, vU, vU, vU, vI x5, vI 0] [] σ Q) ∧ (x6 < x5 → (0 ≤ w32 ((w32 (x6 * x5)) + x4) ∧ w32 ((w32 (x6 * x5)) + x4) < 25) ∧ obok 10 x1 ∧ Tri d M_Wd_cell [vA x1, vI x2, vI x3, vI x6] σ (fun r2 σ2 => (0 ≤ w32 ((w32 (x6 * x5)) + x4) ∧ w32 ((w32 (x6 * x5)) + x4) < 25) ∧ (∀ σ3, σ3 = up σ2 72 (w32 ((w32 (x6 * x5)) + x4)) (w32 ((σ 72 (w32 ((w32 (x6 * x5)) + x4))) + r2)) → (0 ≤ w32 ((w32 (x2 * x5)) + x6) ∧ w32 ((w32 (x2 * x5)) + x6) < 25) ∧ obok 10 x1 ∧ Tri d M_Wd_cell [vA x1, vI x6, vI x3, vI x4] σ3 (fun r4 σ4 => (0 ≤ w32 ((w32 (x2 * x5)) + x6) ∧ w32 ((w32 (x2 * x5)) + x6) < 25) ∧ (∀ σ5, σ5 = up σ4 72 (w32 ((w32 (x2 * x5)) + x6)) (w32 ((σ3 72 (w32 ((w32 (x2 * x5)) + x6))) - r4)) → (0 ≤ w32 ((w32 (x3 * x5)) + x6) ∧ w32 ((w32 (x3 * x5)) + x6) < 25) ∧ obok 10 x1 ∧ Tri d M_Wd_cell [vA x1, vI x2, vI x6, vI x4] σ5 (fun r6 σ6 => (0 ≤ w32 ((w32 (x3 * x5)) + x6) ∧ w32 ((w32 (x3 * x5)) + x6) < 25) ∧ (∀ σ7, σ7 = up σ6 72 (w32 ((w32 (x3 * x5)) + x6)) (w32 ((σ5 72 (w32 ((w32 (x3 * x5)) + x6))) - r6)) → L (d + 1) M_Me_bindDerivation 17 [vA 68, vA x1, vI x2, vI x3, vI x4, vI x5, vI (w32 (x6 + 1))] [] σ7 Q)))))))) : L (d + 1) M_Me_bindDerivation 17 [vA 68, vA x1, vI x2, vI x3, vI x4, vI x5, vI x6] [] σ Q :=
  L_iload dMe_bindDerivation_17 rfl (L_iload dMe_bindDerivation_19 rfl (L_icmp_ge dMe_bindDerivation_21 (by decide) ⟨fun c1 => L_iconst dMe_bindDerivation_102 in_0 (L_istore dMe_bindDerivation_103 (by decide) (L_weak [true, true, false, false, false, true, true] (h.1 c1))), fun c1 => L_aload_n dMe_bindDerivation_24 rfl (L_getF (b := 72) fw_Me_20 rfl rfl (by decide) dMe_bindDerivation_25 ⟨ob_68, L_iload dMe_bindDerivation_28 rfl (L_iload dMe_bindDerivation_30 rfl (L_imul dMe_bindDerivation_32 (L_iload dMe_bindDerivation_33 rfl (L_iadd dMe_bindDerivation_35 (L_dup2 dMe_bindDerivation_36 n01 n21 (L_ialoadL kd_72 dMe_bindDerivation_37 ⟨(h.2 c1).1, L_aload_n dMe_bindDerivation_38 rfl (L_iload_n dMe_bindDerivation_39 rfl (L_iload_n dMe_bindDerivation_40 rfl (L_iload dMe_bindDerivation_41 rfl (L_callVI rfl cv_Wd_cell (As := [vI x2, vI x3, vI x6]) rfl (tk5 16 rfl rfl) rfl (Nat.le_of_ble_eq_true rfl) dMe_bindDerivation_43 ⟨(h.2 c1).2.1, Tri.mono ((h.2 c1).2.2) (fun r2 σ2 q2 => L_iadd dMe_bindDerivation_46 (L_iastoreL (by decide) kd_72 dMe_bindDerivation_47 ⟨q2.1, fun σ3 e3 => L_aload_n dMe_bindDerivation_48 rfl (L_getF (b := 72) fw_Me_20 rfl rfl (by decide) dMe_bindDerivation_49 ⟨ob_68, L_iload_n dMe_bindDerivation_52 rfl (L_iload dMe_bindDerivation_53 rfl (L_imul dMe_bindDerivation_55 (L_iload dMe_bindDerivation_56 rfl (L_iadd dMe_bindDerivation_58 (L_dup2 dMe_bindDerivation_59 n01 n21 (L_ialoadL kd_72 dMe_bindDerivation_60 ⟨(q2.2 σ3 e3).1, L_aload_n dMe_bindDerivation_61 rfl (L_iload dMe_bindDerivation_62 rfl (L_iload_n dMe_bindDerivation_64 rfl (L_iload dMe_bindDerivation_65 rfl (L_callVI rfl cv_Wd_cell (As := [vI x6, vI x3, vI x4]) rfl (tk5 16 rfl rfl) rfl (Nat.le_of_ble_eq_true rfl) dMe_bindDerivation_67 ⟨(q2.2 σ3 e3).2.1, Tri.mono ((q2.2 σ3 e3).2.2) (fun r4 σ4 q4 => L_isub dMe_bindDerivation_70 (L_iastoreL (by decide) kd_72 dMe_bindDerivation_71 ⟨q4.1, fun σ5 e5 => L_aload_n dMe_bindDerivation_72 rfl (L_getF (b := 72) fw_Me_20 rfl rfl (by decide) dMe_bindDerivation_73 ⟨ob_68, L_iload_n dMe_bindDerivation_76 rfl (L_iload dMe_bindDerivation_77 rfl (L_imul dMe_bindDerivation_79 (L_iload dMe_bindDerivation_80 rfl (L_iadd dMe_bindDerivation_82 (L_dup2 dMe_bindDerivation_83 n01 n21 (L_ialoadL kd_72 dMe_bindDerivation_84 ⟨(q4.2 σ5 e5).1, L_aload_n dMe_bindDerivation_85 rfl (L_iload_n dMe_bindDerivation_86 rfl (L_iload dMe_bindDerivation_87 rfl (L_iload dMe_bindDerivation_89 rfl (L_callVI rfl cv_Wd_cell (As := [vI x2, vI x6, vI x4]) rfl (tk5 16 rfl rfl) rfl (Nat.le_of_ble_eq_true rfl) dMe_bindDerivation_91 ⟨(q4.2 σ5 e5).2.1, Tri.mono ((q4.2 σ5 e5).2.2) (fun r6 σ6 q6 => L_isub dMe_bindDerivation_94 (L_iastoreL (by decide) kd_72 dMe_bindDerivation_95 ⟨q6.1, fun σ7 e7 => L_iinc dMe_bindDerivation_96 rfl (by decide) (L_goto dMe_bindDerivation_99 (by decide) (q6.2 σ7 e7))⟩))⟩))))⟩))))))⟩)⟩))⟩))))⟩))))))⟩)⟩))⟩))))⟩))))))⟩)⟩))
theorem s_Me_bindDerivation_105 {d : Nat} {x1 x5 x6 : Int} {σ : SG} {Q : Int → SG → Prop} (h : (w32 (x5 * x5) ≤ x6 → Tri d M_Ec_add [vA 69, vA 72, vI 0] σ (fun r2 σ2 => Q 0 σ2)) ∧ (x6 < w32 (x5 * x5) → (0 ≤ x6 ∧ x6 < 25) ∧ obok 10 x1 ∧ Tri d M_X_mod [vI (σ 72 x6), vI (σ x1 1)] σ (fun r3 σ3 => (0 ≤ x6 ∧ x6 < 25) ∧ (∀ σ4, σ4 = up σ3 72 x6 r3 → L (d + 1) M_Me_bindDerivation 105 [vA 68, vA x1, vU, vU, vU, vI x5, vI (w32 (x6 + 1))] [] σ4 Q)))) : L (d + 1) M_Me_bindDerivation 105 [vA 68, vA x1, vU, vU, vU, vI x5, vI x6] [] σ Q :=
  L_iload dMe_bindDerivation_105 rfl (L_iload dMe_bindDerivation_107 rfl (L_iload dMe_bindDerivation_109 rfl (L_imul dMe_bindDerivation_111 (L_icmp_ge dMe_bindDerivation_112 (by decide) ⟨fun c1 => L_aload_n dMe_bindDerivation_142 rfl (L_getF (b := 69) fw_Me_14 rfl rfl (by decide) dMe_bindDerivation_143 ⟨ob_68, L_aload_n dMe_bindDerivation_146 rfl (L_getF (b := 72) fw_Me_20 rfl rfl (by decide) dMe_bindDerivation_147 ⟨ob_68, L_iconst dMe_bindDerivation_150 in_0 (L_callVI rfl cv_Ec_add (As := [vA 72, vI 0]) rfl (tk5 127 rfl rfl) rfl (Nat.le_of_ble_eq_true rfl) dMe_bindDerivation_151 ⟨ob_69, Tri.mono (h.1 c1) (fun r2 σ2 q2 => L_pop dMe_bindDerivation_154 n01 (L_return rfl dMe_bindDerivation_155 q2))⟩)⟩)⟩), fun c1 => L_aload_n dMe_bindDerivation_115 rfl (L_getF (b := 72) fw_Me_20 rfl rfl (by decide) dMe_bindDerivation_116 ⟨ob_68, L_iload dMe_bindDerivation_119 rfl (L_aload_n dMe_bindDerivation_121 rfl (L_getF (b := 72) fw_Me_20 rfl rfl (by decide) dMe_bindDerivation_122 ⟨ob_68, L_iload dMe_bindDerivation_125 rfl (L_ialoadL kd_72 dMe_bindDerivation_127 ⟨(h.2 c1).1, L_aload_n dMe_bindDerivation_128 rfl (L_getf fw_Me_49 rfl dMe_bindDerivation_129 ⟨(h.2 c1).2.1, L_callNI rfl cs_X_mod (As := [vI (σ 72 x6), vI (σ x1 1)]) rfl (by decide +kernel) rfl (Nat.le_of_ble_eq_true rfl) dMe_bindDerivation_132 (Tri.mono ((h.2 c1).2.2) (fun r3 σ3 q3 => L_iastoreL (by decide) kd_72 dMe_bindDerivation_135 ⟨q3.1, fun σ4 e4 => L_iinc dMe_bindDerivation_136 rfl (by decide) (L_goto dMe_bindDerivation_139 (by decide) (q3.2 σ4 e4))⟩))⟩)⟩)⟩))⟩)⟩))))
theorem dMe_formRank_0 : decode prog_6_method_8_code 0 = .ok (.aload_n 1, 1) := by decide +kernel
theorem dMe_formRank_1 : decode prog_6_method_8_code 1 = .ok (.getfield 39, 3) := by decide +kernel
theorem dMe_formRank_4 : decode prog_6_method_8_code 4 = .ok (.istore_n 2, 1) := by decide +kernel
theorem dMe_formRank_5 : decode prog_6_method_8_code 5 = .ok (.aload_n 0, 1) := by decide +kernel
theorem dMe_formRank_6 : decode prog_6_method_8_code 6 = .ok (.getfield 14, 3) := by decide +kernel
theorem dMe_formRank_9 : decode prog_6_method_8_code 9 = .ok (.aload_n 1, 1) := by decide +kernel
theorem dMe_formRank_10 : decode prog_6_method_8_code 10 = .ok (.getfield 49, 3) := by decide +kernel
theorem dMe_formRank_13 : decode prog_6_method_8_code 13 = .ok (.iload_n 2, 1) := by decide +kernel
theorem dMe_formRank_14 : decode prog_6_method_8_code 14 = .ok (.invokevirtual 81, 3) := by decide +kernel
theorem dMe_formRank_17 : decode prog_6_method_8_code 17 = .ok (.iconst 0, 1) := by decide +kernel
theorem dMe_formRank_18 : decode prog_6_method_8_code 18 = .ok (.istore_n 3, 1) := by decide +kernel
theorem dMe_formRank_19 : decode prog_6_method_8_code 19 = .ok (.iload_n 3, 1) := by decide +kernel
theorem dMe_formRank_20 : decode prog_6_method_8_code 20 = .ok (.iload_n 2, 1) := by decide +kernel
theorem dMe_formRank_21 : decode prog_6_method_8_code 21 = .ok (.if_icmp .ge 111, 3) := by decide +kernel
theorem dMe_formRank_24 : decode prog_6_method_8_code 24 = .ok (.iconst 0, 1) := by decide +kernel
theorem dMe_formRank_25 : decode prog_6_method_8_code 25 = .ok (.istore 4, 2) := by decide +kernel
theorem dMe_formRank_27 : decode prog_6_method_8_code 27 = .ok (.iload 4, 2) := by decide +kernel
theorem dMe_formRank_29 : decode prog_6_method_8_code 29 = .ok (.iload_n 2, 1) := by decide +kernel
theorem dMe_formRank_30 : decode prog_6_method_8_code 30 = .ok (.if_icmp .ge 83, 3) := by decide +kernel
theorem dMe_formRank_33 : decode prog_6_method_8_code 33 = .ok (.iconst 0, 1) := by decide +kernel
theorem dMe_formRank_34 : decode prog_6_method_8_code 34 = .ok (.istore 5, 2) := by decide +kernel
theorem dMe_formRank_36 : decode prog_6_method_8_code 36 = .ok (.iconst 0, 1) := by decide +kernel
theorem dMe_formRank_37 : decode prog_6_method_8_code 37 = .ok (.istore 6, 2) := by decide +kernel
theorem dMe_formRank_39 : decode prog_6_method_8_code 39 = .ok (.iload 6, 2) := by decide +kernel
theorem dMe_formRank_41 : decode prog_6_method_8_code 41 = .ok (.iload_n 2, 1) := by decide +kernel
theorem dMe_formRank_42 : decode prog_6_method_8_code 42 = .ok (.if_icmp .ge 49, 3) := by decide +kernel
theorem dMe_formRank_45 : decode prog_6_method_8_code 45 = .ok (.iconst 0, 1) := by decide +kernel
theorem dMe_formRank_46 : decode prog_6_method_8_code 46 = .ok (.istore 7, 2) := by decide +kernel
theorem dMe_formRank_48 : decode prog_6_method_8_code 48 = .ok (.iload 7, 2) := by decide +kernel
theorem dMe_formRank_50 : decode prog_6_method_8_code 50 = .ok (.iload_n 2, 1) := by decide +kernel
theorem dMe_formRank_51 : decode prog_6_method_8_code 51 = .ok (.if_icmp .ge 34, 3) := by decide +kernel
theorem dMe_formRank_54 : decode prog_6_method_8_code 54 = .ok (.iload 5, 2) := by decide +kernel
theorem dMe_formRank_56 : decode prog_6_method_8_code 56 = .ok (.aload_n 1, 1) := by decide +kernel
theorem dMe_formRank_57 : decode prog_6_method_8_code 57 = .ok (.iload_n 3, 1) := by decide +kernel
theorem dMe_formRank_58 : decode prog_6_method_8_code 58 = .ok (.iload 6, 2) := by decide +kernel
theorem dMe_formRank_60 : decode prog_6_method_8_code 60 = .ok (.iload 7, 2) := by decide +kernel
theorem dMe_formRank_62 : decode prog_6_method_8_code 62 = .ok (.invokevirtual 45, 3) := by decide +kernel
theorem dMe_formRank_65 : decode prog_6_method_8_code 65 = .ok (.aload_n 1, 1) := by decide +kernel
theorem dMe_formRank_66 : decode prog_6_method_8_code 66 = .ok (.iload 4, 2) := by decide +kernel
theorem dMe_formRank_68 : decode prog_6_method_8_code 68 = .ok (.iload 7, 2) := by decide +kernel
theorem dMe_formRank_70 : decode prog_6_method_8_code 70 = .ok (.iload 6, 2) := by decide +kernel
theorem dMe_formRank_72 : decode prog_6_method_8_code 72 = .ok (.invokevirtual 45, 3) := by decide +kernel
theorem dMe_formRank_75 : decode prog_6_method_8_code 75 = .ok (.imul, 1) := by decide +kernel
theorem dMe_formRank_76 : decode prog_6_method_8_code 76 = .ok (.iadd, 1) := by decide +kernel
theorem dMe_formRank_77 : decode prog_6_method_8_code 77 = .ok (.istore 5, 2) := by decide +kernel
theorem dMe_formRank_79 : decode prog_6_method_8_code 79 = .ok (.iinc 7 1, 3) := by decide +kernel
theorem dMe_formRank_82 : decode prog_6_method_8_code 82 = .ok (.goto (-34), 3) := by decide +kernel
theorem dMe_formRank_85 : decode prog_6_method_8_code 85 = .ok (.iinc 6 1, 3) := by decide +kernel
theorem dMe_formRank_88 : decode prog_6_method_8_code 88 = .ok (.goto (-49), 3) := by decide +kernel
theorem dMe_formRank_91 : decode prog_6_method_8_code 91 = .ok (.aload_n 0, 1) := by decide +kernel
theorem dMe_formRank_92 : decode prog_6_method_8_code 92 = .ok (.getfield 20, 3) := by decide +kernel
theorem dMe_formRank_95 : decode prog_6_method_8_code 95 = .ok (.iload 4, 2) := by decide +kernel
theorem dMe_formRank_97 : decode prog_6_method_8_code 97 = .ok (.iload 5, 2) := by decide +kernel
theorem dMe_formRank_99 : decode prog_6_method_8_code 99 = .ok (.aload_n 1, 1) := by decide +kernel
theorem dMe_formRank_100 : decode prog_6_method_8_code 100 = .ok (.getfield 49, 3) := by decide +kernel
theorem dMe_formRank_103 : decode prog_6_method_8_code 103 = .ok (.invokestatic 52, 3) := by decide +kernel
theorem dMe_formRank_106 : decode prog_6_method_8_code 106 = .ok (.iastore, 1) := by decide +kernel
theorem dMe_formRank_107 : decode prog_6_method_8_code 107 = .ok (.iinc 4 1, 3) := by decide +kernel
theorem dMe_formRank_110 : decode prog_6_method_8_code 110 = .ok (.goto (-83), 3) := by decide +kernel
theorem dMe_formRank_113 : decode prog_6_method_8_code 113 = .ok (.aload_n 0, 1) := by decide +kernel
theorem dMe_formRank_114 : decode prog_6_method_8_code 114 = .ok (.getfield 14, 3) := by decide +kernel
theorem dMe_formRank_117 : decode prog_6_method_8_code 117 = .ok (.aload_n 0, 1) := by decide +kernel
theorem dMe_formRank_118 : decode prog_6_method_8_code 118 = .ok (.getfield 20, 3) := by decide +kernel
theorem dMe_formRank_121 : decode prog_6_method_8_code 121 = .ok (.iconst 0, 1) := by decide +kernel
theorem dMe_formRank_122 : decode prog_6_method_8_code 122 = .ok (.invokevirtual 98, 3) := by decide +kernel
theorem dMe_formRank_125 : decode prog_6_method_8_code 125 = .ok (.pop, 1) := by decide +kernel
theorem dMe_formRank_126 : decode prog_6_method_8_code 126 = .ok (.iinc 3 1, 3) := by decide +kernel
theorem dMe_formRank_129 : decode prog_6_method_8_code 129 = .ok (.goto (-110), 3) := by decide +kernel
theorem dMe_formRank_132 : decode prog_6_method_8_code 132 = .ok (.aload_n 0, 1) := by decide +kernel
theorem dMe_formRank_133 : decode prog_6_method_8_code 133 = .ok (.getfield 14, 3) := by decide +kernel
theorem dMe_formRank_136 : decode prog_6_method_8_code 136 = .ok (.getfield 89, 3) := by decide +kernel
theorem dMe_formRank_139 : decode prog_6_method_8_code 139 = .ok (.ireturn, 1) := by decide +kernel
theorem t_Me_formRank {d : Nat} {x1 : Int} {σ : SG} {Q : Int → SG → Prop} (h : obok 10 x1 ∧ obok 10 x1 ∧ Tri d M_Ec_begin [vA 69, vI (σ x1 1), vI (σ x1 2)] σ (fun r1 σ1 => L (d + 1) M_Me_formRank 19 [vA 68, vA x1, vI (σ x1 2), vI 0, vU, vU, vU, vU] [] σ1 Q)) : Tri (d + 1) M_Me_formRank [vA 68, vA x1] σ Q :=
  Tri_intro rfl (Nat.le_of_ble_eq_true rfl) (ls := [vA 68, vA x1, vU, vU, vU, vU, vU, vU]) rfl (fun hok => L_aload_n dMe_formRank_0 rfl (L_getf fw_Me_39 rfl dMe_formRank_1 ⟨h.1, L_istore_n dMe_formRank_4 (by decide) (L_aload_n dMe_formRank_5 rfl (L_getF (b := 69) fw_Me_14 rfl rfl (by decide) dMe_formRank_6 ⟨ob_68, L_aload_n dMe_formRank_9 rfl (L_getf fw_Me_49 rfl dMe_formRank_10 ⟨h.2.1, L_iload_n dMe_formRank_13 rfl (L_callVV rfl cv_Ec_begin (As := [vI (σ x1 1), vI (σ x1 2)]) rfl (tk5 121 rfl rfl) rfl (Nat.le_of_ble_eq_true rfl) dMe_formRank_14 ⟨ob_69, Tri.mono (h.2.2) (fun r1 σ1 q1 => L_iconst dMe_formRank_17 in_0 (L_istore_n dMe_formRank_18 (by decide) q1))⟩)⟩)⟩))⟩))
theorem s_Me_formRank_19 {d : Nat} {x1 x2 x3 : Int} {σ : SG} {Q : Int → SG → Prop} (h : (x2 ≤ x3 → Q (σ 69 5) σ) ∧ (x3 < x2 → L (d + 1) M_Me_formRank 27 [vA 68, vA x1, vI x2, vI x3, vI 0, vU, vU, vU] [] σ Q)) : L (d + 1) M_Me_formRank 19 [vA 68, vA x1, vI x2, vI x3, vU, vU, vU, vU] [] σ Q :=
  L_iload_n dMe_formRank_19 rfl (L_iload_n dMe_formRank_20 rfl (L_icmp_ge dMe_formRank_21 (by decide) ⟨fun c1 => L_aload_n dMe_formRank_132 rfl (L_getF (b := 69) fw_Me_14 rfl rfl (by decide) dMe_formRank_133 ⟨ob_68, L_getf fw_Me_89 rfl dMe_formRank_136 ⟨ob_69, L_ireturn rfl dMe_formRank_139 (h.1 c1)⟩⟩), fun c1 => L_iconst dMe_formRank_24 in_0 (L_istore dMe_formRank_25 (by decide) (h.2 c1))⟩))
theorem s_Me_formRank_27 {d : Nat} {x1 x2 x3 x4 : Int} {σ : SG} {Q : Int → SG → Prop} (h : (x2 ≤ x4 → Tri d M_Ec_add [vA 69, vA 72, vI 0] σ (fun r2 σ2 => L (d + 1) M_Me_formRank 19 [vA 68, vA x1, vI x2, vI (w32 (x3 + 1)), vU, vU, vU, vU] [] σ2 Q)) ∧ (x4 < x2 → L (d + 1) M_Me_formRank 39 [vA 68, vA x1, vI x2, vI x3, vI x4, vI 0, vI 0, vU] [] σ Q)) : L (d + 1) M_Me_formRank 27 [vA 68, vA x1, vI x2, vI x3, vI x4, vU, vU, vU] [] σ Q :=
  L_iload dMe_formRank_27 rfl (L_iload_n dMe_formRank_29 rfl (L_icmp_ge dMe_formRank_30 (by decide) ⟨fun c1 => L_aload_n dMe_formRank_113 rfl (L_getF (b := 69) fw_Me_14 rfl rfl (by decide) dMe_formRank_114 ⟨ob_68, L_aload_n dMe_formRank_117 rfl (L_getF (b := 72) fw_Me_20 rfl rfl (by decide) dMe_formRank_118 ⟨ob_68, L_iconst dMe_formRank_121 in_0 (L_callVI rfl cv_Ec_add (As := [vA 72, vI 0]) rfl (tk5 127 rfl rfl) rfl (Nat.le_of_ble_eq_true rfl) dMe_formRank_122 ⟨ob_69, Tri.mono (h.1 c1) (fun r2 σ2 q2 => L_pop dMe_formRank_125 n01 (L_iinc dMe_formRank_126 rfl (by decide) (L_goto dMe_formRank_129 (by decide) (L_weak [true, true, true, true, false, true, true, true] q2))))⟩)⟩)⟩), fun c1 => L_iconst dMe_formRank_33 in_0 (L_istore dMe_formRank_34 (by decide) (L_iconst dMe_formRank_36 in_0 (L_istore dMe_formRank_37 (by decide) (h.2 c1))))⟩))
theorem s_Me_formRank_39 {d : Nat} {x1 x2 x3 x4 x5 x6 : Int} {σ : SG} {Q : Int → SG → Prop} (h : (x2 ≤ x6 → obok 10 x1 ∧ Tri d M_X_mod [vI x5, vI (σ x1 1)] σ (fun r2 σ2 => (0 ≤ x4 ∧ x4 < 25) ∧ (∀ σ3, σ3 = up σ2 72 x4 r2 → L (d + 1) M_Me_formRank 27 [vA 68, vA x1, vI x2, vI x3, vI (w32 (x4 + 1)), vU, vU, vU] [] σ3 Q))) ∧ (x6 < x2 → L (d + 1) M_Me_formRank 48 [vA 68, vA x1, vI x2, vI x3, vI x4, vI x5, vI x6, vI 0] [] σ Q)) : L (d + 1) M_Me_formRank 39 [vA 68, vA x1, vI x2, vI x3, vI x4, vI x5, vI x6, vU] [] σ Q :=
  L_iload dMe_formRank_39 rfl (L_iload_n dMe_formRank_41 rfl (L_icmp_ge dMe_formRank_42 (by decide) ⟨fun c1 => L_aload_n dMe_formRank_91 rfl (L_getF (b := 72) fw_Me_20 rfl rfl (by decide) dMe_formRank_92 ⟨ob_68, L_iload dMe_formRank_95 rfl (L_iload dMe_formRank_97 rfl (L_aload_n dMe_formRank_99 rfl (L_getf fw_Me_49 rfl dMe_formRank_100 ⟨(h.1 c1).1, L_callNI rfl cs_X_mod (As := [vI x5, vI (σ x1 1)]) rfl (by decide +kernel) rfl (Nat.le_of_ble_eq_true rfl) dMe_formRank_103 (Tri.mono ((h.1 c1).2) (fun r2 σ2 q2 => L_iastoreL (by decide) kd_72 dMe_formRank_106 ⟨q2.1, fun σ3 e3 => L_iinc dMe_formRank_107 rfl (by decide) (L_goto dMe_formRank_110 (by decide) (L_weak [true, true, true, true, true, false, false, true] (q2.2 σ3 e3)))⟩))⟩)))⟩), fun c1 => L_iconst dMe_formRank_45 in_0 (L_istore dMe_formRank_46 (by decide) (h.2 c1))⟩))
theorem s_Me_formRank_48 {d : Nat} {x1 x2 x3 x4 x5 x6 x7 : Int} {σ : SG} {Q : Int → SG → Prop} (h : (x2 ≤ x7 → L (d + 1) M_Me_formRank 39 [vA 68, vA x1, vI x2, vI x3, vI x4, vI x5, vI (w32 (x6 + 1)), vU] [] σ Q) ∧ (x7 < x2 → obok 10 x1 ∧ Tri d M_Wd_cell [vA x1, vI x3, vI x6, vI x7] σ (fun r2 σ2 => obok 10 x1 ∧ Tri d M_Wd_cell [vA x1, vI x4, vI x7, vI x6] σ2 (fun r3 σ3 => L (d + 1) M_Me_formRank 48 [vA 68, vA x1, vI x2, vI x3, vI x4, vI (w32 (x5 + (w32 (r2 * r3)))), vI x6, vI (w32 (x7 + 1))] [] σ3 Q)))) : L (d + 1) M_Me_formRank 48 [vA 68, vA x1, vI x2, vI x3, vI x4, vI x5, vI x6, vI x7] [] σ Q :=
  L_iload dMe_formRank_48 rfl (L_iload_n dMe_formRank_50 rfl (L_icmp_ge dMe_formRank_51 (by decide) ⟨fun c1 => L_iinc dMe_formRank_85 rfl (by decide) (L_goto dMe_formRank_88 (by decide) (L_weak [true, true, true, true, true, true, true, false] (h.1 c1))), fun c1 => L_iload dMe_formRank_54 rfl (L_aload_n dMe_formRank_56 rfl (L_iload_n dMe_formRank_57 rfl (L_iload dMe_formRank_58 rfl (L_iload dMe_formRank_60 rfl (L_callVI rfl cv_Wd_cell (As := [vI x3, vI x6, vI x7]) rfl (tk5 16 rfl rfl) rfl (Nat.le_of_ble_eq_true rfl) dMe_formRank_62 ⟨(h.2 c1).1, Tri.mono ((h.2 c1).2) (fun r2 σ2 q2 => L_aload_n dMe_formRank_65 rfl (L_iload dMe_formRank_66 rfl (L_iload dMe_formRank_68 rfl (L_iload dMe_formRank_70 rfl (L_callVI rfl cv_Wd_cell (As := [vI x4, vI x7, vI x6]) rfl (tk5 16 rfl rfl) rfl (Nat.le_of_ble_eq_true rfl) dMe_formRank_72 ⟨q2.1, Tri.mono q2.2 (fun r3 σ3 q3 => L_imul dMe_formRank_75 (L_iadd dMe_formRank_76 (L_istore dMe_formRank_77 (by decide) (L_iinc dMe_formRank_79 rfl (by decide) (L_goto dMe_formRank_82 (by decide) q3)))))⟩)))))⟩)))))⟩))
theorem dMe_classSize_0 : decode prog_6_method_9_code 0 = .ok (.aload_n 0, 1) := by decide +kernel
theorem dMe_classSize_1 : decode prog_6_method_9_code 1 = .ok (.aload_n 1, 1) := by decide +kernel
theorem dMe_classSize_2 : decode prog_6_method_9_code 2 = .ok (.iload_n 2, 1) := by decide +kernel
theorem dMe_classSize_3 : decode prog_6_method_9_code 3 = .ok (.iconst 1, 1) := by decide +kernel
theorem dMe_classSize_4 : decode prog_6_method_9_code 4 = .ok (.isub, 1) := by decide +kernel
theorem dMe_classSize_5 : decode prog_6_method_9_code 5 = .ok (.invokevirtual 101, 3) := by decide +kernel
theorem dMe_classSize_8 : decode prog_6_method_9_code 8 = .ok (.istore_n 3, 1) := by decide +kernel
theorem dMe_classSize_9 : decode prog_6_method_9_code 9 = .ok (.aload_n 0, 1) := by decide +kernel
theorem dMe_classSize_10 : decode prog_6_method_9_code 10 = .ok (.aload_n 1, 1) := by decide +kernel
theorem dMe_classSize_11 : decode prog_6_method_9_code 11 = .ok (.iload_n 2, 1) := by decide +kernel
theorem dMe_classSize_12 : decode prog_6_method_9_code 12 = .ok (.invokevirtual 101, 3) := by decide +kernel
theorem dMe_classSize_15 : decode prog_6_method_9_code 15 = .ok (.istore 4, 2) := by decide +kernel
theorem dMe_classSize_17 : decode prog_6_method_9_code 17 = .ok (.aload_n 0, 1) := by decide +kernel
theorem dMe_classSize_18 : decode prog_6_method_9_code 18 = .ok (.aload_n 1, 1) := by decide +kernel
theorem dMe_classSize_19 : decode prog_6_method_9_code 19 = .ok (.iload_n 2, 1) := by decide +kernel
theorem dMe_classSize_20 : decode prog_6_method_9_code 20 = .ok (.invokevirtual 105, 3) := by decide +kernel
theorem dMe_classSize_23 : decode prog_6_method_9_code 23 = .ok (.iload 4, 2) := by decide +kernel
theorem dMe_classSize_25 : decode prog_6_method_9_code 25 = .ok (.isub, 1) := by decide +kernel
theorem dMe_classSize_26 : decode prog_6_method_9_code 26 = .ok (.iload_n 3, 1) := by decide +kernel
theorem dMe_classSize_27 : decode prog_6_method_9_code 27 = .ok (.isub, 1) := by decide +kernel
theorem dMe_classSize_28 : decode prog_6_method_9_code 28 = .ok (.ireturn, 1) := by decide +kernel
theorem t_Me_classSize {d : Nat} {x1 x2 : Int} {σ : SG} {Q : Int → SG → Prop} (h : inI x2 → (Tri d M_Me_rankOfD [vA 68, vA x1, vI (w32 (x2 - 1))] σ (fun r1 σ1 => Tri d M_Me_rankOfD [vA 68, vA x1, vI x2] σ1 (fun r2 σ2 => Tri d M_Me_numberForms [vA 68, vA x1, vI x2] σ2 (fun r3 σ3 => Q (w32 ((w32 (r3 - r2)) - r1)) σ3))))) : Tri (d + 1) M_Me_classSize [vA 68, vA x1, vI x2] σ Q :=
  Tri_intro rfl (Nat.le_of_ble_eq_true rfl) (ls := [vA 68, vA x1, vI x2, vU, vU]) rfl (fun hok => L_aload_n dMe_classSize_0 rfl (L_aload_n dMe_classSize_1 rfl (L_iload_n dMe_classSize_2 rfl (L_iconst dMe_classSize_3 in_1 (L_isub dMe_classSize_4 (L_callVI rfl cv_Me_rankOfD (As := [vA x1, vI (w32 (x2 - 1))]) rfl (tk5 144 rfl rfl) rfl (Nat.le_of_ble_eq_true rfl) dMe_classSize_5 ⟨ob_68, Tri.mono ((h (hok _ (List.mem_of_getElem? (i := 2) rfl)))) (fun r1 σ1 q1 => L_istore_n dMe_classSize_8 (by decide) (L_aload_n dMe_classSize_9 rfl (L_aload_n dMe_classSize_10 rfl (L_iload_n dMe_classSize_11 rfl (L_callVI rfl cv_Me_rankOfD (As := [vA x1, vI x2]) rfl (tk5 144 rfl rfl) rfl (Nat.le_of_ble_eq_true rfl) dMe_classSize_12 ⟨ob_68, Tri.mono q1 (fun r2 σ2 q2 => L_istore dMe_classSize_15 (by decide) (L_aload_n dMe_classSize_17 rfl (L_aload_n dMe_classSize_18 rfl (L_iload_n dMe_classSize_19 rfl (L_callVI rfl cv_Me_numberForms (As := [vA x1, vI x2]) rfl (tk5 148 rfl rfl) rfl (Nat.le_of_ble_eq_true rfl) dMe_classSize_20 ⟨ob_68, Tri.mono q2 (fun r3 σ3 q3 => L_iload dMe_classSize_23 rfl (L_isub dMe_classSize_25 (L_iload_n dMe_classSize_26 rfl (L_isub dMe_classSize_27 (L_ireturn rfl dMe_classSize_28 q3)))))⟩)))))⟩)))))⟩))))))
theorem dMe_numberForms_0 : decode prog_6_method_10_code 0 = .ok (.iconst 0, 1) := by decide +kernel
theorem dMe_numberForms_1 : decode prog_6_method_10_code 1 = .ok (.istore_n 3, 1) := by decide +kernel
theorem dMe_numberForms_2 : decode prog_6_method_10_code 2 = .ok (.iconst 0, 1) := by decide +kernel
theorem dMe_numberForms_3 : decode prog_6_method_10_code 3 = .ok (.istore 4, 2) := by decide +kernel
theorem dMe_numberForms_5 : decode prog_6_method_10_code 5 = .ok (.iload 4, 2) := by decide +kernel
theorem dMe_numberForms_7 : decode prog_6_method_10_code 7 = .ok (.iconst 1, 1) := by decide +kernel
theorem dMe_numberForms_8 : decode prog_6_method_10_code 8 = .ok (.aload_n 1, 1) := by decide +kernel
theorem dMe_numberForms_9 : decode prog_6_method_10_code 9 = .ok (.getfield 39, 3) := by decide +kernel
theorem dMe_numberForms_12 : decode prog_6_method_10_code 12 = .ok (.ishl, 1) := by decide +kernel
theorem dMe_numberForms_13 : decode prog_6_method_10_code 13 = .ok (.if_icmp .ge 39, 3) := by decide +kernel
theorem dMe_numberForms_16 : decode prog_6_method_10_code 16 = .ok (.iload 4, 2) := by decide +kernel
theorem dMe_numberForms_18 : decode prog_6_method_10_code 18 = .ok (.aload_n 0, 1) := by decide +kernel
theorem dMe_numberForms_19 : decode prog_6_method_10_code 19 = .ok (.getfield 36, 3) := by decide +kernel
theorem dMe_numberForms_22 : decode prog_6_method_10_code 22 = .ok (.arraylength, 1) := by decide +kernel
theorem dMe_numberForms_23 : decode prog_6_method_10_code 23 = .ok (.if_icmp .ge 29, 3) := by decide +kernel
theorem dMe_numberForms_26 : decode prog_6_method_10_code 26 = .ok (.iload 4, 2) := by decide +kernel
theorem dMe_numberForms_28 : decode prog_6_method_10_code 28 = .ok (.invokestatic 108, 3) := by decide +kernel
theorem dMe_numberForms_31 : decode prog_6_method_10_code 31 = .ok (.iload_n 2, 1) := by decide +kernel
theorem dMe_numberForms_32 : decode prog_6_method_10_code 32 = .ok (.if_icmp .ne 14, 3) := by decide +kernel
theorem dMe_numberForms_35 : decode prog_6_method_10_code 35 = .ok (.aload_n 0, 1) := by decide +kernel
theorem dMe_numberForms_36 : decode prog_6_method_10_code 36 = .ok (.getfield 36, 3) := by decide +kernel
theorem dMe_numberForms_39 : decode prog_6_method_10_code 39 = .ok (.iload 4, 2) := by decide +kernel
theorem dMe_numberForms_41 : decode prog_6_method_10_code 41 = .ok (.iload_n 3, 1) := by decide +kernel
theorem dMe_numberForms_42 : decode prog_6_method_10_code 42 = .ok (.iastore, 1) := by decide +kernel
theorem dMe_numberForms_43 : decode prog_6_method_10_code 43 = .ok (.iinc 3 1, 3) := by decide +kernel
theorem dMe_numberForms_46 : decode prog_6_method_10_code 46 = .ok (.iinc 4 1, 3) := by decide +kernel
theorem dMe_numberForms_49 : decode prog_6_method_10_code 49 = .ok (.goto (-44), 3) := by decide +kernel
theorem dMe_numberForms_52 : decode prog_6_method_10_code 52 = .ok (.iload_n 3, 1) := by decide +kernel
theorem dMe_numberForms_53 : decode prog_6_method_10_code 53 = .ok (.ireturn, 1) := by decide +kernel
theorem t_Me_numberForms {d : Nat} {x1 x2 : Int} {σ : SG} {Q : Int → SG → Prop} (h : inI x2 → (L (d + 1) M_Me_numberForms 5 [vA 68, vA x1, vI x2, vI 0, vI 0] [] σ Q)) : Tri (d + 1) M_Me_numberForms [vA 68, vA x1, vI x2] σ Q :=
  Tri_intro rfl (Nat.le_of_ble_eq_true rfl) (ls := [vA 68, vA x1, vI x2, vU, vU]) rfl (fun hok => L_iconst dMe_numberForms_0 in_0 (L_istore_n dMe_numberForms_1 (by decide) (L_iconst dMe_numberForms_2 in_0 (L_istore dMe_numberForms_3 (by decide) ((h (hok _ (List.mem_of_getElem? (i := 2) rfl))))))))
theorem s_Me_numberForms_5 {d : Nat} {x1 x2 x3 x4 : Int} {σ : SG} {Q : Int → SG → Prop} (h : obok 10 x1 ∧ (shl32 1 (σ x1 2) ≤ x4 → Q x3 σ) ∧ (x4 < shl32 1 (σ x1 2) → (32 ≤ x4 → Q x3 σ) ∧ (x4 < 32 → Tri d M_JI_bitCount [vI x4] σ (fun r3 σ3 => (r3 ≠ x2 → L (d + 1) M_Me_numberForms 5 [vA 68, vA x1, vI x2, vI x3, vI (w32 (x4 + 1))] [] σ3 Q) ∧ (r3 = x2 → (0 ≤ x4 ∧ x4 < 32) ∧ (∀ σ5, σ5 = up σ3 77 x4 x3 → L (d + 1) M_Me_numberForms 5 [vA 68, vA x1, vI x2, vI (w32 (x3 + 1)), vI (w32 (x4 + 1))] [] σ5 Q)))))) : L (d + 1) M_Me_numberForms 5 [vA 68, vA x1, vI x2, vI x3, vI x4] [] σ Q :=
  L_iload dMe_numberForms_5 rfl (L_iconst dMe_numberForms_7 in_1 (L_aload_n dMe_numberForms_8 rfl (L_getf fw_Me_39 rfl dMe_numberForms_9 ⟨h.1, L_ishl dMe_numberForms_12 (L_icmp_ge dMe_numberForms_13 (by decide) ⟨fun c1 => L_iload_n dMe_numberForms_52 rfl (L_ireturn rfl dMe_numberForms_53 (h.2.1 c1)), fun c1 => L_iload dMe_numberForms_16 rfl (L_aload_n dMe_numberForms_18 rfl (L_getF (b := 77) fw_Me_36 rfl rfl (by decide) dMe_numberForms_19 ⟨ob_68, L_alenL (by decide) kd_77 dMe_numberForms_22 (L_icmp_ge dMe_numberForms_23 (by decide) ⟨fun c2 => L_iload_n dMe_numberForms_52 rfl (L_ireturn rfl dMe_numberForms_53 ((h.2.2 c1).1 c2)), fun c2 => L_iload dMe_numberForms_26 rfl (L_callSI rfl cs_JI_bitCount (As := [vI x4]) rfl (tk5 152 rfl rfl) rfl (Nat.le_of_ble_eq_true rfl) dMe_numberForms_28 (Tri.mono ((h.2.2 c1).2 c2) (fun r3 σ3 q3 => L_iload_n dMe_numberForms_31 rfl (L_icmp_ne dMe_numberForms_32 (by decide) ⟨fun c4 => L_iinc dMe_numberForms_46 rfl (by decide) (L_goto dMe_numberForms_49 (by decide) (q3.1 c4)), fun c4 => L_aload_n dMe_numberForms_35 rfl (L_getF (b := 77) fw_Me_36 rfl rfl (by decide) dMe_numberForms_36 ⟨ob_68, L_iload dMe_numberForms_39 rfl (L_iload_n dMe_numberForms_41 rfl (L_iastoreL (by decide) kd_77 dMe_numberForms_42 ⟨(q3.2 c4).1, fun σ5 e5 => L_iinc dMe_numberForms_43 rfl (by decide) (L_iinc dMe_numberForms_46 rfl (by decide) (L_goto dMe_numberForms_49 (by decide) ((q3.2 c4).2 σ5 e5)))⟩))⟩)⟩))))⟩)⟩))⟩)⟩)))
theorem dMe_rankOfD_0 : decode prog_6_method_11_code 0 = .ok (.aload_n 0, 1) := by decide +kernel
theorem dMe_rankOfD_1 : decode prog_6_method_11_code 1 = .ok (.getfield 14, 3) := by decide +kernel
theorem dMe_rankOfD_4 : decode prog_6_method_11_code 4 = .ok (.aload_n 1, 1) := by decide +kernel
theorem dMe_rankOfD_5 : decode prog_6_method_11_code 5 = .ok (.getfield 49, 3) := by decide +kernel
theorem dMe_rankOfD_8 : decode prog_6_method_11_code 8 = .ok (.aload_n 0, 1) := by decide +kernel
theorem dMe_rankOfD_9 : decode prog_6_method_11_code 9 = .ok (.aload_n 1, 1) := by decide +kernel
theorem dMe_rankOfD_10 : decode prog_6_method_11_code 10 = .ok (.iload_n 2, 1) := by decide +kernel
theorem dMe_rankOfD_11 : decode prog_6_method_11_code 11 = .ok (.invokevirtual 105, 3) := by decide +kernel
theorem dMe_rankOfD_14 : decode prog_6_method_11_code 14 = .ok (.invokevirtual 81, 3) := by decide +kernel
theorem dMe_rankOfD_17 : decode prog_6_method_11_code 17 = .ok (.iconst 0, 1) := by decide +kernel
theorem dMe_rankOfD_18 : decode prog_6_method_11_code 18 = .ok (.istore_n 3, 1) := by decide +kernel
theorem dMe_rankOfD_19 : decode prog_6_method_11_code 19 = .ok (.iload_n 3, 1) := by decide +kernel
theorem dMe_rankOfD_20 : decode prog_6_method_11_code 20 = .ok (.iconst 1, 1) := by decide +kernel
theorem dMe_rankOfD_21 : decode prog_6_method_11_code 21 = .ok (.aload_n 1, 1) := by decide +kernel
theorem dMe_rankOfD_22 : decode prog_6_method_11_code 22 = .ok (.getfield 39, 3) := by decide +kernel
theorem dMe_rankOfD_25 : decode prog_6_method_11_code 25 = .ok (.ishl, 1) := by decide +kernel
theorem dMe_rankOfD_26 : decode prog_6_method_11_code 26 = .ok (.if_icmp .ge 38, 3) := by decide +kernel
theorem dMe_rankOfD_29 : decode prog_6_method_11_code 29 = .ok (.iload_n 3, 1) := by decide +kernel
theorem dMe_rankOfD_30 : decode prog_6_method_11_code 30 = .ok (.invokestatic 108, 3) := by decide +kernel
theorem dMe_rankOfD_33 : decode prog_6_method_11_code 33 = .ok (.iload_n 2, 1) := by decide +kernel
theorem dMe_rankOfD_34 : decode prog_6_method_11_code 34 = .ok (.iconst 1, 1) := by decide +kernel
theorem dMe_rankOfD_35 : decode prog_6_method_11_code 35 = .ok (.iadd, 1) := by decide +kernel
theorem dMe_rankOfD_36 : decode prog_6_method_11_code 36 = .ok (.if_icmp .ne 22, 3) := by decide +kernel
theorem dMe_rankOfD_39 : decode prog_6_method_11_code 39 = .ok (.aload_n 0, 1) := by decide +kernel
theorem dMe_rankOfD_40 : decode prog_6_method_11_code 40 = .ok (.aload_n 1, 1) := by decide +kernel
theorem dMe_rankOfD_41 : decode prog_6_method_11_code 41 = .ok (.iload_n 3, 1) := by decide +kernel
theorem dMe_rankOfD_42 : decode prog_6_method_11_code 42 = .ok (.invokevirtual 114, 3) := by decide +kernel
theorem dMe_rankOfD_45 : decode prog_6_method_11_code 45 = .ok (.aload_n 0, 1) := by decide +kernel
theorem dMe_rankOfD_46 : decode prog_6_method_11_code 46 = .ok (.getfield 14, 3) := by decide +kernel
theorem dMe_rankOfD_49 : decode prog_6_method_11_code 49 = .ok (.aload_n 0, 1) := by decide +kernel
theorem dMe_rankOfD_50 : decode prog_6_method_11_code 50 = .ok (.getfield 20, 3) := by decide +kernel
theorem dMe_rankOfD_53 : decode prog_6_method_11_code 53 = .ok (.iconst 0, 1) := by decide +kernel
theorem dMe_rankOfD_54 : decode prog_6_method_11_code 54 = .ok (.invokevirtual 98, 3) := by decide +kernel
theorem dMe_rankOfD_57 : decode prog_6_method_11_code 57 = .ok (.pop, 1) := by decide +kernel
theorem dMe_rankOfD_58 : decode prog_6_method_11_code 58 = .ok (.iinc 3 1, 3) := by decide +kernel
theorem dMe_rankOfD_61 : decode prog_6_method_11_code 61 = .ok (.goto (-42), 3) := by decide +kernel
theorem dMe_rankOfD_64 : decode prog_6_method_11_code 64 = .ok (.aload_n 0, 1) := by decide +kernel
theorem dMe_rankOfD_65 : decode prog_6_method_11_code 65 = .ok (.getfield 14, 3) := by decide +kernel
theorem dMe_rankOfD_68 : decode prog_6_method_11_code 68 = .ok (.getfield 89, 3) := by decide +kernel
theorem dMe_rankOfD_71 : decode prog_6_method_11_code 71 = .ok (.ireturn, 1) := by decide +kernel
theorem t_Me_rankOfD {d : Nat} {x1 x2 : Int} {σ : SG} {Q : Int → SG → Prop} (h : inI x2 → (obok 10 x1 ∧ Tri d M_Me_numberForms [vA 68, vA x1, vI x2] σ (fun r1 σ1 => Tri d M_Ec_begin [vA 69, vI (σ x1 1), vI r1] σ1 (fun r2 σ2 => L (d + 1) M_Me_rankOfD 19 [vA 68, vA x1, vI x2, vI 0] [] σ2 Q)))) : Tri (d + 1) M_Me_rankOfD [vA 68, vA x1, vI x2] σ Q :=
  Tri_intro rfl (Nat.le_of_ble_eq_true rfl) (ls := [vA 68, vA x1, vI x2, vU]) rfl (fun hok => L_aload_n dMe_rankOfD_0 rfl (L_getF (b := 69) fw_Me_14 rfl rfl (by decide) dMe_rankOfD_1 ⟨ob_68, L_aload_n dMe_rankOfD_4 rfl (L_getf fw_Me_49 rfl dMe_rankOfD_5 ⟨(h (hok _ (List.mem_of_getElem? (i := 2) rfl))).1, L_aload_n dMe_rankOfD_8 rfl (L_aload_n dMe_rankOfD_9 rfl (L_iload_n dMe_rankOfD_10 rfl (L_callVI rfl cv_Me_numberForms (As := [vA x1, vI x2]) rfl (tk5 148 rfl rfl) rfl (Nat.le_of_ble_eq_true rfl) dMe_rankOfD_11 ⟨ob_68, Tri.mono ((h (hok _ (List.mem_of_getElem? (i := 2) rfl))).2) (fun r1 σ1 q1 => L_callVV rfl cv_Ec_begin (As := [vI (σ x1 1), vI r1]) rfl (tk5 121 rfl rfl) rfl (Nat.le_of_ble_eq_true rfl) dMe_rankOfD_14 ⟨ob_69, Tri.mono q1 (fun r2 σ2 q2 => L_iconst dMe_rankOfD_17 in_0 (L_istore_n dMe_rankOfD_18 (by decide) q2))⟩)⟩)))⟩)⟩))
theorem s_Me_rankOfD_19 {d : Nat} {x1 x2 x3 : Int} {σ : SG} {Q : Int → SG → Prop} (h : obok 10 x1 ∧ (shl32 1 (σ x1 2) ≤ x3 → Q (σ 69 5) σ) ∧ (x3 < shl32 1 (σ x1 2) → Tri d M_JI_bitCount [vI x3] σ (fun r2 σ2 => (r2 ≠ w32 (x2 + 1) → L (d + 1) M_Me_rankOfD 19 [vA 68, vA x1, vI x2, vI (w32 (x3 + 1))] [] σ2 Q) ∧ (r2 = w32 (x2 + 1) → Tri d M_Me_fillD [vA 68, vA x1, vI x3] σ2 (fun r4 σ4 => Tri d M_Ec_add [vA 69, vA 72, vI 0] σ4 (fun r5 σ5 => L (d + 1) M_Me_rankOfD 19 [vA 68, vA x1, vI x2, vI (w32 (x3 + 1))] [] σ5 Q)))))) : L (d + 1) M_Me_rankOfD 19 [vA 68, vA x1, vI x2, vI x3] [] σ Q :=
  L_iload_n dMe_rankOfD_19 rfl (L_iconst dMe_rankOfD_20 in_1 (L_aload_n dMe_rankOfD_21 rfl (L_getf fw_Me_39 rfl dMe_rankOfD_22 ⟨h.1, L_ishl dMe_rankOfD_25 (L_icmp_ge dMe_rankOfD_26 (by decide) ⟨fun c1 => L_aload_n dMe_rankOfD_64 rfl (L_getF (b := 69) fw_Me_14 rfl rfl (by decide) dMe_rankOfD_65 ⟨ob_68, L_getf fw_Me_89 rfl dMe_rankOfD_68 ⟨ob_69, L_ireturn rfl dMe_rankOfD_71 (h.2.1 c1)⟩⟩), fun c1 => L_iload_n dMe_rankOfD_29 rfl (L_callSI rfl cs_JI_bitCount (As := [vI x3]) rfl (tk5 152 rfl rfl) rfl (Nat.le_of_ble_eq_true rfl) dMe_rankOfD_30 (Tri.mono (h.2.2 c1) (fun r2 σ2 q2 => L_iload_n dMe_rankOfD_33 rfl (L_iconst dMe_rankOfD_34 in_1 (L_iadd dMe_rankOfD_35 (L_icmp_ne dMe_rankOfD_36 (by decide) ⟨fun c3 => L_iinc dMe_rankOfD_58 rfl (by decide) (L_goto dMe_rankOfD_61 (by decide) (q2.1 c3)), fun c3 => L_aload_n dMe_rankOfD_39 rfl (L_aload_n dMe_rankOfD_40 rfl (L_iload_n dMe_rankOfD_41 rfl (L_callVV rfl cv_Me_fillD (As := [vA x1, vI x3]) rfl (tk5 153 rfl rfl) rfl (Nat.le_of_ble_eq_true rfl) dMe_rankOfD_42 ⟨ob_68, Tri.mono (q2.2 c3) (fun r4 σ4 q4 => L_aload_n dMe_rankOfD_45 rfl (L_getF (b := 69) fw_Me_14 rfl rfl (by decide) dMe_rankOfD_46 ⟨ob_68, L_aload_n dMe_rankOfD_49 rfl (L_getF (b := 72) fw_Me_20 rfl rfl (by decide) dMe_rankOfD_50 ⟨ob_68, L_iconst dMe_rankOfD_53 in_0 (L_callVI rfl cv_Ec_add (As := [vA 72, vI 0]) rfl (tk5 127 rfl rfl) rfl (Nat.le_of_ble_eq_true rfl) dMe_rankOfD_54 ⟨ob_69, Tri.mono q4 (fun r5 σ5 q5 => L_pop dMe_rankOfD_57 n01 (L_iinc dMe_rankOfD_58 rfl (by decide) (L_goto dMe_rankOfD_61 (by decide) q5)))⟩)⟩)⟩))⟩)))⟩))))))⟩)⟩)))
theorem dMe_fillD_0 : decode prog_6_method_12_code 0 = .ok (.aload_n 0, 1) := by decide +kernel
theorem dMe_fillD_1 : decode prog_6_method_12_code 1 = .ok (.getfield 20, 3) := by decide +kernel
theorem dMe_fillD_4 : decode prog_6_method_12_code 4 = .ok (.iconst 0, 1) := by decide +kernel
theorem dMe_fillD_5 : decode prog_6_method_12_code 5 = .ok (.invokestatic 92, 3) := by decide +kernel
theorem dMe_fillD_8 : decode prog_6_method_12_code 8 = .ok (.iconst 0, 1) := by decide +kernel
theorem dMe_fillD_9 : decode prog_6_method_12_code 9 = .ok (.istore_n 3, 1) := by decide +kernel
theorem dMe_fillD_10 : decode prog_6_method_12_code 10 = .ok (.iload_n 3, 1) := by decide +kernel
theorem dMe_fillD_11 : decode prog_6_method_12_code 11 = .ok (.aload_n 1, 1) := by decide +kernel
theorem dMe_fillD_12 : decode prog_6_method_12_code 12 = .ok (.getfield 39, 3) := by decide +kernel
theorem dMe_fillD_15 : decode prog_6_method_12_code 15 = .ok (.if_icmp .ge 94, 3) := by decide +kernel
theorem dMe_fillD_18 : decode prog_6_method_12_code 18 = .ok (.iload_n 3, 1) := by decide +kernel
theorem dMe_fillD_19 : decode prog_6_method_12_code 19 = .ok (.iconst 1, 1) := by decide +kernel
theorem dMe_fillD_20 : decode prog_6_method_12_code 20 = .ok (.iadd, 1) := by decide +kernel
theorem dMe_fillD_21 : decode prog_6_method_12_code 21 = .ok (.istore 4, 2) := by decide +kernel
theorem dMe_fillD_23 : decode prog_6_method_12_code 23 = .ok (.iload 4, 2) := by decide +kernel
theorem dMe_fillD_25 : decode prog_6_method_12_code 25 = .ok (.aload_n 1, 1) := by decide +kernel
theorem dMe_fillD_26 : decode prog_6_method_12_code 26 = .ok (.getfield 39, 3) := by decide +kernel
theorem dMe_fillD_29 : decode prog_6_method_12_code 29 = .ok (.if_icmp .ge 74, 3) := by decide +kernel
theorem dMe_fillD_32 : decode prog_6_method_12_code 32 = .ok (.iload_n 2, 1) := by decide +kernel
theorem dMe_fillD_33 : decode prog_6_method_12_code 33 = .ok (.iload_n 3, 1) := by decide +kernel
theorem dMe_fillD_34 : decode prog_6_method_12_code 34 = .ok (.ishr, 1) := by decide +kernel
theorem dMe_fillD_35 : decode prog_6_method_12_code 35 = .ok (.iconst 1, 1) := by decide +kernel
theorem dMe_fillD_36 : decode prog_6_method_12_code 36 = .ok (.iand, 1) := by decide +kernel
theorem dMe_fillD_37 : decode prog_6_method_12_code 37 = .ok (.ifCond .eq 60, 3) := by decide +kernel
theorem dMe_fillD_40 : decode prog_6_method_12_code 40 = .ok (.iload_n 2, 1) := by decide +kernel
theorem dMe_fillD_41 : decode prog_6_method_12_code 41 = .ok (.iload 4, 2) := by decide +kernel
theorem dMe_fillD_43 : decode prog_6_method_12_code 43 = .ok (.ishr, 1) := by decide +kernel
theorem dMe_fillD_44 : decode prog_6_method_12_code 44 = .ok (.iconst 1, 1) := by decide +kernel
theorem dMe_fillD_45 : decode prog_6_method_12_code 45 = .ok (.iand, 1) := by decide +kernel
theorem dMe_fillD_46 : decode prog_6_method_12_code 46 = .ok (.ifCond .eq 51, 3) := by decide +kernel
theorem dMe_fillD_49 : decode prog_6_method_12_code 49 = .ok (.iload_n 2, 1) := by decide +kernel
theorem dMe_fillD_50 : decode prog_6_method_12_code 50 = .ok (.iconst 1, 1) := by decide +kernel
theorem dMe_fillD_51 : decode prog_6_method_12_code 51 = .ok (.iload_n 3, 1) := by decide +kernel
theorem dMe_fillD_52 : decode prog_6_method_12_code 52 = .ok (.ishl, 1) := by decide +kernel
theorem dMe_fillD_53 : decode prog_6_method_12_code 53 = .ok (.iconst 1, 1) := by decide +kernel
theorem dMe_fillD_54 : decode prog_6_method_12_code 54 = .ok (.isub, 1) := by decide +kernel
theorem dMe_fillD_55 : decode prog_6_method_12_code 55 = .ok (.iand, 1) := by decide +kernel
theorem dMe_fillD_56 : decode prog_6_method_12_code 56 = .ok (.invokestatic 108, 3) := by decide +kernel
theorem dMe_fillD_59 : decode prog_6_method_12_code 59 = .ok (.iload_n 2, 1) := by decide +kernel
theorem dMe_fillD_60 : decode prog_6_method_12_code 60 = .ok (.iconst 1, 1) := by decide +kernel
theorem dMe_fillD_61 : decode prog_6_method_12_code 61 = .ok (.iload 4, 2) := by decide +kernel
theorem dMe_fillD_63 : decode prog_6_method_12_code 63 = .ok (.ishl, 1) := by decide +kernel
theorem dMe_fillD_64 : decode prog_6_method_12_code 64 = .ok (.iconst 1, 1) := by decide +kernel
theorem dMe_fillD_65 : decode prog_6_method_12_code 65 = .ok (.isub, 1) := by decide +kernel
theorem dMe_fillD_66 : decode prog_6_method_12_code 66 = .ok (.iand, 1) := by decide +kernel
theorem dMe_fillD_67 : decode prog_6_method_12_code 67 = .ok (.invokestatic 108, 3) := by decide +kernel
theorem dMe_fillD_70 : decode prog_6_method_12_code 70 = .ok (.iadd, 1) := by decide +kernel
theorem dMe_fillD_71 : decode prog_6_method_12_code 71 = .ok (.istore 5, 2) := by decide +kernel
theorem dMe_fillD_73 : decode prog_6_method_12_code 73 = .ok (.aload_n 0, 1) := by decide +kernel
theorem dMe_fillD_74 : decode prog_6_method_12_code 74 = .ok (.aload_n 1, 1) := by decide +kernel
theorem dMe_fillD_75 : decode prog_6_method_12_code 75 = .ok (.iload_n 3, 1) := by decide +kernel
theorem dMe_fillD_76 : decode prog_6_method_12_code 76 = .ok (.iload 4, 2) := by decide +kernel
theorem dMe_fillD_78 : decode prog_6_method_12_code 78 = .ok (.iload_n 2, 1) := by decide +kernel
theorem dMe_fillD_79 : decode prog_6_method_12_code 79 = .ok (.iconst 1, 1) := by decide +kernel
theorem dMe_fillD_80 : decode prog_6_method_12_code 80 = .ok (.iload_n 3, 1) := by decide +kernel
theorem dMe_fillD_81 : decode prog_6_method_12_code 81 = .ok (.ishl, 1) := by decide +kernel
theorem dMe_fillD_82 : decode prog_6_method_12_code 82 = .ok (.iconst (-1), 1) := by decide +kernel
theorem dMe_fillD_83 : decode prog_6_method_12_code 83 = .ok (.ixor, 1) := by decide +kernel
theorem dMe_fillD_84 : decode prog_6_method_12_code 84 = .ok (.iand, 1) := by decide +kernel
theorem dMe_fillD_85 : decode prog_6_method_12_code 85 = .ok (.iconst 1, 1) := by decide +kernel
theorem dMe_fillD_86 : decode prog_6_method_12_code 86 = .ok (.iload 4, 2) := by decide +kernel
theorem dMe_fillD_88 : decode prog_6_method_12_code 88 = .ok (.ishl, 1) := by decide +kernel
theorem dMe_fillD_89 : decode prog_6_method_12_code 89 = .ok (.iconst (-1), 1) := by decide +kernel
theorem dMe_fillD_90 : decode prog_6_method_12_code 90 = .ok (.ixor, 1) := by decide +kernel
theorem dMe_fillD_91 : decode prog_6_method_12_code 91 = .ok (.iand, 1) := by decide +kernel
theorem dMe_fillD_92 : decode prog_6_method_12_code 92 = .ok (.iload 5, 2) := by decide +kernel
theorem dMe_fillD_94 : decode prog_6_method_12_code 94 = .ok (.invokevirtual 118, 3) := by decide +kernel
theorem dMe_fillD_97 : decode prog_6_method_12_code 97 = .ok (.iinc 4 1, 3) := by decide +kernel
theorem dMe_fillD_100 : decode prog_6_method_12_code 100 = .ok (.goto (-77), 3) := by decide +kernel
theorem dMe_fillD_103 : decode prog_6_method_12_code 103 = .ok (.iinc 3 1, 3) := by decide +kernel
theorem dMe_fillD_106 : decode prog_6_method_12_code 106 = .ok (.goto (-96), 3) := by decide +kernel
theorem dMe_fillD_109 : decode prog_6_method_12_code 109 = .ok (.iconst 0, 1) := by decide +kernel
theorem dMe_fillD_110 : decode prog_6_method_12_code 110 = .ok (.istore_n 3, 1) := by decide +kernel
theorem dMe_fillD_111 : decode prog_6_method_12_code 111 = .ok (.iload_n 3, 1) := by decide +kernel
theorem dMe_fillD_112 : decode prog_6_method_12_code 112 = .ok (.aload_n 0, 1) := by decide +kernel
theorem dMe_fillD_113 : decode prog_6_method_12_code 113 = .ok (.getfield 20, 3) := by decide +kernel
theorem dMe_fillD_116 : decode prog_6_method_12_code 116 = .ok (.arraylength, 1) := by decide +kernel
theorem dMe_fillD_117 : decode prog_6_method_12_code 117 = .ok (.if_icmp .ge 28, 3) := by decide +kernel
theorem dMe_fillD_120 : decode prog_6_method_12_code 120 = .ok (.aload_n 0, 1) := by decide +kernel
theorem dMe_fillD_121 : decode prog_6_method_12_code 121 = .ok (.getfield 20, 3) := by decide +kernel
theorem dMe_fillD_124 : decode prog_6_method_12_code 124 = .ok (.iload_n 3, 1) := by decide +kernel
theorem dMe_fillD_125 : decode prog_6_method_12_code 125 = .ok (.aload_n 0, 1) := by decide +kernel
theorem dMe_fillD_126 : decode prog_6_method_12_code 126 = .ok (.getfield 20, 3) := by decide +kernel
theorem dMe_fillD_129 : decode prog_6_method_12_code 129 = .ok (.iload_n 3, 1) := by decide +kernel
theorem dMe_fillD_130 : decode prog_6_method_12_code 130 = .ok (.iaload, 1) := by decide +kernel
theorem dMe_fillD_131 : decode prog_6_method_12_code 131 = .ok (.aload_n 1, 1) := by decide +kernel
theorem dMe_fillD_132 : decode prog_6_method_12_code 132 = .ok (.getfield 49, 3) := by decide +kernel
theorem dMe_fillD_135 : decode prog_6_method_12_code 135 = .ok (.invokestatic 52, 3) := by decide +kernel
theorem dMe_fillD_138 : decode prog_6_method_12_code 138 = .ok (.iastore, 1) := by decide +kernel
theorem dMe_fillD_139 : decode prog_6_method_12_code 139 = .ok (.iinc 3 1, 3) := by decide +kernel
theorem dMe_fillD_142 : decode prog_6_method_12_code 142 = .ok (.goto (-31), 3) := by decide +kernel
theorem dMe_fillD_145 : decode prog_6_method_12_code 145 = .ok (.return_, 1) := by decide +kernel
theorem t_Me_fillD {d : Nat} {x1 x2 : Int} {σ : SG} {Q : Int → SG → Prop} (h : inI x2 → (Tri d M_JA_fill___II_V [vA 72, vI 0] σ (fun r1 σ1 => L (d + 1) M_Me_fillD 10 [vA 68, vA x1, vI x2, vI 0, vU, vU] [] σ1 Q))) : Tri (d + 1) M_Me_fillD [vA 68, vA x1, vI x2] σ Q :=
  Tri_intro rfl (Nat.le_of_ble_eq_true rfl) (ls := [vA 68, vA x1, vI x2, vU, vU, vU]) rfl (fun hok => L_aload_n dMe_fillD_0 rfl (L_getF (b := 72) fw_Me_20 rfl rfl (by decide) dMe_fillD_1 ⟨ob_68, L_iconst dMe_fillD_4 in_0 (L_callSV rfl cs_JA_fill___II_V (As := [vA 72, vI 0]) rfl (tk5 126 rfl rfl) rfl (Nat.le_of_ble_eq_true rfl) dMe_fillD_5 (Tri.mono ((h (hok _ (List.mem_of_getElem? (i := 2) rfl)))) (fun r1 σ1 q1 => L_iconst dMe_fillD_8 in_0 (L_istore_n dMe_fillD_9 (by decide) q1))))⟩))
theorem s_Me_fillD_10 {d : Nat} {x1 x2 x3 : Int} {σ : SG} {Q : Int → SG → Prop} (h : obok 10 x1 ∧ (σ x1 2 ≤ x3 → L (d + 1) M_Me_fillD 111 [vA 68, vA x1, vU, vI 0, vU, vU] [] σ Q) ∧ (x3 < σ x1 2 → L (d + 1) M_Me_fillD 23 [vA 68, vA x1, vI x2, vI x3, vI (w32 (x3 + 1)), vU] [] σ Q)) : L (d + 1) M_Me_fillD 10 [vA 68, vA x1, vI x2, vI x3, vU, vU] [] σ Q :=
  L_iload_n dMe_fillD_10 rfl (L_aload_n dMe_fillD_11 rfl (L_getf fw_Me_39 rfl dMe_fillD_12 ⟨h.1, L_icmp_ge dMe_fillD_15 (by decide) ⟨fun c1 => L_iconst dMe_fillD_109 in_0 (L_istore_n dMe_fillD_110 (by decide) (L_weak [true, true, false, true, true, true] (h.2.1 c1))), fun c1 => L_iload_n dMe_fillD_18 rfl (L_iconst dMe_fillD_19 in_1 (L_iadd dMe_fillD_20 (L_istore dMe_fillD_21 (by decide) (h.2.2 c1))))⟩⟩))
theorem s_Me_fillD_111 {d : Nat} {x1 x3 : Int} {σ : SG} {Q : Int → SG → Prop} (h : (25 ≤ x3 → Q 0 σ) ∧ (x3 < 25 → (0 ≤ x3 ∧ x3 < 25) ∧ obok 10 x1 ∧ Tri d M_X_mod [vI (σ 72 x3), vI (σ x1 1)] σ (fun r2 σ2 => (0 ≤ x3 ∧ x3 < 25) ∧ (∀ σ3, σ3 = up σ2 72 x3 r2 → L (d + 1) M_Me_fillD 111 [vA 68, vA x1, vU, vI (w32 (x3 + 1)), vU, vU] [] σ3 Q)))) : L (d + 1) M_Me_fillD 111 [vA 68, vA x1, vU, vI x3, vU, vU] [] σ Q :=
  L_iload_n dMe_fillD_111 rfl (L_aload_n dMe_fillD_112 rfl (L_getF (b := 72) fw_Me_20 rfl rfl (by decide) dMe_fillD_113 ⟨ob_68, L_alenL (by decide) kd_72 dMe_fillD_116 (L_icmp_ge dMe_fillD_117 (by decide) ⟨fun c1 => L_return rfl dMe_fillD_145 (h.1 c1), fun c1 => L_aload_n dMe_fillD_120 rfl (L_getF (b := 72) fw_Me_20 rfl rfl (by decide) dMe_fillD_121 ⟨ob_68, L_iload_n dMe_fillD_124 rfl (L_aload_n dMe_fillD_125 rfl (L_getF (b := 72) fw_Me_20 rfl rfl (by decide) dMe_fillD_126 ⟨ob_68, L_iload_n dMe_fillD_129 rfl (L_ialoadL kd_72 dMe_fillD_130 ⟨(h.2 c1).1, L_aload_n dMe_fillD_131 rfl (L_getf fw_Me_49 rfl dMe_fillD_132 ⟨(h.2 c1).2.1, L_callNI rfl cs_X_mod (As := [vI (σ 72 x3), vI (σ x1 1)]) rfl (by decide +kernel) rfl (Nat.le_of_ble_eq_true rfl) dMe_fillD_135 (Tri.mono ((h.2 c1).2.2) (fun r2 σ2 q2 => L_iastoreL (by decide) kd_72 dMe_fillD_138 ⟨q2.1, fun σ3 e3 => L_iinc dMe_fillD_139 rfl (by decide) (L_goto dMe_fillD_142 (by decide) (q2.2 σ3 e3))⟩))⟩)⟩)⟩))⟩)⟩)⟩))
theorem s_Me_fillD_23 {d : Nat} {x1 x2 x3 x4 : Int} {σ : SG} {Q : Int → SG → Prop} (h : obok 10 x1 ∧ (σ x1 2 ≤ x4 → L (d + 1) M_Me_fillD 10 [vA 68, vA x1, vI x2, vI (w32 (x3 + 1)), vU, vU] [] σ Q) ∧ (x4 < σ x1 2 → (and32 (shr32 x2 x3) 1 = 0 → L (d + 1) M_Me_fillD 23 [vA 68, vA x1, vI x2, vI x3, vI (w32 (x4 + 1)), vU] [] σ Q) ∧ (and32 (shr32 x2 x3) 1 ≠ 0 → (and32 (shr32 x2 x4) 1 = 0 → L (d + 1) M_Me_fillD 23 [vA 68, vA x1, vI x2, vI x3, vI (w32 (x4 + 1)), vU] [] σ Q) ∧ (and32 (shr32 x2 x4) 1 ≠ 0 → Tri d M_JI_bitCount [vI (and32 x2 (w32 ((shl32 1 x3) - 1)))] σ (fun r4 σ4 => Tri d M_JI_bitCount [vI (and32 x2 (w32 ((shl32 1 x4) - 1)))] σ4 (fun r5 σ5 => Tri d M_Me_addCouple [vA 68, vA x1, vI x3, vI x4, vI (and32 (and32 x2 (xor32 (shl32 1 x3) (-1))) (xor32 (shl32 1 x4) (-1))), vI (w32 (r4 + r5))] σ5 (fun r6 σ6 => L (d + 1) M_Me_fillD 23 [vA 68, vA x1, vI x2, vI x3, vI (w32 (x4 + 1)), vU] [] σ6 Q))))))) : L (d + 1) M_Me_fillD 23 [vA 68, vA x1, vI x2, vI x3, vI x4, vU] [] σ Q :=
  L_iload dMe_fillD_23 rfl (L_aload_n dMe_fillD_25 rfl (L_getf fw_Me_39 rfl dMe_fillD_26 ⟨h.1, L_icmp_ge dMe_fillD_29 (by decide) ⟨fun c1 => L_iinc dMe_fillD_103 rfl (by decide) (L_goto dMe_fillD_106 (by decide) (L_weak [true, true, true, true, false, true] (h.2.1 c1))), fun c1 => L_iload_n dMe_fillD_32 rfl (L_iload_n dMe_fillD_33 rfl (L_ishr dMe_fillD_34 (L_iconst dMe_fillD_35 in_1 (L_iand dMe_fillD_36 (L_if_eq dMe_fillD_37 (by decide) ⟨fun c2 => L_iinc dMe_fillD_97 rfl (by decide) (L_goto dMe_fillD_100 (by decide) ((h.2.2 c1).1 c2)), fun c2 => L_iload_n dMe_fillD_40 rfl (L_iload dMe_fillD_41 rfl (L_ishr dMe_fillD_43 (L_iconst dMe_fillD_44 in_1 (L_iand dMe_fillD_45 (L_if_eq dMe_fillD_46 (by decide) ⟨fun c3 => L_iinc dMe_fillD_97 rfl (by decide) (L_goto dMe_fillD_100 (by decide) (((h.2.2 c1).2 c2).1 c3)), fun c3 => L_iload_n dMe_fillD_49 rfl (L_iconst dMe_fillD_50 in_1 (L_iload_n dMe_fillD_51 rfl (L_ishl dMe_fillD_52 (L_iconst dMe_fillD_53 in_1 (L_isub dMe_fillD_54 (L_iand dMe_fillD_55 (L_callSI rfl cs_JI_bitCount (As := [vI (and32 x2 (w32 ((shl32 1 x3) - 1)))]) rfl (tk5 152 rfl rfl) rfl (Nat.le_of_ble_eq_true rfl) dMe_fillD_56 (Tri.mono (((h.2.2 c1).2 c2).2 c3) (fun r4 σ4 q4 => L_iload_n dMe_fillD_59 rfl (L_iconst dMe_fillD_60 in_1 (L_iload dMe_fillD_61 rfl (L_ishl dMe_fillD_63 (L_iconst dMe_fillD_64 in_1 (L_isub dMe_fillD_65 (L_iand dMe_fillD_66 (L_callSI rfl cs_JI_bitCount (As := [vI (and32 x2 (w32 ((shl32 1 x4) - 1)))]) rfl (tk5 152 rfl rfl) rfl (Nat.le_of_ble_eq_true rfl) dMe_fillD_67 (Tri.mono q4 (fun r5 σ5 q5 => L_iadd dMe_fillD_70 (L_istore dMe_fillD_71 (by decide) (L_aload_n dMe_fillD_73 rfl (L_aload_n dMe_fillD_74 rfl (L_iload_n dMe_fillD_75 rfl (L_iload dMe_fillD_76 rfl (L_iload_n dMe_fillD_78 rfl (L_iconst dMe_fillD_79 in_1 (L_iload_n dMe_fillD_80 rfl (L_ishl dMe_fillD_81 (L_iconst dMe_fillD_82 in_m1 (L_ixor dMe_fillD_83 (L_iand dMe_fillD_84 (L_iconst dMe_fillD_85 in_1 (L_iload dMe_fillD_86 rfl (L_ishl dMe_fillD_88 (L_iconst dMe_fillD_89 in_m1 (L_ixor dMe_fillD_90 (L_iand dMe_fillD_91 (L_iload dMe_fillD_92 rfl (L_callVV rfl cv_Me_addCouple (As := [vA x1, vI x3, vI x4, vI (and32 (and32 x2 (xor32 (shl32 1 x3) (-1))) (xor32 (shl32 1 x4) (-1))), vI (w32 (r4 + r5))]) rfl (tk5 157 rfl rfl) rfl (Nat.le_of_ble_eq_true rfl) dMe_fillD_94 ⟨ob_68, Tri.mono q5 (fun r6 σ6 q6 => L_iinc dMe_fillD_97 rfl (by decide) (L_goto dMe_fillD_100 (by decide) (L_weak [true, true, true, true, true, false] q6)))⟩))))))))))))))))))))))))))))))))))))))⟩)))))⟩)))))⟩⟩))
theorem dMe_addCouple_0 : decode prog_6_method_13_code 0 = .ok (.iconst 0, 1) := by decide +kernel
theorem dMe_addCouple_1 : decode prog_6_method_13_code 1 = .ok (.istore 6, 2) := by decide +kernel
theorem dMe_addCouple_3 : decode prog_6_method_13_code 3 = .ok (.iload 6, 2) := by decide +kernel
theorem dMe_addCouple_5 : decode prog_6_method_13_code 5 = .ok (.aload_n 1, 1) := by decide +kernel
theorem dMe_addCouple_6 : decode prog_6_method_13_code 6 = .ok (.getfield 39, 3) := by decide +kernel
theorem dMe_addCouple_9 : decode prog_6_method_13_code 9 = .ok (.if_icmp .ge 103, 3) := by decide +kernel
theorem dMe_addCouple_12 : decode prog_6_method_13_code 12 = .ok (.iload 4, 2) := by decide +kernel
theorem dMe_addCouple_14 : decode prog_6_method_13_code 14 = .ok (.iconst 1, 1) := by decide +kernel
theorem dMe_addCouple_15 : decode prog_6_method_13_code 15 = .ok (.iload 6, 2) := by decide +kernel
theorem dMe_addCouple_17 : decode prog_6_method_13_code 17 = .ok (.ishl, 1) := by decide +kernel
theorem dMe_addCouple_18 : decode prog_6_method_13_code 18 = .ok (.ior, 1) := by decide +kernel
theorem dMe_addCouple_19 : decode prog_6_method_13_code 19 = .ok (.istore 7, 2) := by decide +kernel
theorem dMe_addCouple_21 : decode prog_6_method_13_code 21 = .ok (.iload 4, 2) := by decide +kernel
theorem dMe_addCouple_23 : decode prog_6_method_13_code 23 = .ok (.iload 6, 2) := by decide +kernel
theorem dMe_addCouple_25 : decode prog_6_method_13_code 25 = .ok (.ishr, 1) := by decide +kernel
theorem dMe_addCouple_26 : decode prog_6_method_13_code 26 = .ok (.iconst 1, 1) := by decide +kernel
theorem dMe_addCouple_27 : decode prog_6_method_13_code 27 = .ok (.iand, 1) := by decide +kernel
theorem dMe_addCouple_28 : decode prog_6_method_13_code 28 = .ok (.ifCond .ne 78, 3) := by decide +kernel
theorem dMe_addCouple_31 : decode prog_6_method_13_code 31 = .ok (.iload 7, 2) := by decide +kernel
theorem dMe_addCouple_33 : decode prog_6_method_13_code 33 = .ok (.aload_n 0, 1) := by decide +kernel
theorem dMe_addCouple_34 : decode prog_6_method_13_code 34 = .ok (.getfield 36, 3) := by decide +kernel
theorem dMe_addCouple_37 : decode prog_6_method_13_code 37 = .ok (.arraylength, 1) := by decide +kernel
theorem dMe_addCouple_38 : decode prog_6_method_13_code 38 = .ok (.if_icmp .ge 68, 3) := by decide +kernel
theorem dMe_addCouple_41 : decode prog_6_method_13_code 41 = .ok (.iload 5, 2) := by decide +kernel
theorem dMe_addCouple_43 : decode prog_6_method_13_code 43 = .ok (.iload 4, 2) := by decide +kernel
theorem dMe_addCouple_45 : decode prog_6_method_13_code 45 = .ok (.iconst 1, 1) := by decide +kernel
theorem dMe_addCouple_46 : decode prog_6_method_13_code 46 = .ok (.iload 6, 2) := by decide +kernel
theorem dMe_addCouple_48 : decode prog_6_method_13_code 48 = .ok (.ishl, 1) := by decide +kernel
theorem dMe_addCouple_49 : decode prog_6_method_13_code 49 = .ok (.iconst 1, 1) := by decide +kernel
theorem dMe_addCouple_50 : decode prog_6_method_13_code 50 = .ok (.isub, 1) := by decide +kernel
theorem dMe_addCouple_51 : decode prog_6_method_13_code 51 = .ok (.iand, 1) := by decide +kernel
theorem dMe_addCouple_52 : decode prog_6_method_13_code 52 = .ok (.invokestatic 108, 3) := by decide +kernel
theorem dMe_addCouple_55 : decode prog_6_method_13_code 55 = .ok (.iadd, 1) := by decide +kernel
theorem dMe_addCouple_56 : decode prog_6_method_13_code 56 = .ok (.iconst 1, 1) := by decide +kernel
theorem dMe_addCouple_57 : decode prog_6_method_13_code 57 = .ok (.iand, 1) := by decide +kernel
theorem dMe_addCouple_58 : decode prog_6_method_13_code 58 = .ok (.ifCond .eq 7, 3) := by decide +kernel
theorem dMe_addCouple_61 : decode prog_6_method_13_code 61 = .ok (.iconst 1, 1) := by decide +kernel
theorem dMe_addCouple_62 : decode prog_6_method_13_code 62 = .ok (.goto 4, 3) := by decide +kernel
theorem dMe_addCouple_65 : decode prog_6_method_13_code 65 = .ok (.iconst 0, 1) := by decide +kernel
theorem dMe_addCouple_66 : decode prog_6_method_13_code 66 = .ok (.istore 8, 2) := by decide +kernel
theorem dMe_addCouple_68 : decode prog_6_method_13_code 68 = .ok (.aload_n 1, 1) := by decide +kernel
theorem dMe_addCouple_69 : decode prog_6_method_13_code 69 = .ok (.iload_n 2, 1) := by decide +kernel
theorem dMe_addCouple_70 : decode prog_6_method_13_code 70 = .ok (.iload_n 3, 1) := by decide +kernel
theorem dMe_addCouple_71 : decode prog_6_method_13_code 71 = .ok (.iload 6, 2) := by decide +kernel
theorem dMe_addCouple_73 : decode prog_6_method_13_code 73 = .ok (.invokevirtual 45, 3) := by decide +kernel
theorem dMe_addCouple_76 : decode prog_6_method_13_code 76 = .ok (.istore 9, 2) := by decide +kernel
theorem dMe_addCouple_78 : decode prog_6_method_13_code 78 = .ok (.aload_n 0, 1) := by decide +kernel
theorem dMe_addCouple_79 : decode prog_6_method_13_code 79 = .ok (.getfield 20, 3) := by decide +kernel
theorem dMe_addCouple_82 : decode prog_6_method_13_code 82 = .ok (.aload_n 0, 1) := by decide +kernel
theorem dMe_addCouple_83 : decode prog_6_method_13_code 83 = .ok (.getfield 36, 3) := by decide +kernel
theorem dMe_addCouple_86 : decode prog_6_method_13_code 86 = .ok (.iload 7, 2) := by decide +kernel
theorem dMe_addCouple_88 : decode prog_6_method_13_code 88 = .ok (.iaload, 1) := by decide +kernel
theorem dMe_addCouple_89 : decode prog_6_method_13_code 89 = .ok (.dup2, 1) := by decide +kernel
theorem dMe_addCouple_90 : decode prog_6_method_13_code 90 = .ok (.iaload, 1) := by decide +kernel
theorem dMe_addCouple_91 : decode prog_6_method_13_code 91 = .ok (.iload 8, 2) := by decide +kernel
theorem dMe_addCouple_93 : decode prog_6_method_13_code 93 = .ok (.ifCond .eq 9, 3) := by decide +kernel
theorem dMe_addCouple_96 : decode prog_6_method_13_code 96 = .ok (.iload 9, 2) := by decide +kernel
theorem dMe_addCouple_98 : decode prog_6_method_13_code 98 = .ok (.ineg, 1) := by decide +kernel
theorem dMe_addCouple_99 : decode prog_6_method_13_code 99 = .ok (.goto 5, 3) := by decide +kernel
theorem dMe_addCouple_102 : decode prog_6_method_13_code 102 = .ok (.iload 9, 2) := by decide +kernel
theorem dMe_addCouple_104 : decode prog_6_method_13_code 104 = .ok (.iadd, 1) := by decide +kernel
theorem dMe_addCouple_105 : decode prog_6_method_13_code 105 = .ok (.iastore, 1) := by decide +kernel
theorem dMe_addCouple_106 : decode prog_6_method_13_code 106 = .ok (.iinc 6 1, 3) := by decide +kernel
theorem dMe_addCouple_109 : decode prog_6_method_13_code 109 = .ok (.goto (-106), 3) := by decide +kernel
theorem dMe_addCouple_112 : decode prog_6_method_13_code 112 = .ok (.return_, 1) := by decide +kernel
theorem t_Me_addCouple {d : Nat} {x1 x2 x3 x4 x5 : Int} {σ : SG} {Q : Int → SG → Prop} (h : inI x2 → inI x3 → inI x4 → inI x5 → (L (d + 1) M_Me_addCouple 3 [vA 68, vA x1, vI x2, vI x3, vI x4, vI x5, vI 0, vU, vU, vU] [] σ Q)) : Tri (d + 1) M_Me_addCouple [vA 68, vA x1, vI x2, vI x3, vI x4, vI x5] σ Q :=
  Tri_intro rfl (Nat.le_of_ble_eq_true rfl) (ls := [vA 68, vA x1, vI x2, vI x3, vI x4, vI x5, vU, vU, vU, vU]) rfl (fun hok => L_iconst dMe_addCouple_0 in_0 (L_istore dMe_addCouple_1 (by decide) ((h (hok _ (List.mem_of_getElem? (i := 2) rfl)) (hok _ (List.mem_of_getElem? (i := 3) rfl)) (hok _ (List.mem_of_getElem? (i := 4) rfl)) (hok _ (List.mem_of_getElem? (i := 5) rfl))))))
theorem s_Me_addCouple_3 {d : Nat} {x1 x2 x3 x4 x5 x6 : Int} {σ : SG} {Q : Int → SG → Prop} (h : obok 10 x1 ∧ (σ x1 2 ≤ x6 → Q 0 σ) ∧ (x6 < σ x1 2 → (and32 (shr32 x4 x6) 1 ≠ 0 → L (d + 1) M_Me_addCouple 3 [vA 68, vA x1, vI x2, vI x3, vI x4, vI x5, vI (w32 (x6 + 1)), vU, vU, vU] [] σ Q) ∧ (and32 (shr32 x4 x6) 1 = 0 → (32 ≤ or32 x4 (shl32 1 x6) → L (d + 1) M_Me_addCouple 3 [vA 68, vA x1, vI x2, vI x3, vI x4, vI x5, vI (w32 (x6 + 1)), vU, vU, vU] [] σ Q) ∧ (or32 x4 (shl32 1 x6) < 32 → Tri d M_JI_bitCount [vI (and32 x4 (w32 ((shl32 1 x6) - 1)))] σ (fun r4 σ4 => (and32 (w32 (x5 + r4)) 1 = 0 → L (d + 1) M_Me_addCouple 66 [vA 68, vA x1, vI x2, vI x3, vI x4, vI x5, vI x6, vI (or32 x4 (shl32 1 x6)), vU, vU] [vI 0] σ4 Q) ∧ (and32 (w32 (x5 + r4)) 1 ≠ 0 → L (d + 1) M_Me_addCouple 66 [vA 68, vA x1, vI x2, vI x3, vI x4, vI x5, vI x6, vI (or32 x4 (shl32 1 x6)), vU, vU] [vI 1] σ4 Q)))))) : L (d + 1) M_Me_addCouple 3 [vA 68, vA x1, vI x2, vI x3, vI x4, vI x5, vI x6, vU, vU, vU] [] σ Q :=
  L_iload dMe_addCouple_3 rfl (L_aload_n dMe_addCouple_5 rfl (L_getf fw_Me_39 rfl dMe_addCouple_6 ⟨h.1, L_icmp_ge dMe_addCouple_9 (by decide) ⟨fun c1 => L_return rfl dMe_addCouple_112 (h.2.1 c1), fun c1 => L_iload dMe_addCouple_12 rfl (L_iconst dMe_addCouple_14 in_1 (L_iload dMe_addCouple_15 rfl (L_ishl dMe_addCouple_17 (L_ior dMe_addCouple_18 (L_istore dMe_addCouple_19 (by decide) (L_iload dMe_addCouple_21 rfl (L_iload dMe_addCouple_23 rfl (L_ishr dMe_addCouple_25 (L_iconst dMe_addCouple_26 in_1 (L_iand dMe_addCouple_27 (L_if_ne dMe_addCouple_28 (by decide) ⟨fun c2 => L_iinc dMe_addCouple_106 rfl (by decide) (L_goto dMe_addCouple_109 (by decide) (L_weak [true, true, true, true, true, true, true, false, true, true] ((h.2.2 c1).1 c2))), fun c2 => L_iload dMe_addCouple_31 rfl (L_aload_n dMe_addCouple_33 rfl (L_getF (b := 77) fw_Me_36 rfl rfl (by decide) dMe_addCouple_34 ⟨ob_68, L_alenL (by decide) kd_77 dMe_addCouple_37 (L_icmp_ge dMe_addCouple_38 (by decide) ⟨fun c3 => L_iinc dMe_addCouple_106 rfl (by decide) (L_goto dMe_addCouple_109 (by decide) (L_weak [true, true, true, true, true, true, true, false, true, true] (((h.2.2 c1).2 c2).1 c3))), fun c3 => L_iload dMe_addCouple_41 rfl (L_iload dMe_addCouple_43 rfl (L_iconst dMe_addCouple_45 in_1 (L_iload dMe_addCouple_46 rfl (L_ishl dMe_addCouple_48 (L_iconst dMe_addCouple_49 in_1 (L_isub dMe_addCouple_50 (L_iand dMe_addCouple_51 (L_callSI rfl cs_JI_bitCount (As := [vI (and32 x4 (w32 ((shl32 1 x6) - 1)))]) rfl (tk5 152 rfl rfl) rfl (Nat.le_of_ble_eq_true rfl) dMe_addCouple_52 (Tri.mono (((h.2.2 c1).2 c2).2 c3) (fun r4 σ4 q4 => L_iadd dMe_addCouple_55 (L_iconst dMe_addCouple_56 in_1 (L_iand dMe_addCouple_57 (L_if_eq dMe_addCouple_58 (by decide) ⟨fun c5 => L_iconst dMe_addCouple_65 in_0 (q4.1 c5), fun c5 => L_iconst dMe_addCouple_61 in_1 (L_goto dMe_addCouple_62 (by decide) (q4.2 c5))⟩)))))))))))))⟩)⟩))⟩)))))))))))⟩⟩))
theorem s_Me_addCouple_66 {d : Nat} {x1 x2 x3 x4 x5 x6 x7 y0 : Int} {σ : SG} {Q : Int → SG → Prop} (h : obok 10 x1 ∧ Tri d M_Wd_cell [vA x1, vI x2, vI x3, vI x6] σ (fun r1 σ1 => (0 ≤ x7 ∧ x7 < 32) ∧ (0 ≤ σ1 77 x7 ∧ σ1 77 x7 < 25) ∧ (y0 = 0 → (0 ≤ σ1 77 x7 ∧ σ1 77 x7 < 25) ∧ (∀ σ3, σ3 = up σ1 72 (σ1 77 x7) (w32 ((σ1 72 (σ1 77 x7)) + r1)) → L (d + 1) M_Me_addCouple 3 [vA 68, vA x1, vI x2, vI x3, vI x4, vI x5, vI (w32 (x6 + 1)), vU, vU, vU] [] σ3 Q)) ∧ (y0 ≠ 0 → (0 ≤ σ1 77 x7 ∧ σ1 77 x7 < 25) ∧ (∀ σ4, σ4 = up σ1 72 (σ1 77 x7) (w32 ((σ1 72 (σ1 77 x7)) + (w32 (-r1)))) → L (d + 1) M_Me_addCouple 3 [vA 68, vA x1, vI x2, vI x3, vI x4, vI x5, vI (w32 (x6 + 1)), vU, vU, vU] [] σ4 Q)))) : L (d + 1) M_Me_addCouple 66 [vA 68, vA x1, vI x2, vI x3, vI x4, vI x5, vI x6, vI x7, vU, vU] [vI y0] σ Q :=
  L_istore dMe_addCouple_66 (by decide) (L_aload_n dMe_addCouple_68 rfl (L_iload_n dMe_addCouple_69 rfl (L_iload_n dMe_addCouple_70 rfl (L_iload dMe_addCouple_71 rfl (L_callVI rfl cv_Wd_cell (As := [vI x2, vI x3, vI x6]) rfl (tk5 16 rfl rfl) rfl (Nat.le_of_ble_eq_true rfl) dMe_addCouple_73 ⟨h.1, Tri.mono h.2 (fun r1 σ1 q1 => L_istore dMe_addCouple_76 (by decide) (L_aload_n dMe_addCouple_78 rfl (L_getF (b := 72) fw_Me_20 rfl rfl (by decide) dMe_addCouple_79 ⟨ob_68, L_aload_n dMe_addCouple_82 rfl (L_getF (b := 77) fw_Me_36 rfl rfl (by decide) dMe_addCouple_83 ⟨ob_68, L_iload dMe_addCouple_86 rfl (L_ialoadL kd_77 dMe_addCouple_88 ⟨q1.1, L_dup2 dMe_addCouple_89 n01 n21 (L_ialoadL kd_72 dMe_addCouple_90 ⟨q1.2.1, L_iload dMe_addCouple_91 rfl (L_if_eq dMe_addCouple_93 (by decide) ⟨fun c2 => L_iload dMe_addCouple_102 rfl (L_iadd dMe_addCouple_104 (L_iastoreL (by decide) kd_72 dMe_addCouple_105 ⟨(q1.2.2.1 c2).1, fun σ3 e3 => L_iinc dMe_addCouple_106 rfl (by decide) (L_goto dMe_addCouple_109 (by decide) (L_weak [true, true, true, true, true, true, true, false, false, false] ((q1.2.2.1 c2).2 σ3 e3)))⟩)), fun c2 => L_iload dMe_addCouple_96 rfl (L_ineg dMe_addCouple_98 (L_goto dMe_addCouple_99 (by decide) (L_iadd dMe_addCouple_104 (L_iastoreL (by decide) kd_72 dMe_addCouple_105 ⟨(q1.2.2.2 c2).1, fun σ4 e4 => L_iinc dMe_addCouple_106 rfl (by decide) (L_goto dMe_addCouple_109 (by decide) (L_weak [true, true, true, true, true, true, true, false, false, false] ((q1.2.2.2 c2).2 σ4 e4)))⟩))))⟩)⟩)⟩)⟩)⟩)))⟩)))))
theorem dMe_isClosed_0 : decode prog_6_method_14_code 0 = .ok (.aload_n 0, 1) := by decide +kernel
theorem dMe_isClosed_1 : decode prog_6_method_14_code 1 = .ok (.aload_n 1, 1) := by decide +kernel
theorem dMe_isClosed_2 : decode prog_6_method_14_code 2 = .ok (.iconst 2, 1) := by decide +kernel
theorem dMe_isClosed_3 : decode prog_6_method_14_code 3 = .ok (.invokevirtual 105, 3) := by decide +kernel
theorem dMe_isClosed_6 : decode prog_6_method_14_code 6 = .ok (.pop, 1) := by decide +kernel
theorem dMe_isClosed_7 : decode prog_6_method_14_code 7 = .ok (.iconst 0, 1) := by decide +kernel
theorem dMe_isClosed_8 : decode prog_6_method_14_code 8 = .ok (.istore_n 3, 1) := by decide +kernel
theorem dMe_isClosed_9 : decode prog_6_method_14_code 9 = .ok (.iload_n 3, 1) := by decide +kernel
theorem dMe_isClosed_10 : decode prog_6_method_14_code 10 = .ok (.iconst 1, 1) := by decide +kernel
theorem dMe_isClosed_11 : decode prog_6_method_14_code 11 = .ok (.aload_n 1, 1) := by decide +kernel
theorem dMe_isClosed_12 : decode prog_6_method_14_code 12 = .ok (.getfield 39, 3) := by decide +kernel
theorem dMe_isClosed_15 : decode prog_6_method_14_code 15 = .ok (.ishl, 1) := by decide +kernel
theorem dMe_isClosed_16 : decode prog_6_method_14_code 16 = .ok (.if_icmp .ge 41, 3) := by decide +kernel
theorem dMe_isClosed_19 : decode prog_6_method_14_code 19 = .ok (.iload_n 3, 1) := by decide +kernel
theorem dMe_isClosed_20 : decode prog_6_method_14_code 20 = .ok (.invokestatic 108, 3) := by decide +kernel
theorem dMe_isClosed_23 : decode prog_6_method_14_code 23 = .ok (.iconst 3, 1) := by decide +kernel
theorem dMe_isClosed_24 : decode prog_6_method_14_code 24 = .ok (.if_icmp .ne 27, 3) := by decide +kernel
theorem dMe_isClosed_27 : decode prog_6_method_14_code 27 = .ok (.aload_n 0, 1) := by decide +kernel
theorem dMe_isClosed_28 : decode prog_6_method_14_code 28 = .ok (.aload_n 1, 1) := by decide +kernel
theorem dMe_isClosed_29 : decode prog_6_method_14_code 29 = .ok (.iload_n 3, 1) := by decide +kernel
theorem dMe_isClosed_30 : decode prog_6_method_14_code 30 = .ok (.invokevirtual 114, 3) := by decide +kernel
theorem dMe_isClosed_33 : decode prog_6_method_14_code 33 = .ok (.aload_n 0, 1) := by decide +kernel
theorem dMe_isClosed_34 : decode prog_6_method_14_code 34 = .ok (.aload_n 1, 1) := by decide +kernel
theorem dMe_isClosed_35 : decode prog_6_method_14_code 35 = .ok (.aload_n 2, 1) := by decide +kernel
theorem dMe_isClosed_36 : decode prog_6_method_14_code 36 = .ok (.invokevirtual 122, 3) := by decide +kernel
theorem dMe_isClosed_39 : decode prog_6_method_14_code 39 = .ok (.aload_n 1, 1) := by decide +kernel
theorem dMe_isClosed_40 : decode prog_6_method_14_code 40 = .ok (.getfield 49, 3) := by decide +kernel
theorem dMe_isClosed_43 : decode prog_6_method_14_code 43 = .ok (.invokestatic 52, 3) := by decide +kernel
theorem dMe_isClosed_46 : decode prog_6_method_14_code 46 = .ok (.ifCond .eq 5, 3) := by decide +kernel
theorem dMe_isClosed_49 : decode prog_6_method_14_code 49 = .ok (.iconst 0, 1) := by decide +kernel
theorem dMe_isClosed_50 : decode prog_6_method_14_code 50 = .ok (.ireturn, 1) := by decide +kernel
theorem dMe_isClosed_51 : decode prog_6_method_14_code 51 = .ok (.iinc 3 1, 3) := by decide +kernel
theorem dMe_isClosed_54 : decode prog_6_method_14_code 54 = .ok (.goto (-45), 3) := by decide +kernel
theorem dMe_isClosed_57 : decode prog_6_method_14_code 57 = .ok (.iconst 1, 1) := by decide +kernel
theorem dMe_isClosed_58 : decode prog_6_method_14_code 58 = .ok (.ireturn, 1) := by decide +kernel
theorem t_Me_isClosed {d : Nat} {x1 x2 : Int} {σ : SG} {Q : Int → SG → Prop} (h : Tri d M_Me_numberForms [vA 68, vA x1, vI 2] σ (fun r1 σ1 => L (d + 1) M_Me_isClosed 9 [vA 68, vA x1, vA x2, vI 0] [] σ1 Q)) : Tri (d + 1) M_Me_isClosed [vA 68, vA x1, vA x2] σ Q :=
  Tri_intro rfl (Nat.le_of_ble_eq_true rfl) (ls := [vA 68, vA x1, vA x2, vU]) rfl (fun hok => L_aload_n dMe_isClosed_0 rfl (L_aload_n dMe_isClosed_1 rfl (L_iconst dMe_isClosed_2 in_2 (L_callVI rfl cv_Me_numberForms (As := [vA x1, vI 2]) rfl (tk5 148 rfl rfl) rfl (Nat.le_of_ble_eq_true rfl) dMe_isClosed_3 ⟨ob_68, Tri.mono (h) (fun r1 σ1 q1 => L_pop dMe_isClosed_6 n01 (L_iconst dMe_isClosed_7 in_0 (L_istore_n dMe_isClosed_8 (by decide) q1)))⟩))))
theorem s_Me_isClosed_9 {d : Nat} {x1 x2 x3 : Int} {σ : SG} {Q : Int → SG → Prop} (h : obok 10 x1 ∧ (shl32 1 (σ x1 2) ≤ x3 → Q 1 σ) ∧ (x3 < shl32 1 (σ x1 2) → Tri d M_JI_bitCount [vI x3] σ (fun r2 σ2 => (r2 ≠ 3 → L (d + 1) M_Me_isClosed 9 [vA 68, vA x1, vA x2, vI (w32 (x3 + 1))] [] σ2 Q) ∧ (r2 = 3 → Tri d M_Me_fillD [vA 68, vA x1, vI x3] σ2 (fun r4 σ4 => Tri d M_Me_valueOf [vA 68, vA x1, vA x2] σ4 (fun r5 σ5 => obok 10 x1 ∧ Tri d M_X_mod [vI r5, vI (σ5 x1 1)] σ5 (fun r6 σ6 => (r6 = 0 → L (d + 1) M_Me_isClosed 9 [vA 68, vA x1, vA x2, vI (w32 (x3 + 1))] [] σ6 Q) ∧ (r6 ≠ 0 → Q 0 σ6)))))))) : L (d + 1) M_Me_isClosed 9 [vA 68, vA x1, vA x2, vI x3] [] σ Q :=
  L_iload_n dMe_isClosed_9 rfl (L_iconst dMe_isClosed_10 in_1 (L_aload_n dMe_isClosed_11 rfl (L_getf fw_Me_39 rfl dMe_isClosed_12 ⟨h.1, L_ishl dMe_isClosed_15 (L_icmp_ge dMe_isClosed_16 (by decide) ⟨fun c1 => L_iconst dMe_isClosed_57 in_1 (L_zreturn1 rfl dMe_isClosed_58 (h.2.1 c1)), fun c1 => L_iload_n dMe_isClosed_19 rfl (L_callSI rfl cs_JI_bitCount (As := [vI x3]) rfl (tk5 152 rfl rfl) rfl (Nat.le_of_ble_eq_true rfl) dMe_isClosed_20 (Tri.mono (h.2.2 c1) (fun r2 σ2 q2 => L_iconst dMe_isClosed_23 in_3 (L_icmp_ne dMe_isClosed_24 (by decide) ⟨fun c3 => L_iinc dMe_isClosed_51 rfl (by decide) (L_goto dMe_isClosed_54 (by decide) (q2.1 c3)), fun c3 => L_aload_n dMe_isClosed_27 rfl (L_aload_n dMe_isClosed_28 rfl (L_iload_n dMe_isClosed_29 rfl (L_callVV rfl cv_Me_fillD (As := [vA x1, vI x3]) rfl (tk5 153 rfl rfl) rfl (Nat.le_of_ble_eq_true rfl) dMe_isClosed_30 ⟨ob_68, Tri.mono (q2.2 c3) (fun r4 σ4 q4 => L_aload_n dMe_isClosed_33 rfl (L_aload_n dMe_isClosed_34 rfl (L_aload_n dMe_isClosed_35 rfl (L_callVI rfl cv_Me_valueOf (As := [vA x1, vA x2]) rfl (tk6 44 rfl rfl) rfl (Nat.le_of_ble_eq_true rfl) dMe_isClosed_36 ⟨ob_68, Tri.mono q4 (fun r5 σ5 q5 => L_aload_n dMe_isClosed_39 rfl (L_getf fw_Me_49 rfl dMe_isClosed_40 ⟨q5.1, L_callNI rfl cs_X_mod (As := [vI r5, vI (σ5 x1 1)]) rfl (by decide +kernel) rfl (Nat.le_of_ble_eq_true rfl) dMe_isClosed_43 (Tri.mono q5.2 (fun r6 σ6 q6 => L_if_eq dMe_isClosed_46 (by decide) ⟨fun c7 => L_iinc dMe_isClosed_51 rfl (by decide) (L_goto dMe_isClosed_54 (by decide) (q6.1 c7)), fun c7 => L_iconst dMe_isClosed_49 in_0 (L_zreturn0 rfl dMe_isClosed_50 (q6.2 c7))⟩))⟩))⟩))))⟩)))⟩))))⟩)⟩)))
theorem dMe_valueOf_0 : decode prog_6_method_15_code 0 = .ok (.iconst 0, 1) := by decide +kernel
theorem dMe_valueOf_1 : decode prog_6_method_15_code 1 = .ok (.istore_n 3, 1) := by decide +kernel
theorem dMe_valueOf_2 : decode prog_6_method_15_code 2 = .ok (.iconst 0, 1) := by decide +kernel
theorem dMe_valueOf_3 : decode prog_6_method_15_code 3 = .ok (.istore 4, 2) := by decide +kernel
theorem dMe_valueOf_5 : decode prog_6_method_15_code 5 = .ok (.iconst 0, 1) := by decide +kernel
theorem dMe_valueOf_6 : decode prog_6_method_15_code 6 = .ok (.istore 5, 2) := by decide +kernel
theorem dMe_valueOf_8 : decode prog_6_method_15_code 8 = .ok (.iload 5, 2) := by decide +kernel
theorem dMe_valueOf_10 : decode prog_6_method_15_code 10 = .ok (.aload_n 1, 1) := by decide +kernel
theorem dMe_valueOf_11 : decode prog_6_method_15_code 11 = .ok (.getfield 39, 3) := by decide +kernel
theorem dMe_valueOf_14 : decode prog_6_method_15_code 14 = .ok (.if_icmp .ge 67, 3) := by decide +kernel
theorem dMe_valueOf_17 : decode prog_6_method_15_code 17 = .ok (.iload 5, 2) := by decide +kernel
theorem dMe_valueOf_19 : decode prog_6_method_15_code 19 = .ok (.iconst 1, 1) := by decide +kernel
theorem dMe_valueOf_20 : decode prog_6_method_15_code 20 = .ok (.iadd, 1) := by decide +kernel
theorem dMe_valueOf_21 : decode prog_6_method_15_code 21 = .ok (.istore 6, 2) := by decide +kernel
theorem dMe_valueOf_23 : decode prog_6_method_15_code 23 = .ok (.iload 6, 2) := by decide +kernel
theorem dMe_valueOf_25 : decode prog_6_method_15_code 25 = .ok (.aload_n 1, 1) := by decide +kernel
theorem dMe_valueOf_26 : decode prog_6_method_15_code 26 = .ok (.getfield 39, 3) := by decide +kernel
theorem dMe_valueOf_29 : decode prog_6_method_15_code 29 = .ok (.if_icmp .ge 46, 3) := by decide +kernel
theorem dMe_valueOf_32 : decode prog_6_method_15_code 32 = .ok (.iload 4, 2) := by decide +kernel
theorem dMe_valueOf_34 : decode prog_6_method_15_code 34 = .ok (.aload_n 2, 1) := by decide +kernel
theorem dMe_valueOf_35 : decode prog_6_method_15_code 35 = .ok (.arraylength, 1) := by decide +kernel
theorem dMe_valueOf_36 : decode prog_6_method_15_code 36 = .ok (.if_icmp .ge 39, 3) := by decide +kernel
theorem dMe_valueOf_39 : decode prog_6_method_15_code 39 = .ok (.iload_n 3, 1) := by decide +kernel
theorem dMe_valueOf_40 : decode prog_6_method_15_code 40 = .ok (.aload_n 2, 1) := by decide +kernel
theorem dMe_valueOf_41 : decode prog_6_method_15_code 41 = .ok (.iload 4, 2) := by decide +kernel
theorem dMe_valueOf_43 : decode prog_6_method_15_code 43 = .ok (.iaload, 1) := by decide +kernel
theorem dMe_valueOf_44 : decode prog_6_method_15_code 44 = .ok (.aload_n 0, 1) := by decide +kernel
theorem dMe_valueOf_45 : decode prog_6_method_15_code 45 = .ok (.getfield 20, 3) := by decide +kernel
theorem dMe_valueOf_48 : decode prog_6_method_15_code 48 = .ok (.aload_n 0, 1) := by decide +kernel
theorem dMe_valueOf_49 : decode prog_6_method_15_code 49 = .ok (.getfield 36, 3) := by decide +kernel
theorem dMe_valueOf_52 : decode prog_6_method_15_code 52 = .ok (.iconst 1, 1) := by decide +kernel
theorem dMe_valueOf_53 : decode prog_6_method_15_code 53 = .ok (.iload 5, 2) := by decide +kernel
theorem dMe_valueOf_55 : decode prog_6_method_15_code 55 = .ok (.ishl, 1) := by decide +kernel
theorem dMe_valueOf_56 : decode prog_6_method_15_code 56 = .ok (.iconst 1, 1) := by decide +kernel
theorem dMe_valueOf_57 : decode prog_6_method_15_code 57 = .ok (.iload 6, 2) := by decide +kernel
theorem dMe_valueOf_59 : decode prog_6_method_15_code 59 = .ok (.ishl, 1) := by decide +kernel
theorem dMe_valueOf_60 : decode prog_6_method_15_code 60 = .ok (.ior, 1) := by decide +kernel
theorem dMe_valueOf_61 : decode prog_6_method_15_code 61 = .ok (.iaload, 1) := by decide +kernel
theorem dMe_valueOf_62 : decode prog_6_method_15_code 62 = .ok (.iaload, 1) := by decide +kernel
theorem dMe_valueOf_63 : decode prog_6_method_15_code 63 = .ok (.imul, 1) := by decide +kernel
theorem dMe_valueOf_64 : decode prog_6_method_15_code 64 = .ok (.iadd, 1) := by decide +kernel
theorem dMe_valueOf_65 : decode prog_6_method_15_code 65 = .ok (.istore_n 3, 1) := by decide +kernel
theorem dMe_valueOf_66 : decode prog_6_method_15_code 66 = .ok (.iinc 4 1, 3) := by decide +kernel
theorem dMe_valueOf_69 : decode prog_6_method_15_code 69 = .ok (.iinc 6 1, 3) := by decide +kernel
theorem dMe_valueOf_72 : decode prog_6_method_15_code 72 = .ok (.goto (-49), 3) := by decide +kernel
theorem dMe_valueOf_75 : decode prog_6_method_15_code 75 = .ok (.iinc 5 1, 3) := by decide +kernel
theorem dMe_valueOf_78 : decode prog_6_method_15_code 78 = .ok (.goto (-70), 3) := by decide +kernel
theorem dMe_valueOf_81 : decode prog_6_method_15_code 81 = .ok (.iload_n 3, 1) := by decide +kernel
theorem dMe_valueOf_82 : decode prog_6_method_15_code 82 = .ok (.ireturn, 1) := by decide +kernel
theorem t_Me_valueOf {d : Nat} {x1 x2 : Int} {σ : SG} {Q : Int → SG → Prop} (h : L (d + 1) M_Me_valueOf 8 [vA 68, vA x1, vA x2, vI 0, vI 0, vI 0, vU] [] σ Q) : Tri (d + 1) M_Me_valueOf [vA 68, vA x1, vA x2] σ Q :=
  Tri_intro rfl (Nat.le_of_ble_eq_true rfl) (ls := [vA 68, vA x1, vA x2, vU, vU, vU, vU]) rfl (fun hok => L_iconst dMe_valueOf_0 in_0 (L_istore_n dMe_valueOf_1 (by decide) (L_iconst dMe_valueOf_2 in_0 (L_istore dMe_valueOf_3 (by decide) (L_iconst dMe_valueOf_5 in_0 (L_istore dMe_valueOf_6 (by decide) (h)))))))
theorem s_Me_valueOf_8 {d : Nat} {x1 x2 x3 x4 x5 : Int} {σ : SG} {Q : Int → SG → Prop} (h : obok 10 x1 ∧ (σ x1 2 ≤ x5 → Q x3 σ) ∧ (x5 < σ x1 2 → L (d + 1) M_Me_valueOf 23 [vA 68, vA x1, vA x2, vI x3, vI x4, vI x5, vI (w32 (x5 + 1))] [] σ Q)) : L (d + 1) M_Me_valueOf 8 [vA 68, vA x1, vA x2, vI x3, vI x4, vI x5, vU] [] σ Q :=
  L_iload dMe_valueOf_8 rfl (L_aload_n dMe_valueOf_10 rfl (L_getf fw_Me_39 rfl dMe_valueOf_11 ⟨h.1, L_icmp_ge dMe_valueOf_14 (by decide) ⟨fun c1 => L_iload_n dMe_valueOf_81 rfl (L_ireturn rfl dMe_valueOf_82 (h.2.1 c1)), fun c1 => L_iload dMe_valueOf_17 rfl (L_iconst dMe_valueOf_19 in_1 (L_iadd dMe_valueOf_20 (L_istore dMe_valueOf_21 (by decide) (h.2.2 c1))))⟩⟩))
theorem s_Me_valueOf_23 {d : Nat} {x1 x2 x3 x4 x5 x6 : Int} {σ : SG} {Q : Int → SG → Prop} (h : obok 10 x1 ∧ (σ x1 2 ≤ x6 → L (d + 1) M_Me_valueOf 8 [vA 68, vA x1, vA x2, vI x3, vI x4, vI (w32 (x5 + 1)), vU] [] σ Q) ∧ (x6 < σ x1 2 → (kd x2).1 = 100 ∧ (((kd x2).2 : Int) ≤ x4 → L (d + 1) M_Me_valueOf 8 [vA 68, vA x1, vA x2, vI x3, vI x4, vI (w32 (x5 + 1)), vU] [] σ Q) ∧ (x4 < ((kd x2).2 : Int) → rdok 100 x2 x4 ∧ (0 ≤ or32 (shl32 1 x5) (shl32 1 x6) ∧ or32 (shl32 1 x5) (shl32 1 x6) < 32) ∧ (0 ≤ σ 77 (or32 (shl32 1 x5) (shl32 1 x6)) ∧ σ 77 (or32 (shl32 1 x5) (shl32 1 x6)) < 25) ∧ L (d + 1) M_Me_valueOf 23 [vA 68, vA x1, vA x2, vI (w32 (x3 + (w32 ((σ x2 x4) * (σ 72 (σ 77 (or32 (shl32 1 x5) (shl32 1 x6)))))))), vI (w32 (x4 + 1)), vI x5, vI (w32 (x6 + 1))] [] σ Q))) : L (d + 1) M_Me_valueOf 23 [vA 68, vA x1, vA x2, vI x3, vI x4, vI x5, vI x6] [] σ Q :=
  L_iload dMe_valueOf_23 rfl (L_aload_n dMe_valueOf_25 rfl (L_getf fw_Me_39 rfl dMe_valueOf_26 ⟨h.1, L_icmp_ge dMe_valueOf_29 (by decide) ⟨fun c1 => L_iinc dMe_valueOf_75 rfl (by decide) (L_goto dMe_valueOf_78 (by decide) (L_weak [true, true, true, true, true, true, false] (h.2.1 c1))), fun c1 => L_iload dMe_valueOf_32 rfl (L_aload_n dMe_valueOf_34 rfl (L_alenU dMe_valueOf_35 ⟨(h.2.2 c1).1, L_icmp_ge dMe_valueOf_36 (by decide) ⟨fun c2 => L_iinc dMe_valueOf_75 rfl (by decide) (L_goto dMe_valueOf_78 (by decide) (L_weak [true, true, true, true, true, true, false] ((h.2.2 c1).2.1 c2))), fun c2 => L_iload_n dMe_valueOf_39 rfl (L_aload_n dMe_valueOf_40 rfl (L_iload dMe_valueOf_41 rfl (L_iaload dMe_valueOf_43 ⟨((h.2.2 c1).2.2 c2).1, L_aload_n dMe_valueOf_44 rfl (L_getF (b := 72) fw_Me_20 rfl rfl (by decide) dMe_valueOf_45 ⟨ob_68, L_aload_n dMe_valueOf_48 rfl (L_getF (b := 77) fw_Me_36 rfl rfl (by decide) dMe_valueOf_49 ⟨ob_68, L_iconst dMe_valueOf_52 in_1 (L_iload dMe_valueOf_53 rfl (L_ishl dMe_valueOf_55 (L_iconst dMe_valueOf_56 in_1 (L_iload dMe_valueOf_57 rfl (L_ishl dMe_valueOf_59 (L_ior dMe_valueOf_60 (L_ialoadL kd_77 dMe_valueOf_61 ⟨((h.2.2 c1).2.2 c2).2.1, L_ialoadL kd_72 dMe_valueOf_62 ⟨((h.2.2 c1).2.2 c2).2.2.1, L_imul dMe_valueOf_63 (L_iadd dMe_valueOf_64 (L_istore_n dMe_valueOf_65 (by decide) (L_iinc dMe_valueOf_66 rfl (by decide) (L_iinc dMe_valueOf_69 rfl (by decide) (L_goto dMe_valueOf_72 (by decide) (((h.2.2 c1).2.2 c2).2.2.2))))))⟩⟩)))))))⟩)⟩)⟩)))⟩⟩))⟩⟩))
