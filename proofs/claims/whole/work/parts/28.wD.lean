theorem dTo_append_0 : decode prog_10_method_2_code 0 = .ok (.bipush 24, 2) := by decide +kernel
theorem dTo_append_2 : decode prog_10_method_2_code 2 = .ok (.istore_n 2, 1) := by decide +kernel
theorem dTo_append_3 : decode prog_10_method_2_code 3 = .ok (.iload_n 2, 1) := by decide +kernel
theorem dTo_append_4 : decode prog_10_method_2_code 4 = .ok (.ifCond .lt 42, 3) := by decide +kernel
theorem dTo_append_7 : decode prog_10_method_2_code 7 = .ok (.aload_n 0, 1) := by decide +kernel
theorem dTo_append_8 : decode prog_10_method_2_code 8 = .ok (.getfield 22, 3) := by decide +kernel
theorem dTo_append_11 : decode prog_10_method_2_code 11 = .ok (.sipush 600, 3) := by decide +kernel
theorem dTo_append_14 : decode prog_10_method_2_code 14 = .ok (.if_icmp .ge 32, 3) := by decide +kernel
theorem dTo_append_17 : decode prog_10_method_2_code 17 = .ok (.aload_n 0, 1) := by decide +kernel
theorem dTo_append_18 : decode prog_10_method_2_code 18 = .ok (.getfield 18, 3) := by decide +kernel
theorem dTo_append_21 : decode prog_10_method_2_code 21 = .ok (.aload_n 0, 1) := by decide +kernel
theorem dTo_append_22 : decode prog_10_method_2_code 22 = .ok (.getfield 22, 3) := by decide +kernel
theorem dTo_append_25 : decode prog_10_method_2_code 25 = .ok (.iload_n 1, 1) := by decide +kernel
theorem dTo_append_26 : decode prog_10_method_2_code 26 = .ok (.iload_n 2, 1) := by decide +kernel
theorem dTo_append_27 : decode prog_10_method_2_code 27 = .ok (.ishr, 1) := by decide +kernel
theorem dTo_append_28 : decode prog_10_method_2_code 28 = .ok (.i2b, 1) := by decide +kernel
theorem dTo_append_29 : decode prog_10_method_2_code 29 = .ok (.bastore, 1) := by decide +kernel
theorem dTo_append_30 : decode prog_10_method_2_code 30 = .ok (.aload_n 0, 1) := by decide +kernel
theorem dTo_append_31 : decode prog_10_method_2_code 31 = .ok (.dup, 1) := by decide +kernel
theorem dTo_append_32 : decode prog_10_method_2_code 32 = .ok (.getfield 22, 3) := by decide +kernel
theorem dTo_append_35 : decode prog_10_method_2_code 35 = .ok (.iconst 1, 1) := by decide +kernel
theorem dTo_append_36 : decode prog_10_method_2_code 36 = .ok (.iadd, 1) := by decide +kernel
theorem dTo_append_37 : decode prog_10_method_2_code 37 = .ok (.putfield 22, 3) := by decide +kernel
theorem dTo_append_40 : decode prog_10_method_2_code 40 = .ok (.iinc 2 (-8), 3) := by decide +kernel
theorem dTo_append_43 : decode prog_10_method_2_code 43 = .ok (.goto (-40), 3) := by decide +kernel
theorem dTo_append_46 : decode prog_10_method_2_code 46 = .ok (.return_, 1) := by decide +kernel
theorem t_To_append {d : Nat} {x1 : Int} {σ : SG} {Q : Int → SG → Prop} (h : inI x1 → (L (d + 1) M_To_append 3 [vA 22, vI x1, vI 24] [] σ Q)) : Tri (d + 1) M_To_append [vA 22, vI x1] σ Q :=
  Tri_intro rfl (Nat.le_of_ble_eq_true rfl) (ls := [vA 22, vI x1, vU]) rfl (fun hok => L_bipush dTo_append_0 bp_24 in_24 (L_istore_n dTo_append_2 (by decide) ((h (hok _ (List.mem_of_getElem? (i := 1) rfl))))))
theorem s_To_append_3 {d : Nat} {x1 x2 : Int} {σ : SG} {Q : Int → SG → Prop} (h : (x2 < 0 → Q 0 σ) ∧ (0 ≤ x2 → (600 ≤ σ 22 0 → Q 0 σ) ∧ (σ 22 0 < 600 → (0 ≤ σ 22 0 ∧ σ 22 0 < 600) ∧ (∀ σ3, σ3 = up σ 23 (σ 22 0) (i2b (i2b (shr32 x1 x2))) → (∀ σ4, σ4 = up σ3 22 0 (w32 ((σ3 22 0) + 1)) → L (d + 1) M_To_append 3 [vA 22, vI x1, vI (w32 (x2 + (-8)))] [] σ4 Q))))) : L (d + 1) M_To_append 3 [vA 22, vI x1, vI x2] [] σ Q :=
  L_iload_n dTo_append_3 rfl (L_if_lt dTo_append_4 (by decide) ⟨fun c1 => L_return rfl dTo_append_46 (h.1 c1), fun c1 => L_aload_n dTo_append_7 rfl (L_getf fw_To_22 rfl dTo_append_8 ⟨ob_22, L_sipush dTo_append_11 sp_600 in_600 (L_icmp_ge dTo_append_14 (by decide) ⟨fun c2 => L_return rfl dTo_append_46 ((h.2 c1).1 c2), fun c2 => L_aload_n dTo_append_17 rfl (L_getF (b := 23) fw_To_18 rfl rfl (by decide) dTo_append_18 ⟨ob_22, L_aload_n dTo_append_21 rfl (L_getf fw_To_22 rfl dTo_append_22 ⟨ob_22, L_iload_n dTo_append_25 rfl (L_iload_n dTo_append_26 rfl (L_ishr dTo_append_27 (L_i2b dTo_append_28 (L_bastoreL (by decide) kd_23 dTo_append_29 ⟨((h.2 c1).2 c2).1, fun σ3 e3 => L_aload_n dTo_append_30 rfl (L_dup dTo_append_31 n21 (L_getf fw_To_22 rfl dTo_append_32 ⟨ob_22, L_iconst dTo_append_35 in_1 (L_iadd dTo_append_36 (L_putfN fp_To_22 rfl rfl (fun _ => ⟨rfl, rfl⟩) dTo_append_37 ⟨ob_22, fun σ4 e4 => L_iinc dTo_append_40 rfl (by decide) (L_goto dTo_append_43 (by decide) ((((h.2 c1).2 c2).2 σ3 e3) σ4 e4))⟩))⟩))⟩))))⟩)⟩)⟩)⟩)⟩)
theorem dTo_begin_0 : decode prog_10_method_3_code 0 = .ok (.aload_n 0, 1) := by decide +kernel
theorem dTo_begin_1 : decode prog_10_method_3_code 1 = .ok (.iconst 0, 1) := by decide +kernel
theorem dTo_begin_2 : decode prog_10_method_3_code 2 = .ok (.iload_n 1, 1) := by decide +kernel
theorem dTo_begin_3 : decode prog_10_method_3_code 3 = .ok (.sipush 600, 3) := by decide +kernel
theorem dTo_begin_6 : decode prog_10_method_3_code 6 = .ok (.invokestatic 25, 3) := by decide +kernel
theorem dTo_begin_9 : decode prog_10_method_3_code 9 = .ok (.invokestatic 31, 3) := by decide +kernel
theorem dTo_begin_12 : decode prog_10_method_3_code 12 = .ok (.putfield 34, 3) := by decide +kernel
theorem dTo_begin_15 : decode prog_10_method_3_code 15 = .ok (.aload_n 0, 1) := by decide +kernel
theorem dTo_begin_16 : decode prog_10_method_3_code 16 = .ok (.iconst 0, 1) := by decide +kernel
theorem dTo_begin_17 : decode prog_10_method_3_code 17 = .ok (.putfield 37, 3) := by decide +kernel
theorem dTo_begin_20 : decode prog_10_method_3_code 20 = .ok (.aload_n 0, 1) := by decide +kernel
theorem dTo_begin_21 : decode prog_10_method_3_code 21 = .ok (.invokevirtual 40, 3) := by decide +kernel
theorem dTo_begin_24 : decode prog_10_method_3_code 24 = .ok (.return_, 1) := by decide +kernel
theorem t_To_begin {d : Nat} {x1 : Int} {σ : SG} {Q : Int → SG → Prop} (h : inI x1 → ((∀ σ1, σ1 = up σ 22 5 (max 0 (min x1 600)) → (∀ σ2, σ2 = up σ1 22 7 0 → Tri d M_To_advance [vA 22] σ2 (fun r3 σ3 => Q 0 σ3))))) : Tri (d + 1) M_To_begin [vA 22, vI x1] σ Q :=
  Tri_intro rfl (Nat.le_of_ble_eq_true rfl) (ls := [vA 22, vI x1]) rfl (fun hok => L_aload_n dTo_begin_0 rfl (L_iconst dTo_begin_1 in_0 (L_iload_n dTo_begin_2 rfl (L_sipush dTo_begin_3 sp_600 in_600 (L_min (tk3 69 rfl rfl) (Nat.le_of_ble_eq_true rfl) dTo_begin_6 (L_max (tk3 70 rfl rfl) (Nat.le_of_ble_eq_true rfl) dTo_begin_9 (L_putfN fp_To_34 rfl rfl (fun _ => ⟨rfl, rfl⟩) dTo_begin_12 ⟨ob_22, fun σ1 e1 => L_aload_n dTo_begin_15 rfl (L_iconst dTo_begin_16 in_0 (L_putfN fp_To_37 rfl rfl (fun _ => ⟨rfl, rfl⟩) dTo_begin_17 ⟨ob_22, fun σ2 e2 => L_aload_n dTo_begin_20 rfl (L_callVV rfl cv_To_advance (As := []) rfl (tk3 71 rfl rfl) rfl (Nat.le_of_ble_eq_true rfl) dTo_begin_21 ⟨ob_22, Tri.mono (((h (hok _ (List.mem_of_getElem? (i := 1) rfl))) σ1 e1) σ2 e2) (fun r3 σ3 q3 => L_return rfl dTo_begin_24 q3)⟩)⟩))⟩)))))))
theorem dTo_advance_0 : decode prog_10_method_4_code 0 = .ok (.aload_n 0, 1) := by decide +kernel
theorem dTo_advance_1 : decode prog_10_method_4_code 1 = .ok (.aload_n 0, 1) := by decide +kernel
theorem dTo_advance_2 : decode prog_10_method_4_code 2 = .ok (.getfield 37, 3) := by decide +kernel
theorem dTo_advance_5 : decode prog_10_method_4_code 5 = .ok (.putfield 43, 3) := by decide +kernel
theorem dTo_advance_8 : decode prog_10_method_4_code 8 = .ok (.aload_n 0, 1) := by decide +kernel
theorem dTo_advance_9 : decode prog_10_method_4_code 9 = .ok (.getfield 43, 3) := by decide +kernel
theorem dTo_advance_12 : decode prog_10_method_4_code 12 = .ok (.aload_n 0, 1) := by decide +kernel
theorem dTo_advance_13 : decode prog_10_method_4_code 13 = .ok (.getfield 34, 3) := by decide +kernel
theorem dTo_advance_16 : decode prog_10_method_4_code 16 = .ok (.if_icmp .ge 31, 3) := by decide +kernel
theorem dTo_advance_19 : decode prog_10_method_4_code 19 = .ok (.aload_n 0, 1) := by decide +kernel
theorem dTo_advance_20 : decode prog_10_method_4_code 20 = .ok (.getfield 18, 3) := by decide +kernel
theorem dTo_advance_23 : decode prog_10_method_4_code 23 = .ok (.aload_n 0, 1) := by decide +kernel
theorem dTo_advance_24 : decode prog_10_method_4_code 24 = .ok (.getfield 43, 3) := by decide +kernel
theorem dTo_advance_27 : decode prog_10_method_4_code 27 = .ok (.baload, 1) := by decide +kernel
theorem dTo_advance_28 : decode prog_10_method_4_code 28 = .ok (.invokestatic 46, 3) := by decide +kernel
theorem dTo_advance_31 : decode prog_10_method_4_code 31 = .ok (.ifCond .eq 16, 3) := by decide +kernel
theorem dTo_advance_34 : decode prog_10_method_4_code 34 = .ok (.aload_n 0, 1) := by decide +kernel
theorem dTo_advance_35 : decode prog_10_method_4_code 35 = .ok (.dup, 1) := by decide +kernel
theorem dTo_advance_36 : decode prog_10_method_4_code 36 = .ok (.getfield 43, 3) := by decide +kernel
theorem dTo_advance_39 : decode prog_10_method_4_code 39 = .ok (.iconst 1, 1) := by decide +kernel
theorem dTo_advance_40 : decode prog_10_method_4_code 40 = .ok (.iadd, 1) := by decide +kernel
theorem dTo_advance_41 : decode prog_10_method_4_code 41 = .ok (.putfield 43, 3) := by decide +kernel
theorem dTo_advance_44 : decode prog_10_method_4_code 44 = .ok (.goto (-36), 3) := by decide +kernel
theorem dTo_advance_47 : decode prog_10_method_4_code 47 = .ok (.aload_n 0, 1) := by decide +kernel
theorem dTo_advance_48 : decode prog_10_method_4_code 48 = .ok (.aload_n 0, 1) := by decide +kernel
theorem dTo_advance_49 : decode prog_10_method_4_code 49 = .ok (.getfield 43, 3) := by decide +kernel
theorem dTo_advance_52 : decode prog_10_method_4_code 52 = .ok (.putfield 37, 3) := by decide +kernel
theorem dTo_advance_55 : decode prog_10_method_4_code 55 = .ok (.aload_n 0, 1) := by decide +kernel
theorem dTo_advance_56 : decode prog_10_method_4_code 56 = .ok (.getfield 43, 3) := by decide +kernel
theorem dTo_advance_59 : decode prog_10_method_4_code 59 = .ok (.aload_n 0, 1) := by decide +kernel
theorem dTo_advance_60 : decode prog_10_method_4_code 60 = .ok (.getfield 34, 3) := by decide +kernel
theorem dTo_advance_63 : decode prog_10_method_4_code 63 = .ok (.if_icmp .lt 9, 3) := by decide +kernel
theorem dTo_advance_66 : decode prog_10_method_4_code 66 = .ok (.aload_n 0, 1) := by decide +kernel
theorem dTo_advance_67 : decode prog_10_method_4_code 67 = .ok (.iconst 0, 1) := by decide +kernel
theorem dTo_advance_68 : decode prog_10_method_4_code 68 = .ok (.putfield 50, 3) := by decide +kernel
theorem dTo_advance_71 : decode prog_10_method_4_code 71 = .ok (.return_, 1) := by decide +kernel
theorem dTo_advance_72 : decode prog_10_method_4_code 72 = .ok (.aload_n 0, 1) := by decide +kernel
theorem dTo_advance_73 : decode prog_10_method_4_code 73 = .ok (.getfield 18, 3) := by decide +kernel
theorem dTo_advance_76 : decode prog_10_method_4_code 76 = .ok (.aload_n 0, 1) := by decide +kernel
theorem dTo_advance_77 : decode prog_10_method_4_code 77 = .ok (.getfield 43, 3) := by decide +kernel
theorem dTo_advance_80 : decode prog_10_method_4_code 80 = .ok (.baload, 1) := by decide +kernel
theorem dTo_advance_81 : decode prog_10_method_4_code 81 = .ok (.istore_n 1, 1) := by decide +kernel
theorem dTo_advance_82 : decode prog_10_method_4_code 82 = .ok (.iload_n 1, 1) := by decide +kernel
theorem dTo_advance_83 : decode prog_10_method_4_code 83 = .ok (.invokestatic 53, 3) := by decide +kernel
theorem dTo_advance_86 : decode prog_10_method_4_code 86 = .ok (.ifCond .eq 47, 3) := by decide +kernel
theorem dTo_advance_89 : decode prog_10_method_4_code 89 = .ok (.aload_n 0, 1) := by decide +kernel
theorem dTo_advance_90 : decode prog_10_method_4_code 90 = .ok (.iconst 1, 1) := by decide +kernel
theorem dTo_advance_91 : decode prog_10_method_4_code 91 = .ok (.putfield 50, 3) := by decide +kernel
theorem dTo_advance_94 : decode prog_10_method_4_code 94 = .ok (.aload_n 0, 1) := by decide +kernel
theorem dTo_advance_95 : decode prog_10_method_4_code 95 = .ok (.getfield 37, 3) := by decide +kernel
theorem dTo_advance_98 : decode prog_10_method_4_code 98 = .ok (.aload_n 0, 1) := by decide +kernel
theorem dTo_advance_99 : decode prog_10_method_4_code 99 = .ok (.getfield 34, 3) := by decide +kernel
theorem dTo_advance_102 : decode prog_10_method_4_code 102 = .ok (.if_icmp .ge 194, 3) := by decide +kernel
theorem dTo_advance_105 : decode prog_10_method_4_code 105 = .ok (.aload_n 0, 1) := by decide +kernel
theorem dTo_advance_106 : decode prog_10_method_4_code 106 = .ok (.getfield 18, 3) := by decide +kernel
theorem dTo_advance_109 : decode prog_10_method_4_code 109 = .ok (.aload_n 0, 1) := by decide +kernel
theorem dTo_advance_110 : decode prog_10_method_4_code 110 = .ok (.getfield 37, 3) := by decide +kernel
theorem dTo_advance_113 : decode prog_10_method_4_code 113 = .ok (.baload, 1) := by decide +kernel
theorem dTo_advance_114 : decode prog_10_method_4_code 114 = .ok (.invokestatic 53, 3) := by decide +kernel
theorem dTo_advance_117 : decode prog_10_method_4_code 117 = .ok (.ifCond .eq 179, 3) := by decide +kernel
theorem dTo_advance_120 : decode prog_10_method_4_code 120 = .ok (.aload_n 0, 1) := by decide +kernel
theorem dTo_advance_121 : decode prog_10_method_4_code 121 = .ok (.dup, 1) := by decide +kernel
theorem dTo_advance_122 : decode prog_10_method_4_code 122 = .ok (.getfield 37, 3) := by decide +kernel
theorem dTo_advance_125 : decode prog_10_method_4_code 125 = .ok (.iconst 1, 1) := by decide +kernel
theorem dTo_advance_126 : decode prog_10_method_4_code 126 = .ok (.iadd, 1) := by decide +kernel
theorem dTo_advance_127 : decode prog_10_method_4_code 127 = .ok (.putfield 37, 3) := by decide +kernel
theorem dTo_advance_130 : decode prog_10_method_4_code 130 = .ok (.goto (-36), 3) := by decide +kernel
theorem dTo_advance_133 : decode prog_10_method_4_code 133 = .ok (.iload_n 1, 1) := by decide +kernel
theorem dTo_advance_134 : decode prog_10_method_4_code 134 = .ok (.invokestatic 56, 3) := by decide +kernel
theorem dTo_advance_137 : decode prog_10_method_4_code 137 = .ok (.ifCond .eq 116, 3) := by decide +kernel
theorem dTo_advance_140 : decode prog_10_method_4_code 140 = .ok (.aload_n 0, 1) := by decide +kernel
theorem dTo_advance_141 : decode prog_10_method_4_code 141 = .ok (.iconst 0, 1) := by decide +kernel
theorem dTo_advance_142 : decode prog_10_method_4_code 142 = .ok (.putfield 59, 3) := by decide +kernel
theorem dTo_advance_145 : decode prog_10_method_4_code 145 = .ok (.aload_n 0, 1) := by decide +kernel
theorem dTo_advance_146 : decode prog_10_method_4_code 146 = .ok (.getfield 37, 3) := by decide +kernel
theorem dTo_advance_149 : decode prog_10_method_4_code 149 = .ok (.aload_n 0, 1) := by decide +kernel
theorem dTo_advance_150 : decode prog_10_method_4_code 150 = .ok (.getfield 34, 3) := by decide +kernel
theorem dTo_advance_153 : decode prog_10_method_4_code 153 = .ok (.if_icmp .ge 75, 3) := by decide +kernel
theorem dTo_advance_156 : decode prog_10_method_4_code 156 = .ok (.aload_n 0, 1) := by decide +kernel
theorem dTo_advance_157 : decode prog_10_method_4_code 157 = .ok (.getfield 18, 3) := by decide +kernel
theorem dTo_advance_160 : decode prog_10_method_4_code 160 = .ok (.aload_n 0, 1) := by decide +kernel
theorem dTo_advance_161 : decode prog_10_method_4_code 161 = .ok (.getfield 37, 3) := by decide +kernel
theorem dTo_advance_164 : decode prog_10_method_4_code 164 = .ok (.baload, 1) := by decide +kernel
theorem dTo_advance_165 : decode prog_10_method_4_code 165 = .ok (.invokestatic 56, 3) := by decide +kernel
theorem dTo_advance_168 : decode prog_10_method_4_code 168 = .ok (.ifCond .eq 60, 3) := by decide +kernel
theorem dTo_advance_171 : decode prog_10_method_4_code 171 = .ok (.aload_n 0, 1) := by decide +kernel
theorem dTo_advance_172 : decode prog_10_method_4_code 172 = .ok (.aload_n 0, 1) := by decide +kernel
theorem dTo_advance_173 : decode prog_10_method_4_code 173 = .ok (.getfield 37, 3) := by decide +kernel
theorem dTo_advance_176 : decode prog_10_method_4_code 176 = .ok (.aload_n 0, 1) := by decide +kernel
theorem dTo_advance_177 : decode prog_10_method_4_code 177 = .ok (.getfield 43, 3) := by decide +kernel
theorem dTo_advance_180 : decode prog_10_method_4_code 180 = .ok (.isub, 1) := by decide +kernel
theorem dTo_advance_181 : decode prog_10_method_4_code 181 = .ok (.iconst 4, 1) := by decide +kernel
theorem dTo_advance_182 : decode prog_10_method_4_code 182 = .ok (.if_icmp .ge 26, 3) := by decide +kernel
theorem dTo_advance_185 : decode prog_10_method_4_code 185 = .ok (.aload_n 0, 1) := by decide +kernel
theorem dTo_advance_186 : decode prog_10_method_4_code 186 = .ok (.getfield 59, 3) := by decide +kernel
theorem dTo_advance_189 : decode prog_10_method_4_code 189 = .ok (.bipush 10, 2) := by decide +kernel
theorem dTo_advance_191 : decode prog_10_method_4_code 191 = .ok (.imul, 1) := by decide +kernel
theorem dTo_advance_192 : decode prog_10_method_4_code 192 = .ok (.aload_n 0, 1) := by decide +kernel
theorem dTo_advance_193 : decode prog_10_method_4_code 193 = .ok (.getfield 18, 3) := by decide +kernel
theorem dTo_advance_196 : decode prog_10_method_4_code 196 = .ok (.aload_n 0, 1) := by decide +kernel
theorem dTo_advance_197 : decode prog_10_method_4_code 197 = .ok (.getfield 37, 3) := by decide +kernel
theorem dTo_advance_200 : decode prog_10_method_4_code 200 = .ok (.baload, 1) := by decide +kernel
theorem dTo_advance_201 : decode prog_10_method_4_code 201 = .ok (.iadd, 1) := by decide +kernel
theorem dTo_advance_202 : decode prog_10_method_4_code 202 = .ok (.bipush 48, 2) := by decide +kernel
theorem dTo_advance_204 : decode prog_10_method_4_code 204 = .ok (.isub, 1) := by decide +kernel
theorem dTo_advance_205 : decode prog_10_method_4_code 205 = .ok (.goto 7, 3) := by decide +kernel
theorem dTo_advance_208 : decode prog_10_method_4_code 208 = .ok (.aload_n 0, 1) := by decide +kernel
theorem dTo_advance_209 : decode prog_10_method_4_code 209 = .ok (.getfield 59, 3) := by decide +kernel
theorem dTo_advance_212 : decode prog_10_method_4_code 212 = .ok (.putfield 59, 3) := by decide +kernel
theorem dTo_advance_215 : decode prog_10_method_4_code 215 = .ok (.aload_n 0, 1) := by decide +kernel
theorem dTo_advance_216 : decode prog_10_method_4_code 216 = .ok (.dup, 1) := by decide +kernel
theorem dTo_advance_217 : decode prog_10_method_4_code 217 = .ok (.getfield 37, 3) := by decide +kernel
theorem dTo_advance_220 : decode prog_10_method_4_code 220 = .ok (.iconst 1, 1) := by decide +kernel
theorem dTo_advance_221 : decode prog_10_method_4_code 221 = .ok (.iadd, 1) := by decide +kernel
theorem dTo_advance_222 : decode prog_10_method_4_code 222 = .ok (.putfield 37, 3) := by decide +kernel
theorem dTo_advance_225 : decode prog_10_method_4_code 225 = .ok (.goto (-80), 3) := by decide +kernel
theorem dTo_advance_228 : decode prog_10_method_4_code 228 = .ok (.aload_n 0, 1) := by decide +kernel
theorem dTo_advance_229 : decode prog_10_method_4_code 229 = .ok (.aload_n 0, 1) := by decide +kernel
theorem dTo_advance_230 : decode prog_10_method_4_code 230 = .ok (.getfield 37, 3) := by decide +kernel
theorem dTo_advance_233 : decode prog_10_method_4_code 233 = .ok (.aload_n 0, 1) := by decide +kernel
theorem dTo_advance_234 : decode prog_10_method_4_code 234 = .ok (.getfield 43, 3) := by decide +kernel
theorem dTo_advance_237 : decode prog_10_method_4_code 237 = .ok (.isub, 1) := by decide +kernel
theorem dTo_advance_238 : decode prog_10_method_4_code 238 = .ok (.iconst 4, 1) := by decide +kernel
theorem dTo_advance_239 : decode prog_10_method_4_code 239 = .ok (.if_icmp .le 7, 3) := by decide +kernel
theorem dTo_advance_242 : decode prog_10_method_4_code 242 = .ok (.iconst 4, 1) := by decide +kernel
theorem dTo_advance_243 : decode prog_10_method_4_code 243 = .ok (.goto 4, 3) := by decide +kernel
theorem dTo_advance_246 : decode prog_10_method_4_code 246 = .ok (.iconst 2, 1) := by decide +kernel
theorem dTo_advance_247 : decode prog_10_method_4_code 247 = .ok (.putfield 50, 3) := by decide +kernel
theorem dTo_advance_250 : decode prog_10_method_4_code 250 = .ok (.goto 46, 3) := by decide +kernel
theorem dTo_advance_253 : decode prog_10_method_4_code 253 = .ok (.aload_n 0, 1) := by decide +kernel
theorem dTo_advance_254 : decode prog_10_method_4_code 254 = .ok (.aload_n 0, 1) := by decide +kernel
theorem dTo_advance_255 : decode prog_10_method_4_code 255 = .ok (.getfield 43, 3) := by decide +kernel
theorem dTo_advance_258 : decode prog_10_method_4_code 258 = .ok (.iconst 1, 1) := by decide +kernel
theorem dTo_advance_259 : decode prog_10_method_4_code 259 = .ok (.iadd, 1) := by decide +kernel
theorem dTo_advance_260 : decode prog_10_method_4_code 260 = .ok (.putfield 37, 3) := by decide +kernel
theorem dTo_advance_263 : decode prog_10_method_4_code 263 = .ok (.aload_n 0, 1) := by decide +kernel
theorem dTo_advance_264 : decode prog_10_method_4_code 264 = .ok (.iload_n 1, 1) := by decide +kernel
theorem dTo_advance_265 : decode prog_10_method_4_code 265 = .ok (.bipush 59, 2) := by decide +kernel
theorem dTo_advance_267 : decode prog_10_method_4_code 267 = .ok (.if_icmp .eq 21, 3) := by decide +kernel
theorem dTo_advance_270 : decode prog_10_method_4_code 270 = .ok (.iload_n 1, 1) := by decide +kernel
theorem dTo_advance_271 : decode prog_10_method_4_code 271 = .ok (.bipush 60, 2) := by decide +kernel
theorem dTo_advance_273 : decode prog_10_method_4_code 273 = .ok (.if_icmp .eq 15, 3) := by decide +kernel
theorem dTo_advance_276 : decode prog_10_method_4_code 276 = .ok (.iload_n 1, 1) := by decide +kernel
theorem dTo_advance_277 : decode prog_10_method_4_code 277 = .ok (.bipush 62, 2) := by decide +kernel
theorem dTo_advance_279 : decode prog_10_method_4_code 279 = .ok (.if_icmp .eq 9, 3) := by decide +kernel
theorem dTo_advance_282 : decode prog_10_method_4_code 282 = .ok (.iload_n 1, 1) := by decide +kernel
theorem dTo_advance_283 : decode prog_10_method_4_code 283 = .ok (.bipush 61, 2) := by decide +kernel
theorem dTo_advance_285 : decode prog_10_method_4_code 285 = .ok (.if_icmp .ne 7, 3) := by decide +kernel
theorem dTo_advance_288 : decode prog_10_method_4_code 288 = .ok (.iconst 3, 1) := by decide +kernel
theorem dTo_advance_289 : decode prog_10_method_4_code 289 = .ok (.goto 4, 3) := by decide +kernel
theorem dTo_advance_292 : decode prog_10_method_4_code 292 = .ok (.iconst 4, 1) := by decide +kernel
theorem dTo_advance_293 : decode prog_10_method_4_code 293 = .ok (.putfield 50, 3) := by decide +kernel
theorem dTo_advance_296 : decode prog_10_method_4_code 296 = .ok (.return_, 1) := by decide +kernel
theorem t_To_advance {d : Nat} {σ : SG} {Q : Int → SG → Prop} (h : (∀ σ1, σ1 = up σ 22 6 (σ 22 7) → L (d + 1) M_To_advance 8 [vA 22, vU] [] σ1 Q)) : Tri (d + 1) M_To_advance [vA 22] σ Q :=
  Tri_intro rfl (Nat.le_of_ble_eq_true rfl) (ls := [vA 22, vU]) rfl (fun hok => L_aload_n dTo_advance_0 rfl (L_aload_n dTo_advance_1 rfl (L_getf fw_To_37 rfl dTo_advance_2 ⟨ob_22, L_putfN fp_To_43 rfl rfl (fun _ => ⟨rfl, rfl⟩) dTo_advance_5 ⟨ob_22, fun σ1 e1 => (h σ1 e1)⟩⟩)))
theorem s_To_advance_8 {d : Nat} {σ : SG} {Q : Int → SG → Prop} (h : (σ 22 5 ≤ σ 22 6 → L (d + 1) M_To_advance 47 [vA 22, vU] [] σ Q) ∧ (σ 22 6 < σ 22 5 → (0 ≤ σ 22 6 ∧ σ 22 6 < 600) ∧ Tri d M_To_isBlank [vI (σ 23 (σ 22 6))] σ (fun r2 σ2 => (r2 = 0 → L (d + 1) M_To_advance 47 [vA 22, vU] [] σ2 Q) ∧ (r2 ≠ 0 → (∀ σ4, σ4 = up σ2 22 6 (w32 ((σ2 22 6) + 1)) → L (d + 1) M_To_advance 8 [vA 22, vU] [] σ4 Q))))) : L (d + 1) M_To_advance 8 [vA 22, vU] [] σ Q :=
  L_aload_n dTo_advance_8 rfl (L_getf fw_To_43 rfl dTo_advance_9 ⟨ob_22, L_aload_n dTo_advance_12 rfl (L_getf fw_To_34 rfl dTo_advance_13 ⟨ob_22, L_icmp_ge dTo_advance_16 (by decide) ⟨fun c1 => (h.1 c1), fun c1 => L_aload_n dTo_advance_19 rfl (L_getF (b := 23) fw_To_18 rfl rfl (by decide) dTo_advance_20 ⟨ob_22, L_aload_n dTo_advance_23 rfl (L_getf fw_To_43 rfl dTo_advance_24 ⟨ob_22, L_baloadL kd_23 dTo_advance_27 ⟨(h.2 c1).1, L_callSI rfl cs_To_isBlank (As := [vI (σ 23 (σ 22 6))]) rfl (tk3 75 rfl rfl) rfl (Nat.le_of_ble_eq_true rfl) dTo_advance_28 (Tri.mono ((h.2 c1).2) (fun r2 σ2 q2 => L_if_eq dTo_advance_31 (by decide) ⟨fun c3 => (q2.1 c3), fun c3 => L_aload_n dTo_advance_34 rfl (L_dup dTo_advance_35 n21 (L_getf fw_To_43 rfl dTo_advance_36 ⟨ob_22, L_iconst dTo_advance_39 in_1 (L_iadd dTo_advance_40 (L_putfN fp_To_43 rfl rfl (fun _ => ⟨rfl, rfl⟩) dTo_advance_41 ⟨ob_22, fun σ4 e4 => L_goto dTo_advance_44 (by decide) ((q2.2 c3) σ4 e4)⟩))⟩))⟩))⟩⟩)⟩)⟩⟩)⟩)
theorem s_To_advance_47 {d : Nat} {σ : SG} {Q : Int → SG → Prop} (h : (∀ σ1, σ1 = up σ 22 7 (σ 22 6) → (σ1 22 6 < σ1 22 5 → (0 ≤ σ1 22 6 ∧ σ1 22 6 < 600) ∧ Tri d M_To_isLetter [vI (σ1 23 (σ1 22 6))] σ1 (fun r3 σ3 => (r3 = 0 → Tri d M_To_isDigit [vI (σ1 23 (σ1 22 6))] σ3 (fun r5 σ5 => (r5 = 0 → (∀ σ7, σ7 = up σ5 22 7 (w32 ((σ5 22 6) + 1)) → (σ1 23 (σ1 22 6) = 59 → (∀ σ9, σ9 = up σ7 22 8 3 → Q 0 σ9)) ∧ (σ1 23 (σ1 22 6) ≠ 59 → (σ1 23 (σ1 22 6) = 60 → (∀ σ11, σ11 = up σ7 22 8 3 → Q 0 σ11)) ∧ (σ1 23 (σ1 22 6) ≠ 60 → (σ1 23 (σ1 22 6) = 62 → (∀ σ13, σ13 = up σ7 22 8 3 → Q 0 σ13)) ∧ (σ1 23 (σ1 22 6) ≠ 62 → (σ1 23 (σ1 22 6) ≠ 61 → (∀ σ15, σ15 = up σ7 22 8 4 → Q 0 σ15)) ∧ (σ1 23 (σ1 22 6) = 61 → (∀ σ16, σ16 = up σ7 22 8 3 → Q 0 σ16))))))) ∧ (r5 ≠ 0 → (∀ σ17, σ17 = up σ5 22 1 0 → L (d + 1) M_To_advance 145 [vA 22, vU] [] σ17 Q)))) ∧ (r3 ≠ 0 → (∀ σ18, σ18 = up σ3 22 8 1 → L (d + 1) M_To_advance 94 [vA 22, vU] [] σ18 Q)))) ∧ (σ1 22 5 ≤ σ1 22 6 → (∀ σ19, σ19 = up σ1 22 8 0 → Q 0 σ19)))) : L (d + 1) M_To_advance 47 [vA 22, vU] [] σ Q :=
  L_aload_n dTo_advance_47 rfl (L_aload_n dTo_advance_48 rfl (L_getf fw_To_43 rfl dTo_advance_49 ⟨ob_22, L_putfN fp_To_37 rfl rfl (fun _ => ⟨rfl, rfl⟩) dTo_advance_52 ⟨ob_22, fun σ1 e1 => L_aload_n dTo_advance_55 rfl (L_getf fw_To_43 rfl dTo_advance_56 ⟨ob_22, L_aload_n dTo_advance_59 rfl (L_getf fw_To_34 rfl dTo_advance_60 ⟨ob_22, L_icmp_lt dTo_advance_63 (by decide) ⟨fun c2 => L_aload_n dTo_advance_72 rfl (L_getF (b := 23) fw_To_18 rfl rfl (by decide) dTo_advance_73 ⟨ob_22, L_aload_n dTo_advance_76 rfl (L_getf fw_To_43 rfl dTo_advance_77 ⟨ob_22, L_baloadL kd_23 dTo_advance_80 ⟨((h σ1 e1).1 c2).1, L_istore_n dTo_advance_81 (by decide) (L_iload_n dTo_advance_82 rfl (L_callSI rfl cs_To_isLetter (As := [vI (σ1 23 (σ1 22 6))]) rfl (tk3 78 rfl rfl) rfl (Nat.le_of_ble_eq_true rfl) dTo_advance_83 (Tri.mono (((h σ1 e1).1 c2).2) (fun r3 σ3 q3 => L_if_eq dTo_advance_86 (by decide) ⟨fun c4 => L_iload_n dTo_advance_133 rfl (L_callSI rfl cs_To_isDigit (As := [vI (σ1 23 (σ1 22 6))]) rfl (tk3 81 rfl rfl) rfl (Nat.le_of_ble_eq_true rfl) dTo_advance_134 (Tri.mono (q3.1 c4) (fun r5 σ5 q5 => L_if_eq dTo_advance_137 (by decide) ⟨fun c6 => L_aload_n dTo_advance_253 rfl (L_aload_n dTo_advance_254 rfl (L_getf fw_To_43 rfl dTo_advance_255 ⟨ob_22, L_iconst dTo_advance_258 in_1 (L_iadd dTo_advance_259 (L_putfN fp_To_37 rfl rfl (fun _ => ⟨rfl, rfl⟩) dTo_advance_260 ⟨ob_22, fun σ7 e7 => L_aload_n dTo_advance_263 rfl (L_iload_n dTo_advance_264 rfl (L_bipush dTo_advance_265 bp_59 in_59 (L_icmp_eq dTo_advance_267 (by decide) ⟨fun c8 => L_iconst dTo_advance_288 in_3 (L_goto dTo_advance_289 (by decide) (L_putfN fp_To_50 rfl rfl (fun _ => ⟨rfl, rfl⟩) dTo_advance_293 ⟨ob_22, fun σ9 e9 => L_return rfl dTo_advance_296 ((((q5.1 c6) σ7 e7).1 c8) σ9 e9)⟩)), fun c8 => L_iload_n dTo_advance_270 rfl (L_bipush dTo_advance_271 bp_60 in_60 (L_icmp_eq dTo_advance_273 (by decide) ⟨fun c10 => L_iconst dTo_advance_288 in_3 (L_goto dTo_advance_289 (by decide) (L_putfN fp_To_50 rfl rfl (fun _ => ⟨rfl, rfl⟩) dTo_advance_293 ⟨ob_22, fun σ11 e11 => L_return rfl dTo_advance_296 (((((q5.1 c6) σ7 e7).2 c8).1 c10) σ11 e11)⟩)), fun c10 => L_iload_n dTo_advance_276 rfl (L_bipush dTo_advance_277 bp_62 in_62 (L_icmp_eq dTo_advance_279 (by decide) ⟨fun c12 => L_iconst dTo_advance_288 in_3 (L_goto dTo_advance_289 (by decide) (L_putfN fp_To_50 rfl rfl (fun _ => ⟨rfl, rfl⟩) dTo_advance_293 ⟨ob_22, fun σ13 e13 => L_return rfl dTo_advance_296 ((((((q5.1 c6) σ7 e7).2 c8).2 c10).1 c12) σ13 e13)⟩)), fun c12 => L_iload_n dTo_advance_282 rfl (L_bipush dTo_advance_283 bp_61 in_61 (L_icmp_ne dTo_advance_285 (by decide) ⟨fun c14 => L_iconst dTo_advance_292 in_4 (L_putfN fp_To_50 rfl rfl (fun _ => ⟨rfl, rfl⟩) dTo_advance_293 ⟨ob_22, fun σ15 e15 => L_return rfl dTo_advance_296 (((((((q5.1 c6) σ7 e7).2 c8).2 c10).2 c12).1 c14) σ15 e15)⟩), fun c14 => L_iconst dTo_advance_288 in_3 (L_goto dTo_advance_289 (by decide) (L_putfN fp_To_50 rfl rfl (fun _ => ⟨rfl, rfl⟩) dTo_advance_293 ⟨ob_22, fun σ16 e16 => L_return rfl dTo_advance_296 (((((((q5.1 c6) σ7 e7).2 c8).2 c10).2 c12).2 c14) σ16 e16)⟩))⟩))⟩))⟩))⟩)))⟩))⟩)), fun c6 => L_aload_n dTo_advance_140 rfl (L_iconst dTo_advance_141 in_0 (L_putfN fp_To_59 rfl rfl (fun _ => ⟨rfl, rfl⟩) dTo_advance_142 ⟨ob_22, fun σ17 e17 => L_weak [true, false] ((q5.2 c6) σ17 e17)⟩))⟩))), fun c4 => L_aload_n dTo_advance_89 rfl (L_iconst dTo_advance_90 in_1 (L_putfN fp_To_50 rfl rfl (fun _ => ⟨rfl, rfl⟩) dTo_advance_91 ⟨ob_22, fun σ18 e18 => L_weak [true, false] ((q3.2 c4) σ18 e18)⟩))⟩))))⟩⟩)⟩), fun c2 => L_aload_n dTo_advance_66 rfl (L_iconst dTo_advance_67 in_0 (L_putfN fp_To_50 rfl rfl (fun _ => ⟨rfl, rfl⟩) dTo_advance_68 ⟨ob_22, fun σ19 e19 => L_return rfl dTo_advance_71 (((h σ1 e1).2 c2) σ19 e19)⟩))⟩⟩)⟩)⟩⟩))
theorem s_To_advance_145 {d : Nat} {σ : SG} {Q : Int → SG → Prop} (h : (σ 22 5 ≤ σ 22 7 → L (d + 1) M_To_advance 228 [vA 22, vU] [] σ Q) ∧ (σ 22 7 < σ 22 5 → (0 ≤ σ 22 7 ∧ σ 22 7 < 600) ∧ Tri d M_To_isDigit [vI (σ 23 (σ 22 7))] σ (fun r2 σ2 => (r2 = 0 → L (d + 1) M_To_advance 228 [vA 22, vU] [] σ2 Q) ∧ (r2 ≠ 0 → (4 ≤ w32 ((σ2 22 7) - (σ2 22 6)) → (∀ σ5, σ5 = up σ2 22 1 (σ2 22 1) → (∀ σ6, σ6 = up σ5 22 7 (w32 ((σ5 22 7) + 1)) → L (d + 1) M_To_advance 145 [vA 22, vU] [] σ6 Q))) ∧ (w32 ((σ2 22 7) - (σ2 22 6)) < 4 → (0 ≤ σ2 22 7 ∧ σ2 22 7 < 600) ∧ (∀ σ7, σ7 = up σ2 22 1 (w32 ((w32 ((w32 ((σ2 22 1) * 10)) + (σ2 23 (σ2 22 7)))) - 48)) → (∀ σ8, σ8 = up σ7 22 7 (w32 ((σ7 22 7) + 1)) → L (d + 1) M_To_advance 145 [vA 22, vU] [] σ8 Q))))))) : L (d + 1) M_To_advance 145 [vA 22, vU] [] σ Q :=
  L_aload_n dTo_advance_145 rfl (L_getf fw_To_37 rfl dTo_advance_146 ⟨ob_22, L_aload_n dTo_advance_149 rfl (L_getf fw_To_34 rfl dTo_advance_150 ⟨ob_22, L_icmp_ge dTo_advance_153 (by decide) ⟨fun c1 => (h.1 c1), fun c1 => L_aload_n dTo_advance_156 rfl (L_getF (b := 23) fw_To_18 rfl rfl (by decide) dTo_advance_157 ⟨ob_22, L_aload_n dTo_advance_160 rfl (L_getf fw_To_37 rfl dTo_advance_161 ⟨ob_22, L_baloadL kd_23 dTo_advance_164 ⟨(h.2 c1).1, L_callSI rfl cs_To_isDigit (As := [vI (σ 23 (σ 22 7))]) rfl (tk3 81 rfl rfl) rfl (Nat.le_of_ble_eq_true rfl) dTo_advance_165 (Tri.mono ((h.2 c1).2) (fun r2 σ2 q2 => L_if_eq dTo_advance_168 (by decide) ⟨fun c3 => (q2.1 c3), fun c3 => L_aload_n dTo_advance_171 rfl (L_aload_n dTo_advance_172 rfl (L_getf fw_To_37 rfl dTo_advance_173 ⟨ob_22, L_aload_n dTo_advance_176 rfl (L_getf fw_To_43 rfl dTo_advance_177 ⟨ob_22, L_isub dTo_advance_180 (L_iconst dTo_advance_181 in_4 (L_icmp_ge dTo_advance_182 (by decide) ⟨fun c4 => L_aload_n dTo_advance_208 rfl (L_getf fw_To_59 rfl dTo_advance_209 ⟨ob_22, L_putfN fp_To_59 rfl rfl (fun _ => ⟨rfl, rfl⟩) dTo_advance_212 ⟨ob_22, fun σ5 e5 => L_aload_n dTo_advance_215 rfl (L_dup dTo_advance_216 n21 (L_getf fw_To_37 rfl dTo_advance_217 ⟨ob_22, L_iconst dTo_advance_220 in_1 (L_iadd dTo_advance_221 (L_putfN fp_To_37 rfl rfl (fun _ => ⟨rfl, rfl⟩) dTo_advance_222 ⟨ob_22, fun σ6 e6 => L_goto dTo_advance_225 (by decide) ((((q2.2 c3).1 c4) σ5 e5) σ6 e6)⟩))⟩))⟩⟩), fun c4 => L_aload_n dTo_advance_185 rfl (L_getf fw_To_59 rfl dTo_advance_186 ⟨ob_22, L_bipush dTo_advance_189 bp_10 in_10 (L_imul dTo_advance_191 (L_aload_n dTo_advance_192 rfl (L_getF (b := 23) fw_To_18 rfl rfl (by decide) dTo_advance_193 ⟨ob_22, L_aload_n dTo_advance_196 rfl (L_getf fw_To_37 rfl dTo_advance_197 ⟨ob_22, L_baloadL kd_23 dTo_advance_200 ⟨((q2.2 c3).2 c4).1, L_iadd dTo_advance_201 (L_bipush dTo_advance_202 bp_48 in_48 (L_isub dTo_advance_204 (L_goto dTo_advance_205 (by decide) (L_putfN fp_To_59 rfl rfl (fun _ => ⟨rfl, rfl⟩) dTo_advance_212 ⟨ob_22, fun σ7 e7 => L_aload_n dTo_advance_215 rfl (L_dup dTo_advance_216 n21 (L_getf fw_To_37 rfl dTo_advance_217 ⟨ob_22, L_iconst dTo_advance_220 in_1 (L_iadd dTo_advance_221 (L_putfN fp_To_37 rfl rfl (fun _ => ⟨rfl, rfl⟩) dTo_advance_222 ⟨ob_22, fun σ8 e8 => L_goto dTo_advance_225 (by decide) ((((q2.2 c3).2 c4).2 σ7 e7) σ8 e8)⟩))⟩))⟩))))⟩⟩)⟩)))⟩)⟩))⟩)⟩))⟩))⟩⟩)⟩)⟩⟩)⟩)
theorem s_To_advance_94 {d : Nat} {σ : SG} {Q : Int → SG → Prop} (h : (σ 22 5 ≤ σ 22 7 → Q 0 σ) ∧ (σ 22 7 < σ 22 5 → (0 ≤ σ 22 7 ∧ σ 22 7 < 600) ∧ Tri d M_To_isLetter [vI (σ 23 (σ 22 7))] σ (fun r2 σ2 => (r2 = 0 → Q 0 σ2) ∧ (r2 ≠ 0 → (∀ σ4, σ4 = up σ2 22 7 (w32 ((σ2 22 7) + 1)) → L (d + 1) M_To_advance 94 [vA 22, vU] [] σ4 Q))))) : L (d + 1) M_To_advance 94 [vA 22, vU] [] σ Q :=
  L_aload_n dTo_advance_94 rfl (L_getf fw_To_37 rfl dTo_advance_95 ⟨ob_22, L_aload_n dTo_advance_98 rfl (L_getf fw_To_34 rfl dTo_advance_99 ⟨ob_22, L_icmp_ge dTo_advance_102 (by decide) ⟨fun c1 => L_return rfl dTo_advance_296 (h.1 c1), fun c1 => L_aload_n dTo_advance_105 rfl (L_getF (b := 23) fw_To_18 rfl rfl (by decide) dTo_advance_106 ⟨ob_22, L_aload_n dTo_advance_109 rfl (L_getf fw_To_37 rfl dTo_advance_110 ⟨ob_22, L_baloadL kd_23 dTo_advance_113 ⟨(h.2 c1).1, L_callSI rfl cs_To_isLetter (As := [vI (σ 23 (σ 22 7))]) rfl (tk3 78 rfl rfl) rfl (Nat.le_of_ble_eq_true rfl) dTo_advance_114 (Tri.mono ((h.2 c1).2) (fun r2 σ2 q2 => L_if_eq dTo_advance_117 (by decide) ⟨fun c3 => L_return rfl dTo_advance_296 (q2.1 c3), fun c3 => L_aload_n dTo_advance_120 rfl (L_dup dTo_advance_121 n21 (L_getf fw_To_37 rfl dTo_advance_122 ⟨ob_22, L_iconst dTo_advance_125 in_1 (L_iadd dTo_advance_126 (L_putfN fp_To_37 rfl rfl (fun _ => ⟨rfl, rfl⟩) dTo_advance_127 ⟨ob_22, fun σ4 e4 => L_goto dTo_advance_130 (by decide) ((q2.2 c3) σ4 e4)⟩))⟩))⟩))⟩⟩)⟩)⟩⟩)⟩)
theorem s_To_advance_228 {d : Nat} {σ : SG} {Q : Int → SG → Prop} (h : (w32 ((σ 22 7) - (σ 22 6)) ≤ 4 → (∀ σ2, σ2 = up σ 22 8 2 → Q 0 σ2)) ∧ (4 < w32 ((σ 22 7) - (σ 22 6)) → (∀ σ3, σ3 = up σ 22 8 4 → Q 0 σ3))) : L (d + 1) M_To_advance 228 [vA 22, vU] [] σ Q :=
  L_aload_n dTo_advance_228 rfl (L_aload_n dTo_advance_229 rfl (L_getf fw_To_37 rfl dTo_advance_230 ⟨ob_22, L_aload_n dTo_advance_233 rfl (L_getf fw_To_43 rfl dTo_advance_234 ⟨ob_22, L_isub dTo_advance_237 (L_iconst dTo_advance_238 in_4 (L_icmp_le dTo_advance_239 (by decide) ⟨fun c1 => L_iconst dTo_advance_246 in_2 (L_putfN fp_To_50 rfl rfl (fun _ => ⟨rfl, rfl⟩) dTo_advance_247 ⟨ob_22, fun σ2 e2 => L_goto dTo_advance_250 (by decide) (L_return rfl dTo_advance_296 ((h.1 c1) σ2 e2))⟩), fun c1 => L_iconst dTo_advance_242 in_4 (L_goto dTo_advance_243 (by decide) (L_putfN fp_To_50 rfl rfl (fun _ => ⟨rfl, rfl⟩) dTo_advance_247 ⟨ob_22, fun σ3 e3 => L_goto dTo_advance_250 (by decide) (L_return rfl dTo_advance_296 ((h.2 c1) σ3 e3))⟩))⟩))⟩)⟩))
theorem dTo_isBlank_0 : decode prog_10_method_5_code 0 = .ok (.iload_n 0, 1) := by decide +kernel
theorem dTo_isBlank_1 : decode prog_10_method_5_code 1 = .ok (.bipush 10, 2) := by decide +kernel
theorem dTo_isBlank_3 : decode prog_10_method_5_code 3 = .ok (.if_icmp .eq 9, 3) := by decide +kernel
theorem dTo_isBlank_6 : decode prog_10_method_5_code 6 = .ok (.iload_n 0, 1) := by decide +kernel
theorem dTo_isBlank_7 : decode prog_10_method_5_code 7 = .ok (.bipush 32, 2) := by decide +kernel
theorem dTo_isBlank_9 : decode prog_10_method_5_code 9 = .ok (.if_icmp .ne 7, 3) := by decide +kernel
theorem dTo_isBlank_12 : decode prog_10_method_5_code 12 = .ok (.iconst 1, 1) := by decide +kernel
theorem dTo_isBlank_13 : decode prog_10_method_5_code 13 = .ok (.goto 4, 3) := by decide +kernel
theorem dTo_isBlank_16 : decode prog_10_method_5_code 16 = .ok (.iconst 0, 1) := by decide +kernel
theorem dTo_isBlank_17 : decode prog_10_method_5_code 17 = .ok (.ireturn, 1) := by decide +kernel
theorem t_To_isBlank {d : Nat} {x0 : Int} {σ : SG} {Q : Int → SG → Prop} (h : inI x0 → ((x0 = 10 → Q 1 σ) ∧ (x0 ≠ 10 → (x0 ≠ 32 → Q 0 σ) ∧ (x0 = 32 → Q 1 σ)))) : Tri (d + 1) M_To_isBlank [vI x0] σ Q :=
  Tri_intro rfl (Nat.le_of_ble_eq_true rfl) (ls := [vI x0]) rfl (fun hok => L_iload_n dTo_isBlank_0 rfl (L_bipush dTo_isBlank_1 bp_10 in_10 (L_icmp_eq dTo_isBlank_3 (by decide) ⟨fun c1 => L_iconst dTo_isBlank_12 in_1 (L_goto dTo_isBlank_13 (by decide) (L_zreturn1 rfl dTo_isBlank_17 ((h (hok _ (List.mem_of_getElem? (i := 0) rfl))).1 c1))), fun c1 => L_iload_n dTo_isBlank_6 rfl (L_bipush dTo_isBlank_7 bp_32 in_32 (L_icmp_ne dTo_isBlank_9 (by decide) ⟨fun c2 => L_iconst dTo_isBlank_16 in_0 (L_zreturn0 rfl dTo_isBlank_17 (((h (hok _ (List.mem_of_getElem? (i := 0) rfl))).2 c1).1 c2)), fun c2 => L_iconst dTo_isBlank_12 in_1 (L_goto dTo_isBlank_13 (by decide) (L_zreturn1 rfl dTo_isBlank_17 (((h (hok _ (List.mem_of_getElem? (i := 0) rfl))).2 c1).2 c2)))⟩))⟩)))
theorem dTo_isLetter_0 : decode prog_10_method_6_code 0 = .ok (.iload_n 0, 1) := by decide +kernel
theorem dTo_isLetter_1 : decode prog_10_method_6_code 1 = .ok (.bipush 97, 2) := by decide +kernel
theorem dTo_isLetter_3 : decode prog_10_method_6_code 3 = .ok (.if_icmp .lt 13, 3) := by decide +kernel
theorem dTo_isLetter_6 : decode prog_10_method_6_code 6 = .ok (.iload_n 0, 1) := by decide +kernel
theorem dTo_isLetter_7 : decode prog_10_method_6_code 7 = .ok (.bipush 122, 2) := by decide +kernel
theorem dTo_isLetter_9 : decode prog_10_method_6_code 9 = .ok (.if_icmp .gt 7, 3) := by decide +kernel
theorem dTo_isLetter_12 : decode prog_10_method_6_code 12 = .ok (.iconst 1, 1) := by decide +kernel
theorem dTo_isLetter_13 : decode prog_10_method_6_code 13 = .ok (.goto 4, 3) := by decide +kernel
theorem dTo_isLetter_16 : decode prog_10_method_6_code 16 = .ok (.iconst 0, 1) := by decide +kernel
theorem dTo_isLetter_17 : decode prog_10_method_6_code 17 = .ok (.ireturn, 1) := by decide +kernel
theorem t_To_isLetter {d : Nat} {x0 : Int} {σ : SG} {Q : Int → SG → Prop} (h : inI x0 → ((x0 < 97 → Q 0 σ) ∧ (97 ≤ x0 → (122 < x0 → Q 0 σ) ∧ (x0 ≤ 122 → Q 1 σ)))) : Tri (d + 1) M_To_isLetter [vI x0] σ Q :=
  Tri_intro rfl (Nat.le_of_ble_eq_true rfl) (ls := [vI x0]) rfl (fun hok => L_iload_n dTo_isLetter_0 rfl (L_bipush dTo_isLetter_1 bp_97 in_97 (L_icmp_lt dTo_isLetter_3 (by decide) ⟨fun c1 => L_iconst dTo_isLetter_16 in_0 (L_zreturn0 rfl dTo_isLetter_17 ((h (hok _ (List.mem_of_getElem? (i := 0) rfl))).1 c1)), fun c1 => L_iload_n dTo_isLetter_6 rfl (L_bipush dTo_isLetter_7 bp_122 in_122 (L_icmp_gt dTo_isLetter_9 (by decide) ⟨fun c2 => L_iconst dTo_isLetter_16 in_0 (L_zreturn0 rfl dTo_isLetter_17 (((h (hok _ (List.mem_of_getElem? (i := 0) rfl))).2 c1).1 c2)), fun c2 => L_iconst dTo_isLetter_12 in_1 (L_goto dTo_isLetter_13 (by decide) (L_zreturn1 rfl dTo_isLetter_17 (((h (hok _ (List.mem_of_getElem? (i := 0) rfl))).2 c1).2 c2)))⟩))⟩)))
theorem dTo_isDigit_0 : decode prog_10_method_7_code 0 = .ok (.iload_n 0, 1) := by decide +kernel
theorem dTo_isDigit_1 : decode prog_10_method_7_code 1 = .ok (.bipush 48, 2) := by decide +kernel
theorem dTo_isDigit_3 : decode prog_10_method_7_code 3 = .ok (.if_icmp .lt 13, 3) := by decide +kernel
theorem dTo_isDigit_6 : decode prog_10_method_7_code 6 = .ok (.iload_n 0, 1) := by decide +kernel
theorem dTo_isDigit_7 : decode prog_10_method_7_code 7 = .ok (.bipush 57, 2) := by decide +kernel
theorem dTo_isDigit_9 : decode prog_10_method_7_code 9 = .ok (.if_icmp .gt 7, 3) := by decide +kernel
theorem dTo_isDigit_12 : decode prog_10_method_7_code 12 = .ok (.iconst 1, 1) := by decide +kernel
theorem dTo_isDigit_13 : decode prog_10_method_7_code 13 = .ok (.goto 4, 3) := by decide +kernel
theorem dTo_isDigit_16 : decode prog_10_method_7_code 16 = .ok (.iconst 0, 1) := by decide +kernel
theorem dTo_isDigit_17 : decode prog_10_method_7_code 17 = .ok (.ireturn, 1) := by decide +kernel
theorem t_To_isDigit {d : Nat} {x0 : Int} {σ : SG} {Q : Int → SG → Prop} (h : inI x0 → ((x0 < 48 → Q 0 σ) ∧ (48 ≤ x0 → (57 < x0 → Q 0 σ) ∧ (x0 ≤ 57 → Q 1 σ)))) : Tri (d + 1) M_To_isDigit [vI x0] σ Q :=
  Tri_intro rfl (Nat.le_of_ble_eq_true rfl) (ls := [vI x0]) rfl (fun hok => L_iload_n dTo_isDigit_0 rfl (L_bipush dTo_isDigit_1 bp_48 in_48 (L_icmp_lt dTo_isDigit_3 (by decide) ⟨fun c1 => L_iconst dTo_isDigit_16 in_0 (L_zreturn0 rfl dTo_isDigit_17 ((h (hok _ (List.mem_of_getElem? (i := 0) rfl))).1 c1)), fun c1 => L_iload_n dTo_isDigit_6 rfl (L_bipush dTo_isDigit_7 bp_57 in_57 (L_icmp_gt dTo_isDigit_9 (by decide) ⟨fun c2 => L_iconst dTo_isDigit_16 in_0 (L_zreturn0 rfl dTo_isDigit_17 (((h (hok _ (List.mem_of_getElem? (i := 0) rfl))).2 c1).1 c2)), fun c2 => L_iconst dTo_isDigit_12 in_1 (L_goto dTo_isDigit_13 (by decide) (L_zreturn1 rfl dTo_isDigit_17 (((h (hok _ (List.mem_of_getElem? (i := 0) rfl))).2 c1).2 c2)))⟩))⟩)))
theorem dTo_atEnd_0 : decode prog_10_method_8_code 0 = .ok (.aload_n 0, 1) := by decide +kernel
theorem dTo_atEnd_1 : decode prog_10_method_8_code 1 = .ok (.getfield 50, 3) := by decide +kernel
theorem dTo_atEnd_4 : decode prog_10_method_8_code 4 = .ok (.ifCond .ne 7, 3) := by decide +kernel
theorem dTo_atEnd_7 : decode prog_10_method_8_code 7 = .ok (.iconst 1, 1) := by decide +kernel
theorem dTo_atEnd_8 : decode prog_10_method_8_code 8 = .ok (.goto 4, 3) := by decide +kernel
theorem dTo_atEnd_11 : decode prog_10_method_8_code 11 = .ok (.iconst 0, 1) := by decide +kernel
theorem dTo_atEnd_12 : decode prog_10_method_8_code 12 = .ok (.ireturn, 1) := by decide +kernel
theorem t_To_atEnd {d : Nat} {σ : SG} {Q : Int → SG → Prop} (h : (σ 22 8 ≠ 0 → Q 0 σ) ∧ (σ 22 8 = 0 → Q 1 σ)) : Tri (d + 1) M_To_atEnd [vA 22] σ Q :=
  Tri_intro rfl (Nat.le_of_ble_eq_true rfl) (ls := [vA 22]) rfl (fun hok => L_aload_n dTo_atEnd_0 rfl (L_getf fw_To_50 rfl dTo_atEnd_1 ⟨ob_22, L_if_ne dTo_atEnd_4 (by decide) ⟨fun c1 => L_iconst dTo_atEnd_11 in_0 (L_zreturn0 rfl dTo_atEnd_12 (h.1 c1)), fun c1 => L_iconst dTo_atEnd_7 in_1 (L_goto dTo_atEnd_8 (by decide) (L_zreturn1 rfl dTo_atEnd_12 (h.2 c1)))⟩⟩))
theorem dTo_isSign_0 : decode prog_10_method_9_code 0 = .ok (.aload_n 0, 1) := by decide +kernel
theorem dTo_isSign_1 : decode prog_10_method_9_code 1 = .ok (.getfield 50, 3) := by decide +kernel
theorem dTo_isSign_4 : decode prog_10_method_9_code 4 = .ok (.iconst 3, 1) := by decide +kernel
theorem dTo_isSign_5 : decode prog_10_method_9_code 5 = .ok (.if_icmp .ne 31, 3) := by decide +kernel
theorem dTo_isSign_8 : decode prog_10_method_9_code 8 = .ok (.aload_n 0, 1) := by decide +kernel
theorem dTo_isSign_9 : decode prog_10_method_9_code 9 = .ok (.getfield 43, 3) := by decide +kernel
theorem dTo_isSign_12 : decode prog_10_method_9_code 12 = .ok (.aload_n 0, 1) := by decide +kernel
theorem dTo_isSign_13 : decode prog_10_method_9_code 13 = .ok (.getfield 34, 3) := by decide +kernel
theorem dTo_isSign_16 : decode prog_10_method_9_code 16 = .ok (.if_icmp .ge 20, 3) := by decide +kernel
theorem dTo_isSign_19 : decode prog_10_method_9_code 19 = .ok (.aload_n 0, 1) := by decide +kernel
theorem dTo_isSign_20 : decode prog_10_method_9_code 20 = .ok (.getfield 18, 3) := by decide +kernel
theorem dTo_isSign_23 : decode prog_10_method_9_code 23 = .ok (.aload_n 0, 1) := by decide +kernel
theorem dTo_isSign_24 : decode prog_10_method_9_code 24 = .ok (.getfield 43, 3) := by decide +kernel
theorem dTo_isSign_27 : decode prog_10_method_9_code 27 = .ok (.baload, 1) := by decide +kernel
theorem dTo_isSign_28 : decode prog_10_method_9_code 28 = .ok (.iload_n 1, 1) := by decide +kernel
theorem dTo_isSign_29 : decode prog_10_method_9_code 29 = .ok (.if_icmp .ne 7, 3) := by decide +kernel
theorem dTo_isSign_32 : decode prog_10_method_9_code 32 = .ok (.iconst 1, 1) := by decide +kernel
theorem dTo_isSign_33 : decode prog_10_method_9_code 33 = .ok (.goto 4, 3) := by decide +kernel
theorem dTo_isSign_36 : decode prog_10_method_9_code 36 = .ok (.iconst 0, 1) := by decide +kernel
theorem dTo_isSign_37 : decode prog_10_method_9_code 37 = .ok (.ireturn, 1) := by decide +kernel
theorem t_To_isSign {d : Nat} {x1 : Int} {σ : SG} {Q : Int → SG → Prop} (h : inI x1 → ((σ 22 8 ≠ 3 → Q 0 σ) ∧ (σ 22 8 = 3 → (σ 22 5 ≤ σ 22 6 → Q 0 σ) ∧ (σ 22 6 < σ 22 5 → (0 ≤ σ 22 6 ∧ σ 22 6 < 600) ∧ (σ 23 (σ 22 6) ≠ x1 → Q 0 σ) ∧ (σ 23 (σ 22 6) = x1 → Q 1 σ))))) : Tri (d + 1) M_To_isSign [vA 22, vI x1] σ Q :=
  Tri_intro rfl (Nat.le_of_ble_eq_true rfl) (ls := [vA 22, vI x1]) rfl (fun hok => L_aload_n dTo_isSign_0 rfl (L_getf fw_To_50 rfl dTo_isSign_1 ⟨ob_22, L_iconst dTo_isSign_4 in_3 (L_icmp_ne dTo_isSign_5 (by decide) ⟨fun c1 => L_iconst dTo_isSign_36 in_0 (L_zreturn0 rfl dTo_isSign_37 ((h (hok _ (List.mem_of_getElem? (i := 1) rfl))).1 c1)), fun c1 => L_aload_n dTo_isSign_8 rfl (L_getf fw_To_43 rfl dTo_isSign_9 ⟨ob_22, L_aload_n dTo_isSign_12 rfl (L_getf fw_To_34 rfl dTo_isSign_13 ⟨ob_22, L_icmp_ge dTo_isSign_16 (by decide) ⟨fun c2 => L_iconst dTo_isSign_36 in_0 (L_zreturn0 rfl dTo_isSign_37 (((h (hok _ (List.mem_of_getElem? (i := 1) rfl))).2 c1).1 c2)), fun c2 => L_aload_n dTo_isSign_19 rfl (L_getF (b := 23) fw_To_18 rfl rfl (by decide) dTo_isSign_20 ⟨ob_22, L_aload_n dTo_isSign_23 rfl (L_getf fw_To_43 rfl dTo_isSign_24 ⟨ob_22, L_baloadL kd_23 dTo_isSign_27 ⟨(((h (hok _ (List.mem_of_getElem? (i := 1) rfl))).2 c1).2 c2).1, L_iload_n dTo_isSign_28 rfl (L_icmp_ne dTo_isSign_29 (by decide) ⟨fun c3 => L_iconst dTo_isSign_36 in_0 (L_zreturn0 rfl dTo_isSign_37 ((((h (hok _ (List.mem_of_getElem? (i := 1) rfl))).2 c1).2 c2).2.1 c3)), fun c3 => L_iconst dTo_isSign_32 in_1 (L_goto dTo_isSign_33 (by decide) (L_zreturn1 rfl dTo_isSign_37 ((((h (hok _ (List.mem_of_getElem? (i := 1) rfl))).2 c1).2 c2).2.2 c3)))⟩)⟩⟩)⟩)⟩⟩)⟩)⟩)⟩))
theorem dTo_takeSign_0 : decode prog_10_method_12_code 0 = .ok (.aload_n 0, 1) := by decide +kernel
theorem dTo_takeSign_1 : decode prog_10_method_12_code 1 = .ok (.iload_n 1, 1) := by decide +kernel
theorem dTo_takeSign_2 : decode prog_10_method_12_code 2 = .ok (.invokevirtual 71, 3) := by decide +kernel
theorem dTo_takeSign_5 : decode prog_10_method_12_code 5 = .ok (.ifCond .ne 9, 3) := by decide +kernel
theorem dTo_takeSign_8 : decode prog_10_method_12_code 8 = .ok (.aload_n 0, 1) := by decide +kernel
theorem dTo_takeSign_9 : decode prog_10_method_12_code 9 = .ok (.iconst 2, 1) := by decide +kernel
theorem dTo_takeSign_10 : decode prog_10_method_12_code 10 = .ok (.invokevirtual 75, 3) := by decide +kernel
theorem dTo_takeSign_13 : decode prog_10_method_12_code 13 = .ok (.ireturn, 1) := by decide +kernel
theorem dTo_takeSign_14 : decode prog_10_method_12_code 14 = .ok (.aload_n 0, 1) := by decide +kernel
theorem dTo_takeSign_15 : decode prog_10_method_12_code 15 = .ok (.invokevirtual 40, 3) := by decide +kernel
theorem dTo_takeSign_18 : decode prog_10_method_12_code 18 = .ok (.iconst 1, 1) := by decide +kernel
theorem dTo_takeSign_19 : decode prog_10_method_12_code 19 = .ok (.ireturn, 1) := by decide +kernel
theorem t_To_takeSign {d : Nat} {x1 : Int} {σ : SG} {Q : Int → SG → Prop} (h : inI x1 → (Tri d M_To_isSign [vA 22, vI x1] σ (fun r1 σ1 => (r1 ≠ 0 → Tri d M_To_advance [vA 22] σ1 (fun r3 σ3 => Q 1 σ3)) ∧ (r1 = 0 → Tri d M_To_blame [vA 22, vI 2] σ1 (fun r4 σ4 => (r4 = 0 ∨ r4 = 1) ∧ Q r4 σ4))))) : Tri (d + 1) M_To_takeSign [vA 22, vI x1] σ Q :=
  Tri_intro rfl (Nat.le_of_ble_eq_true rfl) (ls := [vA 22, vI x1]) rfl (fun hok => L_aload_n dTo_takeSign_0 rfl (L_iload_n dTo_takeSign_1 rfl (L_callVI rfl cv_To_isSign (As := [vI x1]) rfl (tk3 162 rfl rfl) rfl (Nat.le_of_ble_eq_true rfl) dTo_takeSign_2 ⟨ob_22, Tri.mono ((h (hok _ (List.mem_of_getElem? (i := 1) rfl)))) (fun r1 σ1 q1 => L_if_ne dTo_takeSign_5 (by decide) ⟨fun c2 => L_aload_n dTo_takeSign_14 rfl (L_callVV rfl cv_To_advance (As := []) rfl (tk3 71 rfl rfl) rfl (Nat.le_of_ble_eq_true rfl) dTo_takeSign_15 ⟨ob_22, Tri.mono (q1.1 c2) (fun r3 σ3 q3 => L_iconst dTo_takeSign_18 in_1 (L_zreturn1 rfl dTo_takeSign_19 q3))⟩), fun c2 => L_aload_n dTo_takeSign_8 rfl (L_iconst dTo_takeSign_9 in_2 (L_callVI rfl cv_To_blame (As := [vI 2]) rfl (tk3 145 rfl rfl) rfl (Nat.le_of_ble_eq_true rfl) dTo_takeSign_10 ⟨ob_22, Tri.mono (q1.2 c2) (fun r4 σ4 q4 => L_zreturn rfl dTo_takeSign_13 q4)⟩))⟩)⟩)))
theorem dTo_takeWord_0 : decode prog_10_method_13_code 0 = .ok (.aload_n 0, 1) := by decide +kernel
theorem dTo_takeWord_1 : decode prog_10_method_13_code 1 = .ok (.aload_n 1, 1) := by decide +kernel
theorem dTo_takeWord_2 : decode prog_10_method_13_code 2 = .ok (.invokevirtual 78, 3) := by decide +kernel
theorem dTo_takeWord_5 : decode prog_10_method_13_code 5 = .ok (.ifCond .ne 9, 3) := by decide +kernel
theorem dTo_takeWord_8 : decode prog_10_method_13_code 8 = .ok (.aload_n 0, 1) := by decide +kernel
theorem dTo_takeWord_9 : decode prog_10_method_13_code 9 = .ok (.iconst 2, 1) := by decide +kernel
theorem dTo_takeWord_10 : decode prog_10_method_13_code 10 = .ok (.invokevirtual 75, 3) := by decide +kernel
theorem dTo_takeWord_13 : decode prog_10_method_13_code 13 = .ok (.ireturn, 1) := by decide +kernel
theorem dTo_takeWord_14 : decode prog_10_method_13_code 14 = .ok (.aload_n 0, 1) := by decide +kernel
theorem dTo_takeWord_15 : decode prog_10_method_13_code 15 = .ok (.invokevirtual 40, 3) := by decide +kernel
theorem dTo_takeWord_18 : decode prog_10_method_13_code 18 = .ok (.iconst 1, 1) := by decide +kernel
theorem dTo_takeWord_19 : decode prog_10_method_13_code 19 = .ok (.ireturn, 1) := by decide +kernel
theorem t_To_takeWord {d : Nat} {x1 : Int} {σ : SG} {Q : Int → SG → Prop} (h : Tri d M_To_isWord [vA 22, vA x1] σ (fun r1 σ1 => (r1 ≠ 0 → Tri d M_To_advance [vA 22] σ1 (fun r3 σ3 => Q 1 σ3)) ∧ (r1 = 0 → Tri d M_To_blame [vA 22, vI 2] σ1 (fun r4 σ4 => (r4 = 0 ∨ r4 = 1) ∧ Q r4 σ4)))) : Tri (d + 1) M_To_takeWord [vA 22, vA x1] σ Q :=
  Tri_intro rfl (Nat.le_of_ble_eq_true rfl) (ls := [vA 22, vA x1]) rfl (fun hok => L_aload_n dTo_takeWord_0 rfl (L_aload_n dTo_takeWord_1 rfl (L_callVI rfl cv_To_isWord (As := [vA x1]) rfl (tk3 93 rfl rfl) rfl (Nat.le_of_ble_eq_true rfl) dTo_takeWord_2 ⟨ob_22, Tri.mono (h) (fun r1 σ1 q1 => L_if_ne dTo_takeWord_5 (by decide) ⟨fun c2 => L_aload_n dTo_takeWord_14 rfl (L_callVV rfl cv_To_advance (As := []) rfl (tk3 71 rfl rfl) rfl (Nat.le_of_ble_eq_true rfl) dTo_takeWord_15 ⟨ob_22, Tri.mono (q1.1 c2) (fun r3 σ3 q3 => L_iconst dTo_takeWord_18 in_1 (L_zreturn1 rfl dTo_takeWord_19 q3))⟩), fun c2 => L_aload_n dTo_takeWord_8 rfl (L_iconst dTo_takeWord_9 in_2 (L_callVI rfl cv_To_blame (As := [vI 2]) rfl (tk3 145 rfl rfl) rfl (Nat.le_of_ble_eq_true rfl) dTo_takeWord_10 ⟨ob_22, Tri.mono (q1.2 c2) (fun r4 σ4 q4 => L_zreturn rfl dTo_takeWord_13 q4)⟩))⟩)⟩)))
theorem dTo_seesNumber_0 : decode prog_10_method_14_code 0 = .ok (.aload_n 0, 1) := by decide +kernel
theorem dTo_seesNumber_1 : decode prog_10_method_14_code 1 = .ok (.getfield 50, 3) := by decide +kernel
theorem dTo_seesNumber_4 : decode prog_10_method_14_code 4 = .ok (.iconst 2, 1) := by decide +kernel
theorem dTo_seesNumber_5 : decode prog_10_method_14_code 5 = .ok (.if_icmp .eq 9, 3) := by decide +kernel
theorem dTo_seesNumber_8 : decode prog_10_method_14_code 8 = .ok (.aload_n 0, 1) := by decide +kernel
theorem dTo_seesNumber_9 : decode prog_10_method_14_code 9 = .ok (.iconst 2, 1) := by decide +kernel
theorem dTo_seesNumber_10 : decode prog_10_method_14_code 10 = .ok (.invokevirtual 75, 3) := by decide +kernel
theorem dTo_seesNumber_13 : decode prog_10_method_14_code 13 = .ok (.ireturn, 1) := by decide +kernel
theorem dTo_seesNumber_14 : decode prog_10_method_14_code 14 = .ok (.aload_n 0, 1) := by decide +kernel
theorem dTo_seesNumber_15 : decode prog_10_method_14_code 15 = .ok (.getfield 59, 3) := by decide +kernel
theorem dTo_seesNumber_18 : decode prog_10_method_14_code 18 = .ok (.iload_n 1, 1) := by decide +kernel
theorem dTo_seesNumber_19 : decode prog_10_method_14_code 19 = .ok (.if_icmp .lt 11, 3) := by decide +kernel
theorem dTo_seesNumber_22 : decode prog_10_method_14_code 22 = .ok (.aload_n 0, 1) := by decide +kernel
theorem dTo_seesNumber_23 : decode prog_10_method_14_code 23 = .ok (.getfield 59, 3) := by decide +kernel
theorem dTo_seesNumber_26 : decode prog_10_method_14_code 26 = .ok (.iload_n 2, 1) := by decide +kernel
theorem dTo_seesNumber_27 : decode prog_10_method_14_code 27 = .ok (.if_icmp .le 11, 3) := by decide +kernel
theorem dTo_seesNumber_30 : decode prog_10_method_14_code 30 = .ok (.aload_n 0, 1) := by decide +kernel
theorem dTo_seesNumber_31 : decode prog_10_method_14_code 31 = .ok (.iconst 4, 1) := by decide +kernel
theorem dTo_seesNumber_32 : decode prog_10_method_14_code 32 = .ok (.invokevirtual 75, 3) := by decide +kernel
theorem dTo_seesNumber_35 : decode prog_10_method_14_code 35 = .ok (.ifCond .eq 7, 3) := by decide +kernel
theorem dTo_seesNumber_38 : decode prog_10_method_14_code 38 = .ok (.iconst 1, 1) := by decide +kernel
theorem dTo_seesNumber_39 : decode prog_10_method_14_code 39 = .ok (.goto 4, 3) := by decide +kernel
theorem dTo_seesNumber_42 : decode prog_10_method_14_code 42 = .ok (.iconst 0, 1) := by decide +kernel
theorem dTo_seesNumber_43 : decode prog_10_method_14_code 43 = .ok (.ireturn, 1) := by decide +kernel
theorem t_To_seesNumber {d : Nat} {x1 x2 : Int} {σ : SG} {Q : Int → SG → Prop} (h : inI x1 → inI x2 → ((σ 22 8 = 2 → (σ 22 1 < x1 → Tri d M_To_blame [vA 22, vI 4] σ (fun r3 σ3 => (r3 = 0 → Q 0 σ3) ∧ (r3 ≠ 0 → Q 1 σ3))) ∧ (x1 ≤ σ 22 1 → (σ 22 1 ≤ x2 → Q 1 σ) ∧ (x2 < σ 22 1 → Tri d M_To_blame [vA 22, vI 4] σ (fun r6 σ6 => (r6 = 0 → Q 0 σ6) ∧ (r6 ≠ 0 → Q 1 σ6))))) ∧ (σ 22 8 ≠ 2 → Tri d M_To_blame [vA 22, vI 2] σ (fun r8 σ8 => (r8 = 0 ∨ r8 = 1) ∧ Q r8 σ8)))) : Tri (d + 1) M_To_seesNumber [vA 22, vI x1, vI x2] σ Q :=
  Tri_intro rfl (Nat.le_of_ble_eq_true rfl) (ls := [vA 22, vI x1, vI x2]) rfl (fun hok => L_aload_n dTo_seesNumber_0 rfl (L_getf fw_To_50 rfl dTo_seesNumber_1 ⟨ob_22, L_iconst dTo_seesNumber_4 in_2 (L_icmp_eq dTo_seesNumber_5 (by decide) ⟨fun c1 => L_aload_n dTo_seesNumber_14 rfl (L_getf fw_To_59 rfl dTo_seesNumber_15 ⟨ob_22, L_iload_n dTo_seesNumber_18 rfl (L_icmp_lt dTo_seesNumber_19 (by decide) ⟨fun c2 => L_aload_n dTo_seesNumber_30 rfl (L_iconst dTo_seesNumber_31 in_4 (L_callVI rfl cv_To_blame (As := [vI 4]) rfl (tk3 145 rfl rfl) rfl (Nat.le_of_ble_eq_true rfl) dTo_seesNumber_32 ⟨ob_22, Tri.mono (((h (hok _ (List.mem_of_getElem? (i := 1) rfl)) (hok _ (List.mem_of_getElem? (i := 2) rfl))).1 c1).1 c2) (fun r3 σ3 q3 => L_if_eq dTo_seesNumber_35 (by decide) ⟨fun c4 => L_iconst dTo_seesNumber_42 in_0 (L_zreturn0 rfl dTo_seesNumber_43 (q3.1 c4)), fun c4 => L_iconst dTo_seesNumber_38 in_1 (L_goto dTo_seesNumber_39 (by decide) (L_zreturn1 rfl dTo_seesNumber_43 (q3.2 c4)))⟩)⟩)), fun c2 => L_aload_n dTo_seesNumber_22 rfl (L_getf fw_To_59 rfl dTo_seesNumber_23 ⟨ob_22, L_iload_n dTo_seesNumber_26 rfl (L_icmp_le dTo_seesNumber_27 (by decide) ⟨fun c5 => L_iconst dTo_seesNumber_38 in_1 (L_goto dTo_seesNumber_39 (by decide) (L_zreturn1 rfl dTo_seesNumber_43 ((((h (hok _ (List.mem_of_getElem? (i := 1) rfl)) (hok _ (List.mem_of_getElem? (i := 2) rfl))).1 c1).2 c2).1 c5))), fun c5 => L_aload_n dTo_seesNumber_30 rfl (L_iconst dTo_seesNumber_31 in_4 (L_callVI rfl cv_To_blame (As := [vI 4]) rfl (tk3 145 rfl rfl) rfl (Nat.le_of_ble_eq_true rfl) dTo_seesNumber_32 ⟨ob_22, Tri.mono ((((h (hok _ (List.mem_of_getElem? (i := 1) rfl)) (hok _ (List.mem_of_getElem? (i := 2) rfl))).1 c1).2 c2).2 c5) (fun r6 σ6 q6 => L_if_eq dTo_seesNumber_35 (by decide) ⟨fun c7 => L_iconst dTo_seesNumber_42 in_0 (L_zreturn0 rfl dTo_seesNumber_43 (q6.1 c7)), fun c7 => L_iconst dTo_seesNumber_38 in_1 (L_goto dTo_seesNumber_39 (by decide) (L_zreturn1 rfl dTo_seesNumber_43 (q6.2 c7)))⟩)⟩))⟩)⟩)⟩)⟩), fun c1 => L_aload_n dTo_seesNumber_8 rfl (L_iconst dTo_seesNumber_9 in_2 (L_callVI rfl cv_To_blame (As := [vI 2]) rfl (tk3 145 rfl rfl) rfl (Nat.le_of_ble_eq_true rfl) dTo_seesNumber_10 ⟨ob_22, Tri.mono ((h (hok _ (List.mem_of_getElem? (i := 1) rfl)) (hok _ (List.mem_of_getElem? (i := 2) rfl))).2 c1) (fun r8 σ8 q8 => L_zreturn rfl dTo_seesNumber_13 q8)⟩))⟩)⟩))
theorem dTo_blame_0 : decode prog_10_method_15_code 0 = .ok (.aload_n 0, 1) := by decide +kernel
theorem dTo_blame_1 : decode prog_10_method_15_code 1 = .ok (.aload_n 0, 1) := by decide +kernel
theorem dTo_blame_2 : decode prog_10_method_15_code 2 = .ok (.getfield 50, 3) := by decide +kernel
theorem dTo_blame_5 : decode prog_10_method_15_code 5 = .ok (.iconst 4, 1) := by decide +kernel
theorem dTo_blame_6 : decode prog_10_method_15_code 6 = .ok (.if_icmp .ne 7, 3) := by decide +kernel
theorem dTo_blame_9 : decode prog_10_method_15_code 9 = .ok (.iconst 1, 1) := by decide +kernel
theorem dTo_blame_10 : decode prog_10_method_15_code 10 = .ok (.goto 4, 3) := by decide +kernel
theorem dTo_blame_13 : decode prog_10_method_15_code 13 = .ok (.iload_n 1, 1) := by decide +kernel
theorem dTo_blame_14 : decode prog_10_method_15_code 14 = .ok (.putfield 9, 3) := by decide +kernel
theorem dTo_blame_17 : decode prog_10_method_15_code 17 = .ok (.aload_n 0, 1) := by decide +kernel
theorem dTo_blame_18 : decode prog_10_method_15_code 18 = .ok (.aload_n 0, 1) := by decide +kernel
theorem dTo_blame_19 : decode prog_10_method_15_code 19 = .ok (.getfield 50, 3) := by decide +kernel
theorem dTo_blame_22 : decode prog_10_method_15_code 22 = .ok (.ifCond .ne 10, 3) := by decide +kernel
theorem dTo_blame_25 : decode prog_10_method_15_code 25 = .ok (.aload_n 0, 1) := by decide +kernel
theorem dTo_blame_26 : decode prog_10_method_15_code 26 = .ok (.getfield 34, 3) := by decide +kernel
theorem dTo_blame_29 : decode prog_10_method_15_code 29 = .ok (.goto 7, 3) := by decide +kernel
theorem dTo_blame_32 : decode prog_10_method_15_code 32 = .ok (.aload_n 0, 1) := by decide +kernel
theorem dTo_blame_33 : decode prog_10_method_15_code 33 = .ok (.getfield 43, 3) := by decide +kernel
theorem dTo_blame_36 : decode prog_10_method_15_code 36 = .ok (.putfield 15, 3) := by decide +kernel
theorem dTo_blame_39 : decode prog_10_method_15_code 39 = .ok (.iconst 0, 1) := by decide +kernel
theorem dTo_blame_40 : decode prog_10_method_15_code 40 = .ok (.ireturn, 1) := by decide +kernel
theorem t_To_blame {d : Nat} {x1 : Int} {σ : SG} {Q : Int → SG → Prop} (h : inI x1 → ((σ 22 8 ≠ 4 → L (d + 1) M_To_blame 14 [vA 22, vU] [vI x1, vA 22] σ Q) ∧ (σ 22 8 = 4 → L (d + 1) M_To_blame 14 [vA 22, vU] [vI 1, vA 22] σ Q))) : Tri (d + 1) M_To_blame [vA 22, vI x1] σ Q :=
  Tri_intro rfl (Nat.le_of_ble_eq_true rfl) (ls := [vA 22, vI x1]) rfl (fun hok => L_aload_n dTo_blame_0 rfl (L_aload_n dTo_blame_1 rfl (L_getf fw_To_50 rfl dTo_blame_2 ⟨ob_22, L_iconst dTo_blame_5 in_4 (L_icmp_ne dTo_blame_6 (by decide) ⟨fun c1 => L_iload_n dTo_blame_13 rfl (L_weak [true, false] ((h (hok _ (List.mem_of_getElem? (i := 1) rfl))).1 c1)), fun c1 => L_iconst dTo_blame_9 in_1 (L_goto dTo_blame_10 (by decide) (L_weak [true, false] ((h (hok _ (List.mem_of_getElem? (i := 1) rfl))).2 c1)))⟩)⟩)))
theorem s_To_blame_14 {d : Nat} {y0 : Int} {σ : SG} {Q : Int → SG → Prop} (h : (∀ σ1, σ1 = up σ 22 2 y0 → (σ1 22 8 ≠ 0 → (∀ σ3, σ3 = up σ1 22 3 (σ1 22 6) → Q 0 σ3)) ∧ (σ1 22 8 = 0 → (∀ σ4, σ4 = up σ1 22 3 (σ1 22 5) → Q 0 σ4)))) : L (d + 1) M_To_blame 14 [vA 22, vU] [vI y0, vA 22] σ Q :=
  L_putfN fp_To_9 rfl rfl (fun _ => ⟨rfl, rfl⟩) dTo_blame_14 ⟨ob_22, fun σ1 e1 => L_aload_n dTo_blame_17 rfl (L_aload_n dTo_blame_18 rfl (L_getf fw_To_50 rfl dTo_blame_19 ⟨ob_22, L_if_ne dTo_blame_22 (by decide) ⟨fun c2 => L_aload_n dTo_blame_32 rfl (L_getf fw_To_43 rfl dTo_blame_33 ⟨ob_22, L_putfN fp_To_15 rfl rfl (fun _ => ⟨rfl, rfl⟩) dTo_blame_36 ⟨ob_22, fun σ3 e3 => L_iconst dTo_blame_39 in_0 (L_zreturn0 rfl dTo_blame_40 (((h σ1 e1).1 c2) σ3 e3))⟩⟩), fun c2 => L_aload_n dTo_blame_25 rfl (L_getf fw_To_34 rfl dTo_blame_26 ⟨ob_22, L_goto dTo_blame_29 (by decide) (L_putfN fp_To_15 rfl rfl (fun _ => ⟨rfl, rfl⟩) dTo_blame_36 ⟨ob_22, fun σ4 e4 => L_iconst dTo_blame_39 in_0 (L_zreturn0 rfl dTo_blame_40 (((h σ1 e1).2 c2) σ4 e4))⟩)⟩)⟩⟩))⟩
theorem dTo_praise_0 : decode prog_10_method_16_code 0 = .ok (.aload_n 0, 1) := by decide +kernel
theorem dTo_praise_1 : decode prog_10_method_16_code 1 = .ok (.iconst 0, 1) := by decide +kernel
theorem dTo_praise_2 : decode prog_10_method_16_code 2 = .ok (.putfield 9, 3) := by decide +kernel
theorem dTo_praise_5 : decode prog_10_method_16_code 5 = .ok (.aload_n 0, 1) := by decide +kernel
theorem dTo_praise_6 : decode prog_10_method_16_code 6 = .ok (.iconst (-1), 1) := by decide +kernel
theorem dTo_praise_7 : decode prog_10_method_16_code 7 = .ok (.putfield 15, 3) := by decide +kernel
theorem dTo_praise_10 : decode prog_10_method_16_code 10 = .ok (.iconst 1, 1) := by decide +kernel
theorem dTo_praise_11 : decode prog_10_method_16_code 11 = .ok (.ireturn, 1) := by decide +kernel
theorem t_To_praise {d : Nat} {σ : SG} {Q : Int → SG → Prop} (h : (∀ σ1, σ1 = up σ 22 2 0 → (∀ σ2, σ2 = up σ1 22 3 (-1) → Q 1 σ2))) : Tri (d + 1) M_To_praise [vA 22] σ Q :=
  Tri_intro rfl (Nat.le_of_ble_eq_true rfl) (ls := [vA 22]) rfl (fun hok => L_aload_n dTo_praise_0 rfl (L_iconst dTo_praise_1 in_0 (L_putfN fp_To_9 rfl rfl (fun _ => ⟨rfl, rfl⟩) dTo_praise_2 ⟨ob_22, fun σ1 e1 => L_aload_n dTo_praise_5 rfl (L_iconst dTo_praise_6 in_m1 (L_putfN fp_To_15 rfl rfl (fun _ => ⟨rfl, rfl⟩) dTo_praise_7 ⟨ob_22, fun σ2 e2 => L_iconst dTo_praise_10 in_1 (L_zreturn1 rfl dTo_praise_11 ((h σ1 e1) σ2 e2))⟩))⟩)))
theorem dDe_copyFrom_0 : decode prog_3_method_2_code 0 = .ok (.aload_n 0, 1) := by decide +kernel
theorem dDe_copyFrom_1 : decode prog_3_method_2_code 1 = .ok (.getfield 12, 3) := by decide +kernel
theorem dDe_copyFrom_4 : decode prog_3_method_2_code 4 = .ok (.aload_n 1, 1) := by decide +kernel
theorem dDe_copyFrom_5 : decode prog_3_method_2_code 5 = .ok (.getfield 12, 3) := by decide +kernel
theorem dDe_copyFrom_8 : decode prog_3_method_2_code 8 = .ok (.invokevirtual 29, 3) := by decide +kernel
theorem dDe_copyFrom_11 : decode prog_3_method_2_code 11 = .ok (.aload_n 0, 1) := by decide +kernel
theorem dDe_copyFrom_12 : decode prog_3_method_2_code 12 = .ok (.getfield 25, 3) := by decide +kernel
theorem dDe_copyFrom_15 : decode prog_3_method_2_code 15 = .ok (.aload_n 1, 1) := by decide +kernel
theorem dDe_copyFrom_16 : decode prog_3_method_2_code 16 = .ok (.getfield 25, 3) := by decide +kernel
theorem dDe_copyFrom_19 : decode prog_3_method_2_code 19 = .ok (.invokevirtual 33, 3) := by decide +kernel
theorem dDe_copyFrom_22 : decode prog_3_method_2_code 22 = .ok (.iconst 0, 1) := by decide +kernel
theorem dDe_copyFrom_23 : decode prog_3_method_2_code 23 = .ok (.istore_n 2, 1) := by decide +kernel
theorem dDe_copyFrom_24 : decode prog_3_method_2_code 24 = .ok (.iload_n 2, 1) := by decide +kernel
theorem dDe_copyFrom_25 : decode prog_3_method_2_code 25 = .ok (.iconst 4, 1) := by decide +kernel
theorem dDe_copyFrom_26 : decode prog_3_method_2_code 26 = .ok (.if_icmp .ge 42, 3) := by decide +kernel
theorem dDe_copyFrom_29 : decode prog_3_method_2_code 29 = .ok (.aload_n 0, 1) := by decide +kernel
theorem dDe_copyFrom_30 : decode prog_3_method_2_code 30 = .ok (.getfield 18, 3) := by decide +kernel
theorem dDe_copyFrom_33 : decode prog_3_method_2_code 33 = .ok (.iload_n 2, 1) := by decide +kernel
theorem dDe_copyFrom_34 : decode prog_3_method_2_code 34 = .ok (.aaload, 1) := by decide +kernel
theorem dDe_copyFrom_35 : decode prog_3_method_2_code 35 = .ok (.aload_n 1, 1) := by decide +kernel
theorem dDe_copyFrom_36 : decode prog_3_method_2_code 36 = .ok (.getfield 18, 3) := by decide +kernel
theorem dDe_copyFrom_39 : decode prog_3_method_2_code 39 = .ok (.iload_n 2, 1) := by decide +kernel
theorem dDe_copyFrom_40 : decode prog_3_method_2_code 40 = .ok (.aaload, 1) := by decide +kernel
theorem dDe_copyFrom_41 : decode prog_3_method_2_code 41 = .ok (.invokevirtual 29, 3) := by decide +kernel
theorem dDe_copyFrom_44 : decode prog_3_method_2_code 44 = .ok (.aload_n 0, 1) := by decide +kernel
theorem dDe_copyFrom_45 : decode prog_3_method_2_code 45 = .ok (.getfield 18, 3) := by decide +kernel
theorem dDe_copyFrom_48 : decode prog_3_method_2_code 48 = .ok (.iload_n 2, 1) := by decide +kernel
theorem dDe_copyFrom_49 : decode prog_3_method_2_code 49 = .ok (.aaload, 1) := by decide +kernel
theorem dDe_copyFrom_50 : decode prog_3_method_2_code 50 = .ok (.aload_n 1, 1) := by decide +kernel
theorem dDe_copyFrom_51 : decode prog_3_method_2_code 51 = .ok (.getfield 18, 3) := by decide +kernel
theorem dDe_copyFrom_54 : decode prog_3_method_2_code 54 = .ok (.iload_n 2, 1) := by decide +kernel
theorem dDe_copyFrom_55 : decode prog_3_method_2_code 55 = .ok (.aaload, 1) := by decide +kernel
theorem dDe_copyFrom_56 : decode prog_3_method_2_code 56 = .ok (.getfield 36, 3) := by decide +kernel
theorem dDe_copyFrom_59 : decode prog_3_method_2_code 59 = .ok (.putfield 36, 3) := by decide +kernel
theorem dDe_copyFrom_62 : decode prog_3_method_2_code 62 = .ok (.iinc 2 1, 3) := by decide +kernel
theorem dDe_copyFrom_65 : decode prog_3_method_2_code 65 = .ok (.goto (-41), 3) := by decide +kernel
theorem dDe_copyFrom_68 : decode prog_3_method_2_code 68 = .ok (.return_, 1) := by decide +kernel
theorem t_De_copyFrom {d : Nat} {x0 x1 : Int} {σ : SG} {Q : Int → SG → Prop} (h : obok 1 x0 ∧ obok 1 x1 ∧ obok 10 (x0 + 1) ∧ Tri d M_Wd_copyFrom [vA (x0 + 1), vA (x1 + 1)] σ (fun r1 σ1 => obok 1 x0 ∧ obok 1 x1 ∧ obok 6 (x0 + 4) ∧ Tri d M_Sc_copyFrom [vA (x0 + 4), vA (x1 + 4)] σ1 (fun r2 σ2 => L (d + 1) M_De_copyFrom 24 [vA x0, vA x1, vI 0] [] σ2 Q))) : Tri (d + 1) M_De_copyFrom [vA x0, vA x1] σ Q :=
  Tri_intro rfl (Nat.le_of_ble_eq_true rfl) (ls := [vA x0, vA x1, vU]) rfl (fun hok => L_aload_n dDe_copyFrom_0 rfl (L_getF (b := x0 + 1) fw_De_12 rfl rfl (by omega) dDe_copyFrom_1 ⟨h.1, L_aload_n dDe_copyFrom_4 rfl (L_getF (b := x1 + 1) fw_De_12 rfl rfl (by omega) dDe_copyFrom_5 ⟨h.2.1, L_callVV rfl cv_Wd_copyFrom (As := [vA (x1 + 1)]) rfl (tk4 125 rfl rfl) rfl (Nat.le_of_ble_eq_true rfl) dDe_copyFrom_8 ⟨h.2.2.1, Tri.mono (h.2.2.2) (fun r1 σ1 q1 => L_aload_n dDe_copyFrom_11 rfl (L_getF (b := x0 + 4) fw_De_25 rfl rfl (by omega) dDe_copyFrom_12 ⟨q1.1, L_aload_n dDe_copyFrom_15 rfl (L_getF (b := x1 + 4) fw_De_25 rfl rfl (by omega) dDe_copyFrom_16 ⟨q1.2.1, L_callVV rfl cv_Sc_copyFrom (As := [vA (x1 + 4)]) rfl (tk6 186 rfl rfl) rfl (Nat.le_of_ble_eq_true rfl) dDe_copyFrom_19 ⟨q1.2.2.1, Tri.mono q1.2.2.2 (fun r2 σ2 q2 => L_iconst dDe_copyFrom_22 in_0 (L_istore_n dDe_copyFrom_23 (by decide) q2))⟩⟩)⟩))⟩⟩)⟩))
theorem s_De_copyFrom_24 {d : Nat} {x0 x1 x2 : Int} {σ : SG} {Q : Int → SG → Prop} (h : (4 ≤ x2 → Q 0 σ) ∧ (x2 < 4 → obok 1 x0 ∧ rdok 105 (x0 + 3) x2 ∧ obok 1 x1 ∧ rdok 105 (x1 + 3) x2 ∧ obok 10 (x0 + 7 + 2 * x2) ∧ Tri d M_Wd_copyFrom [vA (x0 + 7 + 2 * x2), vA (x1 + 7 + 2 * x2)] σ (fun r2 σ2 => obok 1 x0 ∧ rdok 105 (x0 + 3) x2 ∧ obok 1 x1 ∧ rdok 105 (x1 + 3) x2 ∧ obok 10 (x1 + 7 + 2 * x2) ∧ ((σ2 (x1 + 7 + 2 * x2) 3 = 0 ∨ σ2 (x1 + 7 + 2 * x2) 3 = 1) ∧ obok 10 (x0 + 7 + 2 * x2) ∧ ∀ σ3, σ3 = up σ2 (x0 + 7 + 2 * x2) 3 (σ2 (x1 + 7 + 2 * x2) 3) → L (d + 1) M_De_copyFrom 24 [vA x0, vA x1, vI (w32 (x2 + 1))] [] σ3 Q)))) : L (d + 1) M_De_copyFrom 24 [vA x0, vA x1, vI x2] [] σ Q :=
  L_iload_n dDe_copyFrom_24 rfl (L_iconst dDe_copyFrom_25 in_4 (L_icmp_ge dDe_copyFrom_26 (by decide) ⟨fun c1 => L_return rfl dDe_copyFrom_68 (h.1 c1), fun c1 => L_aload_n dDe_copyFrom_29 rfl (L_getF (b := x0 + 3) fw_De_18 rfl rfl (by omega) dDe_copyFrom_30 ⟨(h.2 c1).1, L_iload_n dDe_copyFrom_33 rfl (L_aaF (b := x0 + 7 + 2 * x2) (o := (4, 2)) (by decide) rfl (show (x0 + 3 : Int) + 4 + 2 * x2 = x0 + 7 + 2 * x2 by omega) (by decide) dDe_copyFrom_34 ⟨(h.2 c1).2.1, L_aload_n dDe_copyFrom_35 rfl (L_getF (b := x1 + 3) fw_De_18 rfl rfl (by omega) dDe_copyFrom_36 ⟨(h.2 c1).2.2.1, L_iload_n dDe_copyFrom_39 rfl (L_aaF (b := x1 + 7 + 2 * x2) (o := (4, 2)) (by decide) rfl (show (x1 + 3 : Int) + 4 + 2 * x2 = x1 + 7 + 2 * x2 by omega) (by decide) dDe_copyFrom_40 ⟨(h.2 c1).2.2.2.1, L_callVV rfl cv_Wd_copyFrom (As := [vA (x1 + 7 + 2 * x2)]) rfl (tk4 125 rfl rfl) rfl (Nat.le_of_ble_eq_true rfl) dDe_copyFrom_41 ⟨(h.2 c1).2.2.2.2.1, Tri.mono ((h.2 c1).2.2.2.2.2) (fun r2 σ2 q2 => L_aload_n dDe_copyFrom_44 rfl (L_getF (b := x0 + 3) fw_De_18 rfl rfl (by omega) dDe_copyFrom_45 ⟨q2.1, L_iload_n dDe_copyFrom_48 rfl (L_aaF (b := x0 + 7 + 2 * x2) (o := (4, 2)) (by decide) rfl (show (x0 + 3 : Int) + 4 + 2 * x2 = x0 + 7 + 2 * x2 by omega) (by decide) dDe_copyFrom_49 ⟨q2.2.1, L_aload_n dDe_copyFrom_50 rfl (L_getF (b := x1 + 3) fw_De_18 rfl rfl (by omega) dDe_copyFrom_51 ⟨q2.2.2.1, L_iload_n dDe_copyFrom_54 rfl (L_aaF (b := x1 + 7 + 2 * x2) (o := (4, 2)) (by decide) rfl (show (x1 + 3 : Int) + 4 + 2 * x2 = x1 + 7 + 2 * x2 by omega) (by decide) dDe_copyFrom_55 ⟨q2.2.2.2.1, L_getf fw_De_36 rfl dDe_copyFrom_56 ⟨q2.2.2.2.2.1, L_putfN fp_De_36 rfl rfl (fit_z q2.2.2.2.2.2.1) dDe_copyFrom_59 ⟨q2.2.2.2.2.2.2.1, fun σ3 e3 => L_iinc dDe_copyFrom_62 rfl (by decide) (L_goto dDe_copyFrom_65 (by decide) (q2.2.2.2.2.2.2.2 σ3 e3))⟩⟩⟩)⟩)⟩)⟩))⟩⟩)⟩)⟩)⟩)⟩))
theorem dDe_putOn_0 : decode prog_3_method_3_code 0 = .ok (.iload_n 1, 1) := by decide +kernel
theorem dDe_putOn_1 : decode prog_3_method_3_code 1 = .ok (.ifCond .lt 8, 3) := by decide +kernel
theorem dDe_putOn_4 : decode prog_3_method_3_code 4 = .ok (.iload_n 1, 1) := by decide +kernel
theorem dDe_putOn_5 : decode prog_3_method_3_code 5 = .ok (.iconst 4, 1) := by decide +kernel
theorem dDe_putOn_6 : decode prog_3_method_3_code 6 = .ok (.if_icmp .lt 5, 3) := by decide +kernel
theorem dDe_putOn_9 : decode prog_3_method_3_code 9 = .ok (.iconst 0, 1) := by decide +kernel
theorem dDe_putOn_10 : decode prog_3_method_3_code 10 = .ok (.ireturn, 1) := by decide +kernel
theorem dDe_putOn_11 : decode prog_3_method_3_code 11 = .ok (.aload_n 0, 1) := by decide +kernel
theorem dDe_putOn_12 : decode prog_3_method_3_code 12 = .ok (.getfield 18, 3) := by decide +kernel
theorem dDe_putOn_15 : decode prog_3_method_3_code 15 = .ok (.iload_n 1, 1) := by decide +kernel
theorem dDe_putOn_16 : decode prog_3_method_3_code 16 = .ok (.aaload, 1) := by decide +kernel
theorem dDe_putOn_17 : decode prog_3_method_3_code 17 = .ok (.aload_n 0, 1) := by decide +kernel
theorem dDe_putOn_18 : decode prog_3_method_3_code 18 = .ok (.getfield 12, 3) := by decide +kernel
theorem dDe_putOn_21 : decode prog_3_method_3_code 21 = .ok (.invokevirtual 29, 3) := by decide +kernel
theorem dDe_putOn_24 : decode prog_3_method_3_code 24 = .ok (.aload_n 0, 1) := by decide +kernel
theorem dDe_putOn_25 : decode prog_3_method_3_code 25 = .ok (.getfield 18, 3) := by decide +kernel
theorem dDe_putOn_28 : decode prog_3_method_3_code 28 = .ok (.iload_n 1, 1) := by decide +kernel
theorem dDe_putOn_29 : decode prog_3_method_3_code 29 = .ok (.aaload, 1) := by decide +kernel
theorem dDe_putOn_30 : decode prog_3_method_3_code 30 = .ok (.iconst 1, 1) := by decide +kernel
theorem dDe_putOn_31 : decode prog_3_method_3_code 31 = .ok (.putfield 36, 3) := by decide +kernel
theorem dDe_putOn_34 : decode prog_3_method_3_code 34 = .ok (.iconst 1, 1) := by decide +kernel
theorem dDe_putOn_35 : decode prog_3_method_3_code 35 = .ok (.ireturn, 1) := by decide +kernel
theorem t_De_putOn {d : Nat} {x0 x1 : Int} {σ : SG} {Q : Int → SG → Prop} (h : inI x1 → ((x1 < 0 → Q 0 σ) ∧ (0 ≤ x1 → (x1 < 4 → obok 1 x0 ∧ rdok 105 (x0 + 3) x1 ∧ obok 1 x0 ∧ obok 10 (x0 + 7 + 2 * x1) ∧ Tri d M_Wd_copyFrom [vA (x0 + 7 + 2 * x1), vA (x0 + 1)] σ (fun r3 σ3 => obok 1 x0 ∧ rdok 105 (x0 + 3) x1 ∧ (obok 10 (x0 + 7 + 2 * x1) ∧ ∀ σ4, σ4 = up σ3 (x0 + 7 + 2 * x1) 3 1 → Q 1 σ4))) ∧ (4 ≤ x1 → Q 0 σ)))) : Tri (d + 1) M_De_putOn [vA x0, vI x1] σ Q :=
  Tri_intro rfl (Nat.le_of_ble_eq_true rfl) (ls := [vA x0, vI x1]) rfl (fun hok => L_iload_n dDe_putOn_0 rfl (L_if_lt dDe_putOn_1 (by decide) ⟨fun c1 => L_iconst dDe_putOn_9 in_0 (L_zreturn0 rfl dDe_putOn_10 ((h (hok _ (List.mem_of_getElem? (i := 1) rfl))).1 c1)), fun c1 => L_iload_n dDe_putOn_4 rfl (L_iconst dDe_putOn_5 in_4 (L_icmp_lt dDe_putOn_6 (by decide) ⟨fun c2 => L_aload_n dDe_putOn_11 rfl (L_getF (b := x0 + 3) fw_De_18 rfl rfl (by omega) dDe_putOn_12 ⟨(((h (hok _ (List.mem_of_getElem? (i := 1) rfl))).2 c1).1 c2).1, L_iload_n dDe_putOn_15 rfl (L_aaF (b := x0 + 7 + 2 * x1) (o := (4, 2)) (by decide) rfl (show (x0 + 3 : Int) + 4 + 2 * x1 = x0 + 7 + 2 * x1 by omega) (by decide) dDe_putOn_16 ⟨(((h (hok _ (List.mem_of_getElem? (i := 1) rfl))).2 c1).1 c2).2.1, L_aload_n dDe_putOn_17 rfl (L_getF (b := x0 + 1) fw_De_12 rfl rfl (by omega) dDe_putOn_18 ⟨(((h (hok _ (List.mem_of_getElem? (i := 1) rfl))).2 c1).1 c2).2.2.1, L_callVV rfl cv_Wd_copyFrom (As := [vA (x0 + 1)]) rfl (tk4 125 rfl rfl) rfl (Nat.le_of_ble_eq_true rfl) dDe_putOn_21 ⟨(((h (hok _ (List.mem_of_getElem? (i := 1) rfl))).2 c1).1 c2).2.2.2.1, Tri.mono ((((h (hok _ (List.mem_of_getElem? (i := 1) rfl))).2 c1).1 c2).2.2.2.2) (fun r3 σ3 q3 => L_aload_n dDe_putOn_24 rfl (L_getF (b := x0 + 3) fw_De_18 rfl rfl (by omega) dDe_putOn_25 ⟨q3.1, L_iload_n dDe_putOn_28 rfl (L_aaF (b := x0 + 7 + 2 * x1) (o := (4, 2)) (by decide) rfl (show (x0 + 3 : Int) + 4 + 2 * x1 = x0 + 7 + 2 * x1 by omega) (by decide) dDe_putOn_29 ⟨q3.2.1, L_iconst dDe_putOn_30 in_1 (L_putfN fp_De_36 rfl rfl (fit_z (by decide)) dDe_putOn_31 ⟨q3.2.2.1, fun σ4 e4 => L_iconst dDe_putOn_34 in_1 (L_zreturn1 rfl dDe_putOn_35 (q3.2.2.2 σ4 e4))⟩)⟩)⟩))⟩⟩)⟩)⟩), fun c2 => L_iconst dDe_putOn_9 in_0 (L_zreturn0 rfl dDe_putOn_10 (((h (hok _ (List.mem_of_getElem? (i := 1) rfl))).2 c1).2 c2))⟩))⟩))
theorem dDe_holdsOn_0 : decode prog_3_method_4_code 0 = .ok (.iload_n 1, 1) := by decide +kernel
theorem dDe_holdsOn_1 : decode prog_3_method_4_code 1 = .ok (.ifCond .lt 24, 3) := by decide +kernel
theorem dDe_holdsOn_4 : decode prog_3_method_4_code 4 = .ok (.iload_n 1, 1) := by decide +kernel
theorem dDe_holdsOn_5 : decode prog_3_method_4_code 5 = .ok (.iconst 4, 1) := by decide +kernel
theorem dDe_holdsOn_6 : decode prog_3_method_4_code 6 = .ok (.if_icmp .ge 19, 3) := by decide +kernel
theorem dDe_holdsOn_9 : decode prog_3_method_4_code 9 = .ok (.aload_n 0, 1) := by decide +kernel
theorem dDe_holdsOn_10 : decode prog_3_method_4_code 10 = .ok (.getfield 18, 3) := by decide +kernel
theorem dDe_holdsOn_13 : decode prog_3_method_4_code 13 = .ok (.iload_n 1, 1) := by decide +kernel
theorem dDe_holdsOn_14 : decode prog_3_method_4_code 14 = .ok (.aaload, 1) := by decide +kernel
theorem dDe_holdsOn_15 : decode prog_3_method_4_code 15 = .ok (.getfield 36, 3) := by decide +kernel
theorem dDe_holdsOn_18 : decode prog_3_method_4_code 18 = .ok (.ifCond .eq 7, 3) := by decide +kernel
theorem dDe_holdsOn_21 : decode prog_3_method_4_code 21 = .ok (.iconst 1, 1) := by decide +kernel
theorem dDe_holdsOn_22 : decode prog_3_method_4_code 22 = .ok (.goto 4, 3) := by decide +kernel
theorem dDe_holdsOn_25 : decode prog_3_method_4_code 25 = .ok (.iconst 0, 1) := by decide +kernel
theorem dDe_holdsOn_26 : decode prog_3_method_4_code 26 = .ok (.ireturn, 1) := by decide +kernel
theorem t_De_holdsOn {d : Nat} {x0 x1 : Int} {σ : SG} {Q : Int → SG → Prop} (h : inI x1 → ((x1 < 0 → Q 0 σ) ∧ (0 ≤ x1 → (4 ≤ x1 → Q 0 σ) ∧ (x1 < 4 → obok 1 x0 ∧ rdok 105 (x0 + 3) x1 ∧ obok 10 (x0 + 7 + 2 * x1) ∧ (σ (x0 + 7 + 2 * x1) 3 = 0 → Q 0 σ) ∧ (σ (x0 + 7 + 2 * x1) 3 ≠ 0 → Q 1 σ))))) : Tri (d + 1) M_De_holdsOn [vA x0, vI x1] σ Q :=
  Tri_intro rfl (Nat.le_of_ble_eq_true rfl) (ls := [vA x0, vI x1]) rfl (fun hok => L_iload_n dDe_holdsOn_0 rfl (L_if_lt dDe_holdsOn_1 (by decide) ⟨fun c1 => L_iconst dDe_holdsOn_25 in_0 (L_zreturn0 rfl dDe_holdsOn_26 ((h (hok _ (List.mem_of_getElem? (i := 1) rfl))).1 c1)), fun c1 => L_iload_n dDe_holdsOn_4 rfl (L_iconst dDe_holdsOn_5 in_4 (L_icmp_ge dDe_holdsOn_6 (by decide) ⟨fun c2 => L_iconst dDe_holdsOn_25 in_0 (L_zreturn0 rfl dDe_holdsOn_26 (((h (hok _ (List.mem_of_getElem? (i := 1) rfl))).2 c1).1 c2)), fun c2 => L_aload_n dDe_holdsOn_9 rfl (L_getF (b := x0 + 3) fw_De_18 rfl rfl (by omega) dDe_holdsOn_10 ⟨(((h (hok _ (List.mem_of_getElem? (i := 1) rfl))).2 c1).2 c2).1, L_iload_n dDe_holdsOn_13 rfl (L_aaF (b := x0 + 7 + 2 * x1) (o := (4, 2)) (by decide) rfl (show (x0 + 3 : Int) + 4 + 2 * x1 = x0 + 7 + 2 * x1 by omega) (by decide) dDe_holdsOn_14 ⟨(((h (hok _ (List.mem_of_getElem? (i := 1) rfl))).2 c1).2 c2).2.1, L_getf fw_De_36 rfl dDe_holdsOn_15 ⟨(((h (hok _ (List.mem_of_getElem? (i := 1) rfl))).2 c1).2 c2).2.2.1, L_if_eq dDe_holdsOn_18 (by decide) ⟨fun c3 => L_iconst dDe_holdsOn_25 in_0 (L_zreturn0 rfl dDe_holdsOn_26 ((((h (hok _ (List.mem_of_getElem? (i := 1) rfl))).2 c1).2 c2).2.2.2.1 c3)), fun c3 => L_iconst dDe_holdsOn_21 in_1 (L_goto dDe_holdsOn_22 (by decide) (L_zreturn1 rfl dDe_holdsOn_26 ((((h (hok _ (List.mem_of_getElem? (i := 1) rfl))).2 c1).2 c2).2.2.2.2 c3)))⟩⟩⟩)⟩)⟩))⟩))
theorem dDe_heldSet_0 : decode prog_3_method_5_code 0 = .ok (.iconst 0, 1) := by decide +kernel
theorem dDe_heldSet_1 : decode prog_3_method_5_code 1 = .ok (.istore_n 1, 1) := by decide +kernel
theorem dDe_heldSet_2 : decode prog_3_method_5_code 2 = .ok (.iconst 0, 1) := by decide +kernel
theorem dDe_heldSet_3 : decode prog_3_method_5_code 3 = .ok (.istore_n 2, 1) := by decide +kernel
theorem dDe_heldSet_4 : decode prog_3_method_5_code 4 = .ok (.iload_n 2, 1) := by decide +kernel
theorem dDe_heldSet_5 : decode prog_3_method_5_code 5 = .ok (.iconst 4, 1) := by decide +kernel
theorem dDe_heldSet_6 : decode prog_3_method_5_code 6 = .ok (.if_icmp .ge 31, 3) := by decide +kernel
theorem dDe_heldSet_9 : decode prog_3_method_5_code 9 = .ok (.iload_n 1, 1) := by decide +kernel
theorem dDe_heldSet_10 : decode prog_3_method_5_code 10 = .ok (.aload_n 0, 1) := by decide +kernel
theorem dDe_heldSet_11 : decode prog_3_method_5_code 11 = .ok (.getfield 18, 3) := by decide +kernel
theorem dDe_heldSet_14 : decode prog_3_method_5_code 14 = .ok (.iload_n 2, 1) := by decide +kernel
theorem dDe_heldSet_15 : decode prog_3_method_5_code 15 = .ok (.aaload, 1) := by decide +kernel
theorem dDe_heldSet_16 : decode prog_3_method_5_code 16 = .ok (.getfield 36, 3) := by decide +kernel
theorem dDe_heldSet_19 : decode prog_3_method_5_code 19 = .ok (.ifCond .eq 9, 3) := by decide +kernel
theorem dDe_heldSet_22 : decode prog_3_method_5_code 22 = .ok (.iconst 1, 1) := by decide +kernel
theorem dDe_heldSet_23 : decode prog_3_method_5_code 23 = .ok (.iload_n 2, 1) := by decide +kernel
theorem dDe_heldSet_24 : decode prog_3_method_5_code 24 = .ok (.ishl, 1) := by decide +kernel
theorem dDe_heldSet_25 : decode prog_3_method_5_code 25 = .ok (.goto 4, 3) := by decide +kernel
theorem dDe_heldSet_28 : decode prog_3_method_5_code 28 = .ok (.iconst 0, 1) := by decide +kernel
theorem dDe_heldSet_29 : decode prog_3_method_5_code 29 = .ok (.ior, 1) := by decide +kernel
theorem dDe_heldSet_30 : decode prog_3_method_5_code 30 = .ok (.istore_n 1, 1) := by decide +kernel
theorem dDe_heldSet_31 : decode prog_3_method_5_code 31 = .ok (.iinc 2 1, 3) := by decide +kernel
theorem dDe_heldSet_34 : decode prog_3_method_5_code 34 = .ok (.goto (-30), 3) := by decide +kernel
theorem dDe_heldSet_37 : decode prog_3_method_5_code 37 = .ok (.iload_n 1, 1) := by decide +kernel
theorem dDe_heldSet_38 : decode prog_3_method_5_code 38 = .ok (.ireturn, 1) := by decide +kernel
theorem t_De_heldSet {d : Nat} {x0 : Int} {σ : SG} {Q : Int → SG → Prop} (h : L (d + 1) M_De_heldSet 4 [vA x0, vI 0, vI 0] [] σ Q) : Tri (d + 1) M_De_heldSet [vA x0] σ Q :=
  Tri_intro rfl (Nat.le_of_ble_eq_true rfl) (ls := [vA x0, vU, vU]) rfl (fun hok => L_iconst dDe_heldSet_0 in_0 (L_istore_n dDe_heldSet_1 (by decide) (L_iconst dDe_heldSet_2 in_0 (L_istore_n dDe_heldSet_3 (by decide) (h)))))
theorem s_De_heldSet_4 {d : Nat} {x0 x1 x2 : Int} {σ : SG} {Q : Int → SG → Prop} (h : (4 ≤ x2 → Q x1 σ) ∧ (x2 < 4 → obok 1 x0 ∧ rdok 105 (x0 + 3) x2 ∧ obok 10 (x0 + 7 + 2 * x2) ∧ (σ (x0 + 7 + 2 * x2) 3 = 0 → L (d + 1) M_De_heldSet 4 [vA x0, vI (or32 x1 0), vI (w32 (x2 + 1))] [] σ Q) ∧ (σ (x0 + 7 + 2 * x2) 3 ≠ 0 → L (d + 1) M_De_heldSet 4 [vA x0, vI (or32 x1 (shl32 1 x2)), vI (w32 (x2 + 1))] [] σ Q))) : L (d + 1) M_De_heldSet 4 [vA x0, vI x1, vI x2] [] σ Q :=
  L_iload_n dDe_heldSet_4 rfl (L_iconst dDe_heldSet_5 in_4 (L_icmp_ge dDe_heldSet_6 (by decide) ⟨fun c1 => L_iload_n dDe_heldSet_37 rfl (L_ireturn rfl dDe_heldSet_38 (h.1 c1)), fun c1 => L_iload_n dDe_heldSet_9 rfl (L_aload_n dDe_heldSet_10 rfl (L_getF (b := x0 + 3) fw_De_18 rfl rfl (by omega) dDe_heldSet_11 ⟨(h.2 c1).1, L_iload_n dDe_heldSet_14 rfl (L_aaF (b := x0 + 7 + 2 * x2) (o := (4, 2)) (by decide) rfl (show (x0 + 3 : Int) + 4 + 2 * x2 = x0 + 7 + 2 * x2 by omega) (by decide) dDe_heldSet_15 ⟨(h.2 c1).2.1, L_getf fw_De_36 rfl dDe_heldSet_16 ⟨(h.2 c1).2.2.1, L_if_eq dDe_heldSet_19 (by decide) ⟨fun c2 => L_iconst dDe_heldSet_28 in_0 (L_ior dDe_heldSet_29 (L_istore_n dDe_heldSet_30 (by decide) (L_iinc dDe_heldSet_31 rfl (by decide) (L_goto dDe_heldSet_34 (by decide) ((h.2 c1).2.2.2.1 c2))))), fun c2 => L_iconst dDe_heldSet_22 in_1 (L_iload_n dDe_heldSet_23 rfl (L_ishl dDe_heldSet_24 (L_goto dDe_heldSet_25 (by decide) (L_ior dDe_heldSet_29 (L_istore_n dDe_heldSet_30 (by decide) (L_iinc dDe_heldSet_31 rfl (by decide) (L_goto dDe_heldSet_34 (by decide) ((h.2 c1).2.2.2.2 c2))))))))⟩⟩⟩)⟩))⟩))
theorem dRu_perform_0 : decode prog_7_method_2_code 0 = .ok (.aload_n 1, 1) := by decide +kernel
theorem dRu_perform_1 : decode prog_7_method_2_code 1 = .ok (.getfield 17, 3) := by decide +kernel
theorem dRu_perform_4 : decode prog_7_method_2_code 4 = .ok (.astore 5, 2) := by decide +kernel
theorem dRu_perform_6 : decode prog_7_method_2_code 6 = .ok (.aload_n 0, 1) := by decide +kernel
theorem dRu_perform_7 : decode prog_7_method_2_code 7 = .ok (.iconst 1, 1) := by decide +kernel
theorem dRu_perform_8 : decode prog_7_method_2_code 8 = .ok (.putfield 23, 3) := by decide +kernel
theorem dRu_perform_11 : decode prog_7_method_2_code 11 = .ok (.aload_n 0, 1) := by decide +kernel
theorem dRu_perform_12 : decode prog_7_method_2_code 12 = .ok (.iconst 0, 1) := by decide +kernel
theorem dRu_perform_13 : decode prog_7_method_2_code 13 = .ok (.putfield 27, 3) := by decide +kernel
theorem dRu_perform_16 : decode prog_7_method_2_code 16 = .ok (.aload_n 0, 1) := by decide +kernel
theorem dRu_perform_17 : decode prog_7_method_2_code 17 = .ok (.iconst 0, 1) := by decide +kernel
theorem dRu_perform_18 : decode prog_7_method_2_code 18 = .ok (.putfield 31, 3) := by decide +kernel
theorem dRu_perform_21 : decode prog_7_method_2_code 21 = .ok (.aload_n 0, 1) := by decide +kernel
theorem dRu_perform_22 : decode prog_7_method_2_code 22 = .ok (.iconst 0, 1) := by decide +kernel
theorem dRu_perform_23 : decode prog_7_method_2_code 23 = .ok (.putfield 34, 3) := by decide +kernel
theorem dRu_perform_26 : decode prog_7_method_2_code 26 = .ok (.iconst 0, 1) := by decide +kernel
theorem dRu_perform_27 : decode prog_7_method_2_code 27 = .ok (.istore 6, 2) := by decide +kernel
theorem dRu_perform_29 : decode prog_7_method_2_code 29 = .ok (.iconst 0, 1) := by decide +kernel
theorem dRu_perform_30 : decode prog_7_method_2_code 30 = .ok (.istore 7, 2) := by decide +kernel
theorem dRu_perform_32 : decode prog_7_method_2_code 32 = .ok (.iload 7, 2) := by decide +kernel
theorem dRu_perform_34 : decode prog_7_method_2_code 34 = .ok (.ldc 37, 2) := by decide +kernel
theorem dRu_perform_36 : decode prog_7_method_2_code 36 = .ok (.if_icmp .ge 168, 3) := by decide +kernel
theorem dRu_perform_39 : decode prog_7_method_2_code 39 = .ok (.iload 6, 2) := by decide +kernel
theorem dRu_perform_41 : decode prog_7_method_2_code 41 = .ok (.ifCond .lt 163, 3) := by decide +kernel
theorem dRu_perform_44 : decode prog_7_method_2_code 44 = .ok (.iload 6, 2) := by decide +kernel
theorem dRu_perform_46 : decode prog_7_method_2_code 46 = .ok (.aload 5, 2) := by decide +kernel
theorem dRu_perform_48 : decode prog_7_method_2_code 48 = .ok (.getfield 38, 3) := by decide +kernel
theorem dRu_perform_51 : decode prog_7_method_2_code 51 = .ok (.if_icmp .ge 153, 3) := by decide +kernel
theorem dRu_perform_54 : decode prog_7_method_2_code 54 = .ok (.aload 5, 2) := by decide +kernel
theorem dRu_perform_56 : decode prog_7_method_2_code 56 = .ok (.iload 6, 2) := by decide +kernel
theorem dRu_perform_58 : decode prog_7_method_2_code 58 = .ok (.iconst 0, 1) := by decide +kernel
theorem dRu_perform_59 : decode prog_7_method_2_code 59 = .ok (.invokevirtual 41, 3) := by decide +kernel
theorem dRu_perform_62 : decode prog_7_method_2_code 62 = .ok (.istore 8, 2) := by decide +kernel
theorem dRu_perform_64 : decode prog_7_method_2_code 64 = .ok (.iload 8, 2) := by decide +kernel
theorem dRu_perform_66 : decode prog_7_method_2_code 66 = .ok (.bipush 10, 2) := by decide +kernel
theorem dRu_perform_68 : decode prog_7_method_2_code 68 = .ok (.if_icmp .ne 16, 3) := by decide +kernel
theorem dRu_perform_71 : decode prog_7_method_2_code 71 = .ok (.aload_n 0, 1) := by decide +kernel
theorem dRu_perform_72 : decode prog_7_method_2_code 72 = .ok (.aload 5, 2) := by decide +kernel
theorem dRu_perform_74 : decode prog_7_method_2_code 74 = .ok (.iload 6, 2) := by decide +kernel
theorem dRu_perform_76 : decode prog_7_method_2_code 76 = .ok (.invokevirtual 45, 3) := by decide +kernel
theorem dRu_perform_79 : decode prog_7_method_2_code 79 = .ok (.istore 6, 2) := by decide +kernel
theorem dRu_perform_81 : decode prog_7_method_2_code 81 = .ok (.goto 117, 3) := by decide +kernel
theorem dRu_perform_84 : decode prog_7_method_2_code 84 = .ok (.aload_n 0, 1) := by decide +kernel
theorem dRu_perform_85 : decode prog_7_method_2_code 85 = .ok (.getfield 27, 3) := by decide +kernel
theorem dRu_perform_88 : decode prog_7_method_2_code 88 = .ok (.sipush 300, 3) := by decide +kernel
theorem dRu_perform_91 : decode prog_7_method_2_code 91 = .ok (.if_icmp .lt 9, 3) := by decide +kernel
theorem dRu_perform_94 : decode prog_7_method_2_code 94 = .ok (.aload_n 0, 1) := by decide +kernel
theorem dRu_perform_95 : decode prog_7_method_2_code 95 = .ok (.iconst 1, 1) := by decide +kernel
theorem dRu_perform_96 : decode prog_7_method_2_code 96 = .ok (.putfield 34, 3) := by decide +kernel
theorem dRu_perform_99 : decode prog_7_method_2_code 99 = .ok (.return_, 1) := by decide +kernel
theorem dRu_perform_100 : decode prog_7_method_2_code 100 = .ok (.aload_n 0, 1) := by decide +kernel
theorem dRu_perform_101 : decode prog_7_method_2_code 101 = .ok (.dup, 1) := by decide +kernel
theorem dRu_perform_102 : decode prog_7_method_2_code 102 = .ok (.getfield 27, 3) := by decide +kernel
theorem dRu_perform_105 : decode prog_7_method_2_code 105 = .ok (.iconst 1, 1) := by decide +kernel
theorem dRu_perform_106 : decode prog_7_method_2_code 106 = .ok (.iadd, 1) := by decide +kernel
theorem dRu_perform_107 : decode prog_7_method_2_code 107 = .ok (.putfield 27, 3) := by decide +kernel
theorem dRu_perform_110 : decode prog_7_method_2_code 110 = .ok (.iload 8, 2) := by decide +kernel
theorem dRu_perform_112 : decode prog_7_method_2_code 112 = .ok (.bipush 9, 2) := by decide +kernel
theorem dRu_perform_114 : decode prog_7_method_2_code 114 = .ok (.if_icmp .ne 4, 3) := by decide +kernel
theorem dRu_perform_117 : decode prog_7_method_2_code 117 = .ok (.return_, 1) := by decide +kernel
theorem dRu_perform_118 : decode prog_7_method_2_code 118 = .ok (.iload 8, 2) := by decide +kernel
theorem dRu_perform_120 : decode prog_7_method_2_code 120 = .ok (.bipush 8, 2) := by decide +kernel
theorem dRu_perform_122 : decode prog_7_method_2_code 122 = .ok (.if_icmp .ne 21, 3) := by decide +kernel
theorem dRu_perform_125 : decode prog_7_method_2_code 125 = .ok (.aload_n 0, 1) := by decide +kernel
theorem dRu_perform_126 : decode prog_7_method_2_code 126 = .ok (.getfield 11, 3) := by decide +kernel
theorem dRu_perform_129 : decode prog_7_method_2_code 129 = .ok (.iload 6, 2) := by decide +kernel
theorem dRu_perform_131 : decode prog_7_method_2_code 131 = .ok (.aload 5, 2) := by decide +kernel
theorem dRu_perform_133 : decode prog_7_method_2_code 133 = .ok (.iload 6, 2) := by decide +kernel
theorem dRu_perform_135 : decode prog_7_method_2_code 135 = .ok (.iconst 1, 1) := by decide +kernel
theorem dRu_perform_136 : decode prog_7_method_2_code 136 = .ok (.invokevirtual 41, 3) := by decide +kernel
theorem dRu_perform_139 : decode prog_7_method_2_code 139 = .ok (.iastore, 1) := by decide +kernel
theorem dRu_perform_140 : decode prog_7_method_2_code 140 = .ok (.goto 55, 3) := by decide +kernel
theorem dRu_perform_143 : decode prog_7_method_2_code 143 = .ok (.iload 8, 2) := by decide +kernel
theorem dRu_perform_145 : decode prog_7_method_2_code 145 = .ok (.bipush 7, 2) := by decide +kernel
theorem dRu_perform_147 : decode prog_7_method_2_code 147 = .ok (.if_icmp .ne 27, 3) := by decide +kernel
theorem dRu_perform_150 : decode prog_7_method_2_code 150 = .ok (.aload_n 1, 1) := by decide +kernel
theorem dRu_perform_151 : decode prog_7_method_2_code 151 = .ok (.iload 6, 2) := by decide +kernel
theorem dRu_perform_153 : decode prog_7_method_2_code 153 = .ok (.aload_n 2, 1) := by decide +kernel
theorem dRu_perform_154 : decode prog_7_method_2_code 154 = .ok (.aload_n 3, 1) := by decide +kernel
theorem dRu_perform_155 : decode prog_7_method_2_code 155 = .ok (.invokestatic 49, 3) := by decide +kernel
theorem dRu_perform_158 : decode prog_7_method_2_code 158 = .ok (.ifCond .ne 37, 3) := by decide +kernel
theorem dRu_perform_161 : decode prog_7_method_2_code 161 = .ok (.aload 5, 2) := by decide +kernel
theorem dRu_perform_163 : decode prog_7_method_2_code 163 = .ok (.iload 6, 2) := by decide +kernel
theorem dRu_perform_165 : decode prog_7_method_2_code 165 = .ok (.iconst 5, 1) := by decide +kernel
theorem dRu_perform_166 : decode prog_7_method_2_code 166 = .ok (.invokevirtual 41, 3) := by decide +kernel
theorem dRu_perform_169 : decode prog_7_method_2_code 169 = .ok (.istore 6, 2) := by decide +kernel
theorem dRu_perform_171 : decode prog_7_method_2_code 171 = .ok (.goto 24, 3) := by decide +kernel
theorem dRu_perform_174 : decode prog_7_method_2_code 174 = .ok (.aload_n 1, 1) := by decide +kernel
theorem dRu_perform_175 : decode prog_7_method_2_code 175 = .ok (.iload 6, 2) := by decide +kernel
theorem dRu_perform_177 : decode prog_7_method_2_code 177 = .ok (.aload 4, 2) := by decide +kernel
theorem dRu_perform_179 : decode prog_7_method_2_code 179 = .ok (.invokestatic 53, 3) := by decide +kernel
theorem dRu_perform_182 : decode prog_7_method_2_code 182 = .ok (.ifCond .ne 13, 3) := by decide +kernel
theorem dRu_perform_185 : decode prog_7_method_2_code 185 = .ok (.aload_n 0, 1) := by decide +kernel
theorem dRu_perform_186 : decode prog_7_method_2_code 186 = .ok (.dup, 1) := by decide +kernel
theorem dRu_perform_187 : decode prog_7_method_2_code 187 = .ok (.getfield 31, 3) := by decide +kernel
theorem dRu_perform_190 : decode prog_7_method_2_code 190 = .ok (.iconst 1, 1) := by decide +kernel
theorem dRu_perform_191 : decode prog_7_method_2_code 191 = .ok (.iadd, 1) := by decide +kernel
theorem dRu_perform_192 : decode prog_7_method_2_code 192 = .ok (.putfield 31, 3) := by decide +kernel
theorem dRu_perform_195 : decode prog_7_method_2_code 195 = .ok (.iinc 6 1, 3) := by decide +kernel
theorem dRu_perform_198 : decode prog_7_method_2_code 198 = .ok (.iinc 7 1, 3) := by decide +kernel
theorem dRu_perform_201 : decode prog_7_method_2_code 201 = .ok (.goto (-169), 3) := by decide +kernel
theorem dRu_perform_204 : decode prog_7_method_2_code 204 = .ok (.return_, 1) := by decide +kernel
theorem t_Ru_perform {d : Nat} {x1 x2 x3 x4 : Int} {σ : SG} {Q : Int → SG → Prop} (h : obok 1 x1 ∧ (∀ σ1, σ1 = up σ 114 0 1 → (∀ σ2, σ2 = up σ1 114 1 0 → (∀ σ3, σ3 = up σ2 114 2 0 → (∀ σ4, σ4 = up σ3 114 3 0 → L (d + 1) M_Ru_perform 32 [vA 114, vA x1, vA x2, vA x3, vA x4, vA (x1 + 4), vI 0, vI 0, vU] [] σ4 Q))))) : Tri (d + 1) M_Ru_perform [vA 114, vA x1, vA x2, vA x3, vA x4] σ Q :=
  Tri_intro rfl (Nat.le_of_ble_eq_true rfl) (ls := [vA 114, vA x1, vA x2, vA x3, vA x4, vU, vU, vU, vU]) rfl (fun hok => L_aload_n dRu_perform_0 rfl (L_getF (b := x1 + 4) fw_Ru_17 rfl rfl (by omega) dRu_perform_1 ⟨h.1, L_astoreA dRu_perform_4 (by decide) (L_aload_n dRu_perform_6 rfl (L_iconst dRu_perform_7 in_1 (L_putfN fp_Ru_23 rfl rfl (fit_z (by decide)) dRu_perform_8 ⟨ob_114, fun σ1 e1 => L_aload_n dRu_perform_11 rfl (L_iconst dRu_perform_12 in_0 (L_putfN fp_Ru_27 rfl rfl (fun _ => ⟨rfl, rfl⟩) dRu_perform_13 ⟨ob_114, fun σ2 e2 => L_aload_n dRu_perform_16 rfl (L_iconst dRu_perform_17 in_0 (L_putfN fp_Ru_31 rfl rfl (fun _ => ⟨rfl, rfl⟩) dRu_perform_18 ⟨ob_114, fun σ3 e3 => L_aload_n dRu_perform_21 rfl (L_iconst dRu_perform_22 in_0 (L_putfN fp_Ru_34 rfl rfl (fun _ => ⟨rfl, rfl⟩) dRu_perform_23 ⟨ob_114, fun σ4 e4 => L_iconst dRu_perform_26 in_0 (L_istore dRu_perform_27 (by decide) (L_iconst dRu_perform_29 in_0 (L_istore dRu_perform_30 (by decide) ((((h.2 σ1 e1) σ2 e2) σ3 e3) σ4 e4))))⟩))⟩))⟩))⟩)))⟩))
theorem s_Ru_perform_32 {d : Nat} {x1 x2 x3 x4 x5 x6 x7 : Int} {σ : SG} {Q : Int → SG → Prop} (h : (1000000 ≤ x7 → Q 0 σ) ∧ (x7 < 1000000 → (x6 < 0 → Q 0 σ) ∧ (0 ≤ x6 → obok 6 x5 ∧ (σ x5 2 ≤ x6 → Q 0 σ) ∧ (x6 < σ x5 2 → obok 6 x5 ∧ Tri d M_Sc_get [vA x5, vI x6, vI 0] σ (fun r4 σ4 => (r4 ≠ 10 → (σ4 114 1 < 300 → (∀ σ7, σ7 = up σ4 114 1 (w32 ((σ4 114 1) + 1)) → (r4 ≠ 9 → (r4 ≠ 8 → (r4 ≠ 7 → Tri d M_Ru_isDone [vA x1, vI x6, vA x4] σ7 (fun r11 σ11 => (r11 ≠ 0 → L (d + 1) M_Ru_perform 32 [vA 114, vA x1, vA x2, vA x3, vA x4, vA x5, vI (w32 (x6 + 1)), vI (w32 (x7 + 1)), vU] [] σ11 Q) ∧ (r11 = 0 → (∀ σ13, σ13 = up σ11 114 2 (w32 ((σ11 114 2) + 1)) → L (d + 1) M_Ru_perform 32 [vA 114, vA x1, vA x2, vA x3, vA x4, vA x5, vI (w32 (x6 + 1)), vI (w32 (x7 + 1)), vU] [] σ13 Q)))) ∧ (r4 = 7 → Tri d M_Ru_isSo [vA x1, vI x6, vA x2, vA x3] σ7 (fun r14 σ14 => (r14 ≠ 0 → L (d + 1) M_Ru_perform 32 [vA 114, vA x1, vA x2, vA x3, vA x4, vA x5, vI (w32 (x6 + 1)), vI (w32 (x7 + 1)), vU] [] σ14 Q) ∧ (r14 = 0 → obok 6 x5 ∧ Tri d M_Sc_get [vA x5, vI x6, vI 5] σ14 (fun r16 σ16 => L (d + 1) M_Ru_perform 32 [vA 114, vA x1, vA x2, vA x3, vA x4, vA x5, vI (w32 (r16 + 1)), vI (w32 (x7 + 1)), vU] [] σ16 Q))))) ∧ (r4 = 8 → obok 6 x5 ∧ Tri d M_Sc_get [vA x5, vI x6, vI 1] σ7 (fun r17 σ17 => (0 ≤ x6 ∧ x6 < 60) ∧ (∀ σ18, σ18 = up σ17 115 x6 r17 → L (d + 1) M_Ru_perform 32 [vA 114, vA x1, vA x2, vA x3, vA x4, vA x5, vI (w32 (x6 + 1)), vI (w32 (x7 + 1)), vU] [] σ18 Q)))) ∧ (r4 = 9 → Q 0 σ7))) ∧ (300 ≤ σ4 114 1 → (∀ σ19, σ19 = up σ4 114 3 1 → Q 0 σ19))) ∧ (r4 = 10 → Tri d M_Ru_behindEnd [vA 114, vA x5, vI x6] σ4 (fun r20 σ20 => L (d + 1) M_Ru_perform 32 [vA 114, vA x1, vA x2, vA x3, vA x4, vA x5, vI r20, vI (w32 (x7 + 1)), vU] [] σ20 Q))))))) : L (d + 1) M_Ru_perform 32 [vA 114, vA x1, vA x2, vA x3, vA x4, vA x5, vI x6, vI x7, vU] [] σ Q :=
  L_iload dRu_perform_32 rfl (L_ldc (x := 1000000) (tk6 127 rfl rfl) rfl in_1000000 dRu_perform_34 (L_icmp_ge dRu_perform_36 (by decide) ⟨fun c1 => L_return rfl dRu_perform_204 (h.1 c1), fun c1 => L_iload dRu_perform_39 rfl (L_if_lt dRu_perform_41 (by decide) ⟨fun c2 => L_return rfl dRu_perform_204 ((h.2 c1).1 c2), fun c2 => L_iload dRu_perform_44 rfl (L_aload dRu_perform_46 rfl (L_getf fw_Ru_38 rfl dRu_perform_48 ⟨((h.2 c1).2 c2).1, L_icmp_ge dRu_perform_51 (by decide) ⟨fun c3 => L_return rfl dRu_perform_204 (((h.2 c1).2 c2).2.1 c3), fun c3 => L_aload dRu_perform_54 rfl (L_iload dRu_perform_56 rfl (L_iconst dRu_perform_58 in_0 (L_callVI rfl cv_Sc_get (As := [vI x6, vI 0]) rfl (tk6 128 rfl rfl) rfl (Nat.le_of_ble_eq_true rfl) dRu_perform_59 ⟨(((h.2 c1).2 c2).2.2 c3).1, Tri.mono ((((h.2 c1).2 c2).2.2 c3).2) (fun r4 σ4 q4 => L_istore dRu_perform_62 (by decide) (L_iload dRu_perform_64 rfl (L_bipush dRu_perform_66 bp_10 in_10 (L_icmp_ne dRu_perform_68 (by decide) ⟨fun c5 => L_aload_n dRu_perform_84 rfl (L_getf fw_Ru_27 rfl dRu_perform_85 ⟨ob_114, L_sipush dRu_perform_88 sp_300 in_300 (L_icmp_lt dRu_perform_91 (by decide) ⟨fun c6 => L_aload_n dRu_perform_100 rfl (L_dup dRu_perform_101 n21 (L_getf fw_Ru_27 rfl dRu_perform_102 ⟨ob_114, L_iconst dRu_perform_105 in_1 (L_iadd dRu_perform_106 (L_putfN fp_Ru_27 rfl rfl (fun _ => ⟨rfl, rfl⟩) dRu_perform_107 ⟨ob_114, fun σ7 e7 => L_iload dRu_perform_110 rfl (L_bipush dRu_perform_112 bp_9 in_9 (L_icmp_ne dRu_perform_114 (by decide) ⟨fun c8 => L_iload dRu_perform_118 rfl (L_bipush dRu_perform_120 bp_8 in_8 (L_icmp_ne dRu_perform_122 (by decide) ⟨fun c9 => L_iload dRu_perform_143 rfl (L_bipush dRu_perform_145 bp_7 in_7 (L_icmp_ne dRu_perform_147 (by decide) ⟨fun c10 => L_aload_n dRu_perform_174 rfl (L_iload dRu_perform_175 rfl (L_aload dRu_perform_177 rfl (L_callSI rfl cs_Ru_isDone (As := [vA x1, vI x6, vA x4]) rfl (tk6 150 rfl rfl) rfl (Nat.le_of_ble_eq_true rfl) dRu_perform_179 (Tri.mono ((((((q4.1 c5).1 c6) σ7 e7).1 c8).1 c9).1 c10) (fun r11 σ11 q11 => L_if_ne dRu_perform_182 (by decide) ⟨fun c12 => L_iinc dRu_perform_195 rfl (by decide) (L_iinc dRu_perform_198 rfl (by decide) (L_goto dRu_perform_201 (by decide) (L_weak [true, true, true, true, true, true, true, true, false] (q11.1 c12)))), fun c12 => L_aload_n dRu_perform_185 rfl (L_dup dRu_perform_186 n21 (L_getf fw_Ru_31 rfl dRu_perform_187 ⟨ob_114, L_iconst dRu_perform_190 in_1 (L_iadd dRu_perform_191 (L_putfN fp_Ru_31 rfl rfl (fun _ => ⟨rfl, rfl⟩) dRu_perform_192 ⟨ob_114, fun σ13 e13 => L_iinc dRu_perform_195 rfl (by decide) (L_iinc dRu_perform_198 rfl (by decide) (L_goto dRu_perform_201 (by decide) (L_weak [true, true, true, true, true, true, true, true, false] ((q11.2 c12) σ13 e13))))⟩))⟩))⟩))))), fun c10 => L_aload_n dRu_perform_150 rfl (L_iload dRu_perform_151 rfl (L_aload_n dRu_perform_153 rfl (L_aload_n dRu_perform_154 rfl (L_callSI rfl cs_Ru_isSo (As := [vA x1, vI x6, vA x2, vA x3]) rfl (tk6 136 rfl rfl) rfl (Nat.le_of_ble_eq_true rfl) dRu_perform_155 (Tri.mono ((((((q4.1 c5).1 c6) σ7 e7).1 c8).1 c9).2 c10) (fun r14 σ14 q14 => L_if_ne dRu_perform_158 (by decide) ⟨fun c15 => L_iinc dRu_perform_195 rfl (by decide) (L_iinc dRu_perform_198 rfl (by decide) (L_goto dRu_perform_201 (by decide) (L_weak [true, true, true, true, true, true, true, true, false] (q14.1 c15)))), fun c15 => L_aload dRu_perform_161 rfl (L_iload dRu_perform_163 rfl (L_iconst dRu_perform_165 in_5 (L_callVI rfl cv_Sc_get (As := [vI x6, vI 5]) rfl (tk6 128 rfl rfl) rfl (Nat.le_of_ble_eq_true rfl) dRu_perform_166 ⟨(q14.2 c15).1, Tri.mono ((q14.2 c15).2) (fun r16 σ16 q16 => L_istore dRu_perform_169 (by decide) (L_goto dRu_perform_171 (by decide) (L_iinc dRu_perform_195 rfl (by decide) (L_iinc dRu_perform_198 rfl (by decide) (L_goto dRu_perform_201 (by decide) (L_weak [true, true, true, true, true, true, true, true, false] q16))))))⟩)))⟩))))))⟩)), fun c9 => L_aload_n dRu_perform_125 rfl (L_getF (b := 115) fw_Ru_11 rfl rfl (by decide) dRu_perform_126 ⟨ob_114, L_iload dRu_perform_129 rfl (L_aload dRu_perform_131 rfl (L_iload dRu_perform_133 rfl (L_iconst dRu_perform_135 in_1 (L_callVI rfl cv_Sc_get (As := [vI x6, vI 1]) rfl (tk6 128 rfl rfl) rfl (Nat.le_of_ble_eq_true rfl) dRu_perform_136 ⟨(((((q4.1 c5).1 c6) σ7 e7).1 c8).2 c9).1, Tri.mono ((((((q4.1 c5).1 c6) σ7 e7).1 c8).2 c9).2) (fun r17 σ17 q17 => L_iastoreL (by decide) kd_115 dRu_perform_139 ⟨q17.1, fun σ18 e18 => L_goto dRu_perform_140 (by decide) (L_iinc dRu_perform_195 rfl (by decide) (L_iinc dRu_perform_198 rfl (by decide) (L_goto dRu_perform_201 (by decide) (L_weak [true, true, true, true, true, true, true, true, false] (q17.2 σ18 e18)))))⟩)⟩))))⟩)⟩)), fun c8 => L_return rfl dRu_perform_117 ((((q4.1 c5).1 c6) σ7 e7).2 c8)⟩))⟩))⟩)), fun c6 => L_aload_n dRu_perform_94 rfl (L_iconst dRu_perform_95 in_1 (L_putfN fp_Ru_34 rfl rfl (fun _ => ⟨rfl, rfl⟩) dRu_perform_96 ⟨ob_114, fun σ19 e19 => L_return rfl dRu_perform_99 (((q4.1 c5).2 c6) σ19 e19)⟩))⟩)⟩), fun c5 => L_aload_n dRu_perform_71 rfl (L_aload dRu_perform_72 rfl (L_iload dRu_perform_74 rfl (L_callVI rfl cv_Ru_behindEnd (As := [vA x5, vI x6]) rfl (tk6 132 rfl rfl) rfl (Nat.le_of_ble_eq_true rfl) dRu_perform_76 ⟨ob_114, Tri.mono (q4.2 c5) (fun r20 σ20 q20 => L_istore dRu_perform_79 (by decide) (L_goto dRu_perform_81 (by decide) (L_iinc dRu_perform_198 rfl (by decide) (L_goto dRu_perform_201 (by decide) (L_weak [true, true, true, true, true, true, true, true, false] q20)))))⟩)))⟩))))⟩)))⟩⟩))⟩)⟩))
theorem dRu_behindEnd_0 : decode prog_7_method_3_code 0 = .ok (.aload_n 1, 1) := by decide +kernel
theorem dRu_behindEnd_1 : decode prog_7_method_3_code 1 = .ok (.iload_n 2, 1) := by decide +kernel
theorem dRu_behindEnd_2 : decode prog_7_method_3_code 2 = .ok (.iconst 5, 1) := by decide +kernel
theorem dRu_behindEnd_3 : decode prog_7_method_3_code 3 = .ok (.invokevirtual 41, 3) := by decide +kernel
theorem dRu_behindEnd_6 : decode prog_7_method_3_code 6 = .ok (.istore_n 3, 1) := by decide +kernel
theorem dRu_behindEnd_7 : decode prog_7_method_3_code 7 = .ok (.iload_n 3, 1) := by decide +kernel
theorem dRu_behindEnd_8 : decode prog_7_method_3_code 8 = .ok (.ifCond .lt 27, 3) := by decide +kernel
theorem dRu_behindEnd_11 : decode prog_7_method_3_code 11 = .ok (.iload_n 3, 1) := by decide +kernel
theorem dRu_behindEnd_12 : decode prog_7_method_3_code 12 = .ok (.aload_n 0, 1) := by decide +kernel
theorem dRu_behindEnd_13 : decode prog_7_method_3_code 13 = .ok (.getfield 11, 3) := by decide +kernel
theorem dRu_behindEnd_16 : decode prog_7_method_3_code 16 = .ok (.arraylength, 1) := by decide +kernel
theorem dRu_behindEnd_17 : decode prog_7_method_3_code 17 = .ok (.if_icmp .ge 18, 3) := by decide +kernel
theorem dRu_behindEnd_20 : decode prog_7_method_3_code 20 = .ok (.aload_n 1, 1) := by decide +kernel
theorem dRu_behindEnd_21 : decode prog_7_method_3_code 21 = .ok (.iload_n 3, 1) := by decide +kernel
theorem dRu_behindEnd_22 : decode prog_7_method_3_code 22 = .ok (.iconst 0, 1) := by decide +kernel
theorem dRu_behindEnd_23 : decode prog_7_method_3_code 23 = .ok (.invokevirtual 41, 3) := by decide +kernel
theorem dRu_behindEnd_26 : decode prog_7_method_3_code 26 = .ok (.bipush 8, 2) := by decide +kernel
theorem dRu_behindEnd_28 : decode prog_7_method_3_code 28 = .ok (.if_icmp .ne 7, 3) := by decide +kernel
theorem dRu_behindEnd_31 : decode prog_7_method_3_code 31 = .ok (.iconst 1, 1) := by decide +kernel
theorem dRu_behindEnd_32 : decode prog_7_method_3_code 32 = .ok (.goto 4, 3) := by decide +kernel
theorem dRu_behindEnd_35 : decode prog_7_method_3_code 35 = .ok (.iconst 0, 1) := by decide +kernel
theorem dRu_behindEnd_36 : decode prog_7_method_3_code 36 = .ok (.istore 4, 2) := by decide +kernel
theorem dRu_behindEnd_38 : decode prog_7_method_3_code 38 = .ok (.iload 4, 2) := by decide +kernel
theorem dRu_behindEnd_40 : decode prog_7_method_3_code 40 = .ok (.ifCond .eq 27, 3) := by decide +kernel
theorem dRu_behindEnd_43 : decode prog_7_method_3_code 43 = .ok (.aload_n 0, 1) := by decide +kernel
theorem dRu_behindEnd_44 : decode prog_7_method_3_code 44 = .ok (.getfield 11, 3) := by decide +kernel
theorem dRu_behindEnd_47 : decode prog_7_method_3_code 47 = .ok (.iload_n 3, 1) := by decide +kernel
theorem dRu_behindEnd_48 : decode prog_7_method_3_code 48 = .ok (.iaload, 1) := by decide +kernel
theorem dRu_behindEnd_49 : decode prog_7_method_3_code 49 = .ok (.iconst 1, 1) := by decide +kernel
theorem dRu_behindEnd_50 : decode prog_7_method_3_code 50 = .ok (.if_icmp .le 17, 3) := by decide +kernel
theorem dRu_behindEnd_53 : decode prog_7_method_3_code 53 = .ok (.aload_n 0, 1) := by decide +kernel
theorem dRu_behindEnd_54 : decode prog_7_method_3_code 54 = .ok (.getfield 11, 3) := by decide +kernel
theorem dRu_behindEnd_57 : decode prog_7_method_3_code 57 = .ok (.iload_n 3, 1) := by decide +kernel
theorem dRu_behindEnd_58 : decode prog_7_method_3_code 58 = .ok (.dup2, 1) := by decide +kernel
theorem dRu_behindEnd_59 : decode prog_7_method_3_code 59 = .ok (.iaload, 1) := by decide +kernel
theorem dRu_behindEnd_60 : decode prog_7_method_3_code 60 = .ok (.iconst 1, 1) := by decide +kernel
theorem dRu_behindEnd_61 : decode prog_7_method_3_code 61 = .ok (.isub, 1) := by decide +kernel
theorem dRu_behindEnd_62 : decode prog_7_method_3_code 62 = .ok (.iastore, 1) := by decide +kernel
theorem dRu_behindEnd_63 : decode prog_7_method_3_code 63 = .ok (.iload_n 3, 1) := by decide +kernel
theorem dRu_behindEnd_64 : decode prog_7_method_3_code 64 = .ok (.iconst 1, 1) := by decide +kernel
theorem dRu_behindEnd_65 : decode prog_7_method_3_code 65 = .ok (.iadd, 1) := by decide +kernel
theorem dRu_behindEnd_66 : decode prog_7_method_3_code 66 = .ok (.ireturn, 1) := by decide +kernel
theorem dRu_behindEnd_67 : decode prog_7_method_3_code 67 = .ok (.iload_n 2, 1) := by decide +kernel
theorem dRu_behindEnd_68 : decode prog_7_method_3_code 68 = .ok (.iconst 1, 1) := by decide +kernel
theorem dRu_behindEnd_69 : decode prog_7_method_3_code 69 = .ok (.iadd, 1) := by decide +kernel
theorem dRu_behindEnd_70 : decode prog_7_method_3_code 70 = .ok (.ireturn, 1) := by decide +kernel
theorem t_Ru_behindEnd {d : Nat} {x1 x2 : Int} {σ : SG} {Q : Int → SG → Prop} (h : inI x2 → (obok 6 x1 ∧ Tri d M_Sc_get [vA x1, vI x2, vI 5] σ (fun r1 σ1 => (r1 < 0 → L (d + 1) M_Ru_behindEnd 36 [vA 114, vU, vI x2, vI r1, vU] [vI 0] σ1 Q) ∧ (0 ≤ r1 → (60 ≤ r1 → L (d + 1) M_Ru_behindEnd 36 [vA 114, vU, vI x2, vI r1, vU] [vI 0] σ1 Q) ∧ (r1 < 60 → obok 6 x1 ∧ Tri d M_Sc_get [vA x1, vI r1, vI 0] σ1 (fun r4 σ4 => (r4 ≠ 8 → L (d + 1) M_Ru_behindEnd 36 [vA 114, vU, vI x2, vI r1, vU] [vI 0] σ4 Q) ∧ (r4 = 8 → L (d + 1) M_Ru_behindEnd 36 [vA 114, vU, vI x2, vI r1, vU] [vI 1] σ4 Q))))))) : Tri (d + 1) M_Ru_behindEnd [vA 114, vA x1, vI x2] σ Q :=
  Tri_intro rfl (Nat.le_of_ble_eq_true rfl) (ls := [vA 114, vA x1, vI x2, vU, vU]) rfl (fun hok => L_aload_n dRu_behindEnd_0 rfl (L_iload_n dRu_behindEnd_1 rfl (L_iconst dRu_behindEnd_2 in_5 (L_callVI rfl cv_Sc_get (As := [vI x2, vI 5]) rfl (tk6 128 rfl rfl) rfl (Nat.le_of_ble_eq_true rfl) dRu_behindEnd_3 ⟨(h (hok _ (List.mem_of_getElem? (i := 2) rfl))).1, Tri.mono ((h (hok _ (List.mem_of_getElem? (i := 2) rfl))).2) (fun r1 σ1 q1 => L_istore_n dRu_behindEnd_6 (by decide) (L_iload_n dRu_behindEnd_7 rfl (L_if_lt dRu_behindEnd_8 (by decide) ⟨fun c2 => L_iconst dRu_behindEnd_35 in_0 (L_weak [true, false, true, true, true] (q1.1 c2)), fun c2 => L_iload_n dRu_behindEnd_11 rfl (L_aload_n dRu_behindEnd_12 rfl (L_getF (b := 115) fw_Ru_11 rfl rfl (by decide) dRu_behindEnd_13 ⟨ob_114, L_alenL (by decide) kd_115 dRu_behindEnd_16 (L_icmp_ge dRu_behindEnd_17 (by decide) ⟨fun c3 => L_iconst dRu_behindEnd_35 in_0 (L_weak [true, false, true, true, true] ((q1.2 c2).1 c3)), fun c3 => L_aload_n dRu_behindEnd_20 rfl (L_iload_n dRu_behindEnd_21 rfl (L_iconst dRu_behindEnd_22 in_0 (L_callVI rfl cv_Sc_get (As := [vI r1, vI 0]) rfl (tk6 128 rfl rfl) rfl (Nat.le_of_ble_eq_true rfl) dRu_behindEnd_23 ⟨((q1.2 c2).2 c3).1, Tri.mono (((q1.2 c2).2 c3).2) (fun r4 σ4 q4 => L_bipush dRu_behindEnd_26 bp_8 in_8 (L_icmp_ne dRu_behindEnd_28 (by decide) ⟨fun c5 => L_iconst dRu_behindEnd_35 in_0 (L_weak [true, false, true, true, true] (q4.1 c5)), fun c5 => L_iconst dRu_behindEnd_31 in_1 (L_goto dRu_behindEnd_32 (by decide) (L_weak [true, false, true, true, true] (q4.2 c5)))⟩))⟩)))⟩)⟩))⟩)))⟩))))
theorem s_Ru_behindEnd_36 {d : Nat} {x2 x3 y0 : Int} {σ : SG} {Q : Int → SG → Prop} (h : (y0 = 0 → Q (w32 (x2 + 1)) σ) ∧ (y0 ≠ 0 → (0 ≤ x3 ∧ x3 < 60) ∧ (σ 115 x3 ≤ 1 → Q (w32 (x2 + 1)) σ) ∧ (1 < σ 115 x3 → (0 ≤ x3 ∧ x3 < 60) ∧ (0 ≤ x3 ∧ x3 < 60) ∧ (∀ σ3, σ3 = up σ 115 x3 (w32 ((σ 115 x3) - 1)) → Q (w32 (x3 + 1)) σ3)))) : L (d + 1) M_Ru_behindEnd 36 [vA 114, vU, vI x2, vI x3, vU] [vI y0] σ Q :=
  L_istore dRu_behindEnd_36 (by decide) (L_iload dRu_behindEnd_38 rfl (L_if_eq dRu_behindEnd_40 (by decide) ⟨fun c1 => L_iload_n dRu_behindEnd_67 rfl (L_iconst dRu_behindEnd_68 in_1 (L_iadd dRu_behindEnd_69 (L_ireturn rfl dRu_behindEnd_70 (h.1 c1)))), fun c1 => L_aload_n dRu_behindEnd_43 rfl (L_getF (b := 115) fw_Ru_11 rfl rfl (by decide) dRu_behindEnd_44 ⟨ob_114, L_iload_n dRu_behindEnd_47 rfl (L_ialoadL kd_115 dRu_behindEnd_48 ⟨(h.2 c1).1, L_iconst dRu_behindEnd_49 in_1 (L_icmp_le dRu_behindEnd_50 (by decide) ⟨fun c2 => L_iload_n dRu_behindEnd_67 rfl (L_iconst dRu_behindEnd_68 in_1 (L_iadd dRu_behindEnd_69 (L_ireturn rfl dRu_behindEnd_70 ((h.2 c1).2.1 c2)))), fun c2 => L_aload_n dRu_behindEnd_53 rfl (L_getF (b := 115) fw_Ru_11 rfl rfl (by decide) dRu_behindEnd_54 ⟨ob_114, L_iload_n dRu_behindEnd_57 rfl (L_dup2 dRu_behindEnd_58 n01 n21 (L_ialoadL kd_115 dRu_behindEnd_59 ⟨((h.2 c1).2.2 c2).1, L_iconst dRu_behindEnd_60 in_1 (L_isub dRu_behindEnd_61 (L_iastoreL (by decide) kd_115 dRu_behindEnd_62 ⟨((h.2 c1).2.2 c2).2.1, fun σ3 e3 => L_iload_n dRu_behindEnd_63 rfl (L_iconst dRu_behindEnd_64 in_1 (L_iadd dRu_behindEnd_65 (L_ireturn rfl dRu_behindEnd_66 (((h.2 c1).2.2 c2).2.2 σ3 e3))))⟩))⟩))⟩)⟩)⟩)⟩)⟩))
theorem dRu_isSo_0 : decode prog_7_method_4_code 0 = .ok (.aload_n 0, 1) := by decide +kernel
theorem dRu_isSo_1 : decode prog_7_method_4_code 1 = .ok (.getfield 57, 3) := by decide +kernel
theorem dRu_isSo_4 : decode prog_7_method_4_code 4 = .ok (.astore 4, 2) := by decide +kernel
theorem dRu_isSo_6 : decode prog_7_method_4_code 6 = .ok (.aload_n 0, 1) := by decide +kernel
theorem dRu_isSo_7 : decode prog_7_method_4_code 7 = .ok (.getfield 17, 3) := by decide +kernel
theorem dRu_isSo_10 : decode prog_7_method_4_code 10 = .ok (.astore 5, 2) := by decide +kernel
theorem dRu_isSo_12 : decode prog_7_method_4_code 12 = .ok (.aload 5, 2) := by decide +kernel
theorem dRu_isSo_14 : decode prog_7_method_4_code 14 = .ok (.iload_n 1, 1) := by decide +kernel
theorem dRu_isSo_15 : decode prog_7_method_4_code 15 = .ok (.iconst 2, 1) := by decide +kernel
theorem dRu_isSo_16 : decode prog_7_method_4_code 16 = .ok (.invokevirtual 41, 3) := by decide +kernel
theorem dRu_isSo_19 : decode prog_7_method_4_code 19 = .ok (.istore 6, 2) := by decide +kernel
theorem dRu_isSo_21 : decode prog_7_method_4_code 21 = .ok (.aload 5, 2) := by decide +kernel
theorem dRu_isSo_23 : decode prog_7_method_4_code 23 = .ok (.iload_n 1, 1) := by decide +kernel
theorem dRu_isSo_24 : decode prog_7_method_4_code 24 = .ok (.iconst 3, 1) := by decide +kernel
theorem dRu_isSo_25 : decode prog_7_method_4_code 25 = .ok (.invokevirtual 41, 3) := by decide +kernel
theorem dRu_isSo_28 : decode prog_7_method_4_code 28 = .ok (.istore 7, 2) := by decide +kernel
theorem dRu_isSo_30 : decode prog_7_method_4_code 30 = .ok (.aload 5, 2) := by decide +kernel
theorem dRu_isSo_32 : decode prog_7_method_4_code 32 = .ok (.iload_n 1, 1) := by decide +kernel
theorem dRu_isSo_33 : decode prog_7_method_4_code 33 = .ok (.iconst 4, 1) := by decide +kernel
theorem dRu_isSo_34 : decode prog_7_method_4_code 34 = .ok (.invokevirtual 41, 3) := by decide +kernel
theorem dRu_isSo_37 : decode prog_7_method_4_code 37 = .ok (.istore 8, 2) := by decide +kernel
theorem dRu_isSo_39 : decode prog_7_method_4_code 39 = .ok (.aload 5, 2) := by decide +kernel
theorem dRu_isSo_41 : decode prog_7_method_4_code 41 = .ok (.iload_n 1, 1) := by decide +kernel
theorem dRu_isSo_42 : decode prog_7_method_4_code 42 = .ok (.iconst 1, 1) := by decide +kernel
theorem dRu_isSo_43 : decode prog_7_method_4_code 43 = .ok (.invokevirtual 41, 3) := by decide +kernel
theorem dRu_isSo_46 : decode prog_7_method_4_code 46 = .ok (.tableswitch 146 1 6 #[38, 52, 66, 83, 100, 125], 38) := by decide +kernel
theorem dRu_isSo_84 : decode prog_7_method_4_code 84 = .ok (.aload 4, 2) := by decide +kernel
theorem dRu_isSo_86 : decode prog_7_method_4_code 86 = .ok (.invokevirtual 61, 3) := by decide +kernel
theorem dRu_isSo_89 : decode prog_7_method_4_code 89 = .ok (.ifCond .ge 7, 3) := by decide +kernel
theorem dRu_isSo_92 : decode prog_7_method_4_code 92 = .ok (.iconst 1, 1) := by decide +kernel
theorem dRu_isSo_93 : decode prog_7_method_4_code 93 = .ok (.goto 4, 3) := by decide +kernel
theorem dRu_isSo_96 : decode prog_7_method_4_code 96 = .ok (.iconst 0, 1) := by decide +kernel
theorem dRu_isSo_97 : decode prog_7_method_4_code 97 = .ok (.ireturn, 1) := by decide +kernel
theorem dRu_isSo_98 : decode prog_7_method_4_code 98 = .ok (.aload 4, 2) := by decide +kernel
theorem dRu_isSo_100 : decode prog_7_method_4_code 100 = .ok (.invokevirtual 67, 3) := by decide +kernel
theorem dRu_isSo_103 : decode prog_7_method_4_code 103 = .ok (.ifCond .ne 7, 3) := by decide +kernel
theorem dRu_isSo_106 : decode prog_7_method_4_code 106 = .ok (.iconst 1, 1) := by decide +kernel
theorem dRu_isSo_107 : decode prog_7_method_4_code 107 = .ok (.goto 4, 3) := by decide +kernel
theorem dRu_isSo_110 : decode prog_7_method_4_code 110 = .ok (.iconst 0, 1) := by decide +kernel
theorem dRu_isSo_111 : decode prog_7_method_4_code 111 = .ok (.ireturn, 1) := by decide +kernel
theorem dRu_isSo_112 : decode prog_7_method_4_code 112 = .ok (.aload_n 2, 1) := by decide +kernel
theorem dRu_isSo_113 : decode prog_7_method_4_code 113 = .ok (.aload 4, 2) := by decide +kernel
theorem dRu_isSo_115 : decode prog_7_method_4_code 115 = .ok (.iconst 5, 1) := by decide +kernel
theorem dRu_isSo_116 : decode prog_7_method_4_code 116 = .ok (.iconst 1, 1) := by decide +kernel
theorem dRu_isSo_117 : decode prog_7_method_4_code 117 = .ok (.invokevirtual 70, 3) := by decide +kernel
theorem dRu_isSo_120 : decode prog_7_method_4_code 120 = .ok (.ifCond .ne 7, 3) := by decide +kernel
theorem dRu_isSo_123 : decode prog_7_method_4_code 123 = .ok (.iconst 1, 1) := by decide +kernel
theorem dRu_isSo_124 : decode prog_7_method_4_code 124 = .ok (.goto 4, 3) := by decide +kernel
theorem dRu_isSo_127 : decode prog_7_method_4_code 127 = .ok (.iconst 0, 1) := by decide +kernel
theorem dRu_isSo_128 : decode prog_7_method_4_code 128 = .ok (.ireturn, 1) := by decide +kernel
theorem dRu_isSo_129 : decode prog_7_method_4_code 129 = .ok (.aload_n 2, 1) := by decide +kernel
theorem dRu_isSo_130 : decode prog_7_method_4_code 130 = .ok (.aload 4, 2) := by decide +kernel
theorem dRu_isSo_132 : decode prog_7_method_4_code 132 = .ok (.iconst 5, 1) := by decide +kernel
theorem dRu_isSo_133 : decode prog_7_method_4_code 133 = .ok (.iconst 0, 1) := by decide +kernel
theorem dRu_isSo_134 : decode prog_7_method_4_code 134 = .ok (.invokevirtual 70, 3) := by decide +kernel
theorem dRu_isSo_137 : decode prog_7_method_4_code 137 = .ok (.ifCond .ne 7, 3) := by decide +kernel
theorem dRu_isSo_140 : decode prog_7_method_4_code 140 = .ok (.iconst 1, 1) := by decide +kernel
theorem dRu_isSo_141 : decode prog_7_method_4_code 141 = .ok (.goto 4, 3) := by decide +kernel
theorem dRu_isSo_144 : decode prog_7_method_4_code 144 = .ok (.iconst 0, 1) := by decide +kernel
theorem dRu_isSo_145 : decode prog_7_method_4_code 145 = .ok (.ireturn, 1) := by decide +kernel
theorem dRu_isSo_146 : decode prog_7_method_4_code 146 = .ok (.aload_n 2, 1) := by decide +kernel
theorem dRu_isSo_147 : decode prog_7_method_4_code 147 = .ok (.aload 4, 2) := by decide +kernel
theorem dRu_isSo_149 : decode prog_7_method_4_code 149 = .ok (.iload 6, 2) := by decide +kernel
theorem dRu_isSo_151 : decode prog_7_method_4_code 151 = .ok (.iconst 0, 1) := by decide +kernel
theorem dRu_isSo_152 : decode prog_7_method_4_code 152 = .ok (.invokevirtual 70, 3) := by decide +kernel
theorem dRu_isSo_155 : decode prog_7_method_4_code 155 = .ok (.iload 8, 2) := by decide +kernel
theorem dRu_isSo_157 : decode prog_7_method_4_code 157 = .ok (.invokestatic 76, 3) := by decide +kernel
theorem dRu_isSo_160 : decode prog_7_method_4_code 160 = .ok (.iload 7, 2) := by decide +kernel
theorem dRu_isSo_162 : decode prog_7_method_4_code 162 = .ok (.if_icmp .ne 7, 3) := by decide +kernel
theorem dRu_isSo_165 : decode prog_7_method_4_code 165 = .ok (.iconst 1, 1) := by decide +kernel
theorem dRu_isSo_166 : decode prog_7_method_4_code 166 = .ok (.goto 4, 3) := by decide +kernel
theorem dRu_isSo_169 : decode prog_7_method_4_code 169 = .ok (.iconst 0, 1) := by decide +kernel
theorem dRu_isSo_170 : decode prog_7_method_4_code 170 = .ok (.ireturn, 1) := by decide +kernel
theorem dRu_isSo_171 : decode prog_7_method_4_code 171 = .ok (.aload 4, 2) := by decide +kernel
theorem dRu_isSo_173 : decode prog_7_method_4_code 173 = .ok (.getfield 81, 3) := by decide +kernel
theorem dRu_isSo_176 : decode prog_7_method_4_code 176 = .ok (.iload 8, 2) := by decide +kernel
theorem dRu_isSo_178 : decode prog_7_method_4_code 178 = .ok (.invokestatic 76, 3) := by decide +kernel
theorem dRu_isSo_181 : decode prog_7_method_4_code 181 = .ok (.iload 7, 2) := by decide +kernel
theorem dRu_isSo_183 : decode prog_7_method_4_code 183 = .ok (.if_icmp .ne 7, 3) := by decide +kernel
theorem dRu_isSo_186 : decode prog_7_method_4_code 186 = .ok (.iconst 1, 1) := by decide +kernel
theorem dRu_isSo_187 : decode prog_7_method_4_code 187 = .ok (.goto 4, 3) := by decide +kernel
theorem dRu_isSo_190 : decode prog_7_method_4_code 190 = .ok (.iconst 0, 1) := by decide +kernel
theorem dRu_isSo_191 : decode prog_7_method_4_code 191 = .ok (.ireturn, 1) := by decide +kernel
theorem dRu_isSo_192 : decode prog_7_method_4_code 192 = .ok (.aload_n 0, 1) := by decide +kernel
theorem dRu_isSo_193 : decode prog_7_method_4_code 193 = .ok (.iload 6, 2) := by decide +kernel
theorem dRu_isSo_195 : decode prog_7_method_4_code 195 = .ok (.invokevirtual 84, 3) := by decide +kernel
theorem dRu_isSo_198 : decode prog_7_method_4_code 198 = .ok (.ifCond .eq 24, 3) := by decide +kernel
theorem dRu_isSo_201 : decode prog_7_method_4_code 201 = .ok (.aload_n 3, 1) := by decide +kernel
theorem dRu_isSo_202 : decode prog_7_method_4_code 202 = .ok (.aload 4, 2) := by decide +kernel
theorem dRu_isSo_204 : decode prog_7_method_4_code 204 = .ok (.aload_n 0, 1) := by decide +kernel
theorem dRu_isSo_205 : decode prog_7_method_4_code 205 = .ok (.getfield 88, 3) := by decide +kernel
theorem dRu_isSo_208 : decode prog_7_method_4_code 208 = .ok (.iload 6, 2) := by decide +kernel
theorem dRu_isSo_210 : decode prog_7_method_4_code 210 = .ok (.aaload, 1) := by decide +kernel
theorem dRu_isSo_211 : decode prog_7_method_4_code 211 = .ok (.iconst 1, 1) := by decide +kernel
theorem dRu_isSo_212 : decode prog_7_method_4_code 212 = .ok (.invokevirtual 92, 3) := by decide +kernel
theorem dRu_isSo_215 : decode prog_7_method_4_code 215 = .ok (.ifCond .eq 7, 3) := by decide +kernel
theorem dRu_isSo_218 : decode prog_7_method_4_code 218 = .ok (.iconst 1, 1) := by decide +kernel
theorem dRu_isSo_219 : decode prog_7_method_4_code 219 = .ok (.goto 4, 3) := by decide +kernel
theorem dRu_isSo_222 : decode prog_7_method_4_code 222 = .ok (.iconst 0, 1) := by decide +kernel
theorem dRu_isSo_223 : decode prog_7_method_4_code 223 = .ok (.ireturn, 1) := by decide +kernel
theorem t_Ru_isSo {d : Nat} {x0 x1 x2 x3 : Int} {σ : SG} {Q : Int → SG → Prop} (h : inI x1 → (obok 1 x0 ∧ obok 1 x0 ∧ obok 6 (x0 + 4) ∧ Tri d M_Sc_get [vA (x0 + 4), vI x1, vI 2] σ (fun r1 σ1 => obok 6 (x0 + 4) ∧ Tri d M_Sc_get [vA (x0 + 4), vI x1, vI 3] σ1 (fun r2 σ2 => obok 6 (x0 + 4) ∧ Tri d M_Sc_get [vA (x0 + 4), vI x1, vI 4] σ2 (fun r3 σ3 => obok 6 (x0 + 4) ∧ Tri d M_Sc_get [vA (x0 + 4), vI x1, vI 1] σ3 (fun r4 σ4 => ((r4 < 1 ∨ 6 < r4) → obok 1 x0 ∧ Tri d M_De_holdsOn [vA x0, vI r1] σ4 (fun r6 σ6 => (r6 = 0 → Q 0 σ6) ∧ (r6 ≠ 0 → obok 1 x0 ∧ rdok 105 (x0 + 3) r1 ∧ obok 3 x3 ∧ Tri d M_Ma_look [vA x3, vA (x0 + 1), vA (x0 + 7 + 2 * r1), vI 1] σ6 (fun r8 σ8 => (r8 = 0 → Q 0 σ8) ∧ (r8 ≠ 0 → Q 1 σ8))))) ∧ (r4 = 1 → obok 10 (x0 + 1) ∧ Tri d M_Wd_firstBreak [vA (x0 + 1)] σ4 (fun r10 σ10 => (0 ≤ r10 → Q 0 σ10) ∧ (r10 < 0 → Q 1 σ10))) ∧ (r4 = 2 → obok 10 (x0 + 1) ∧ Tri d M_Wd_countCells [vA (x0 + 1)] σ4 (fun r12 σ12 => (r12 ≠ 0 → Q 0 σ12) ∧ (r12 = 0 → Q 1 σ12))) ∧ (r4 = 3 → obok 0 x2 ∧ Tri d M_An_wholeSeries [vA x2, vA (x0 + 1), vI 5, vI 1] σ4 (fun r14 σ14 => (r14 ≠ 0 → Q 0 σ14) ∧ (r14 = 0 → Q 1 σ14))) ∧ (r4 = 4 → obok 0 x2 ∧ Tri d M_An_wholeSeries [vA x2, vA (x0 + 1), vI 5, vI 0] σ4 (fun r16 σ16 => (r16 ≠ 0 → Q 0 σ16) ∧ (r16 = 0 → Q 1 σ16))) ∧ (r4 = 5 → obok 0 x2 ∧ Tri d M_An_wholeSeries [vA x2, vA (x0 + 1), vI r1, vI 0] σ4 (fun r18 σ18 => Tri d M_JI_compare [vI r18, vI r3] σ18 (fun r19 σ19 => (r19 ≠ r2 → Q 0 σ19) ∧ (r19 = r2 → Q 1 σ19)))) ∧ (r4 = 6 → obok 10 (x0 + 1) ∧ Tri d M_JI_compare [vI (σ4 (x0 + 1) 2), vI r3] σ4 (fun r21 σ21 => (r21 ≠ r2 → Q 0 σ21) ∧ (r21 = r2 → Q 1 σ21))))))))) : Tri (d + 1) M_Ru_isSo [vA x0, vI x1, vA x2, vA x3] σ Q :=
  Tri_intro rfl (Nat.le_of_ble_eq_true rfl) (ls := [vA x0, vI x1, vA x2, vA x3, vU, vU, vU, vU, vU]) rfl (fun hok => L_aload_n dRu_isSo_0 rfl (L_getF (b := x0 + 1) fw_Ru_57 rfl rfl (by omega) dRu_isSo_1 ⟨(h (hok _ (List.mem_of_getElem? (i := 1) rfl))).1, L_astoreA dRu_isSo_4 (by decide) (L_aload_n dRu_isSo_6 rfl (L_getF (b := x0 + 4) fw_Ru_17 rfl rfl (by omega) dRu_isSo_7 ⟨(h (hok _ (List.mem_of_getElem? (i := 1) rfl))).2.1, L_astoreA dRu_isSo_10 (by decide) (L_aload dRu_isSo_12 rfl (L_iload_n dRu_isSo_14 rfl (L_iconst dRu_isSo_15 in_2 (L_callVI rfl cv_Sc_get (As := [vI x1, vI 2]) rfl (tk6 128 rfl rfl) rfl (Nat.le_of_ble_eq_true rfl) dRu_isSo_16 ⟨(h (hok _ (List.mem_of_getElem? (i := 1) rfl))).2.2.1, Tri.mono ((h (hok _ (List.mem_of_getElem? (i := 1) rfl))).2.2.2) (fun r1 σ1 q1 => L_istore dRu_isSo_19 (by decide) (L_aload dRu_isSo_21 rfl (L_iload_n dRu_isSo_23 rfl (L_iconst dRu_isSo_24 in_3 (L_callVI rfl cv_Sc_get (As := [vI x1, vI 3]) rfl (tk6 128 rfl rfl) rfl (Nat.le_of_ble_eq_true rfl) dRu_isSo_25 ⟨q1.1, Tri.mono q1.2 (fun r2 σ2 q2 => L_istore dRu_isSo_28 (by decide) (L_aload dRu_isSo_30 rfl (L_iload_n dRu_isSo_32 rfl (L_iconst dRu_isSo_33 in_4 (L_callVI rfl cv_Sc_get (As := [vI x1, vI 4]) rfl (tk6 128 rfl rfl) rfl (Nat.le_of_ble_eq_true rfl) dRu_isSo_34 ⟨q2.1, Tri.mono q2.2 (fun r3 σ3 q3 => L_istore dRu_isSo_37 (by decide) (L_aload dRu_isSo_39 rfl (L_iload_n dRu_isSo_41 rfl (L_iconst dRu_isSo_42 in_1 (L_callVI rfl cv_Sc_get (As := [vI x1, vI 1]) rfl (tk6 128 rfl rfl) rfl (Nat.le_of_ble_eq_true rfl) dRu_isSo_43 ⟨q3.1, Tri.mono q3.2 (fun r4 σ4 q4 => L_table dRu_isSo_46 (by decide) ⟨fun c5 => L_aload_n dRu_isSo_192 rfl (L_iload dRu_isSo_193 rfl (L_callVI rfl cv_De_holdsOn (As := [vI r1]) rfl (tk6 145 rfl rfl) rfl (Nat.le_of_ble_eq_true rfl) dRu_isSo_195 ⟨(q4.1 c5).1, Tri.mono ((q4.1 c5).2) (fun r6 σ6 q6 => L_if_eq dRu_isSo_198 (by decide) ⟨fun c7 => L_iconst dRu_isSo_222 in_0 (L_zreturn0 rfl dRu_isSo_223 (q6.1 c7)), fun c7 => L_aload_n dRu_isSo_201 rfl (L_aload dRu_isSo_202 rfl (L_aload_n dRu_isSo_204 rfl (L_getF (b := x0 + 3) fw_Ru_88 rfl rfl (by omega) dRu_isSo_205 ⟨(q6.2 c7).1, L_iload dRu_isSo_208 rfl (L_aaF (b := x0 + 7 + 2 * r1) (o := (4, 2)) (by decide) rfl (show (x0 + 3 : Int) + 4 + 2 * r1 = x0 + 7 + 2 * r1 by omega) (by decide) dRu_isSo_210 ⟨(q6.2 c7).2.1, L_iconst dRu_isSo_211 in_1 (L_callVI rfl cv_Ma_look (As := [vA (x0 + 1), vA (x0 + 7 + 2 * r1), vI 1]) rfl (tk6 149 rfl rfl) rfl (Nat.le_of_ble_eq_true rfl) dRu_isSo_212 ⟨(q6.2 c7).2.2.1, Tri.mono ((q6.2 c7).2.2.2) (fun r8 σ8 q8 => L_if_eq dRu_isSo_215 (by decide) ⟨fun c9 => L_iconst dRu_isSo_222 in_0 (L_zreturn0 rfl dRu_isSo_223 (q8.1 c9)), fun c9 => L_iconst dRu_isSo_218 in_1 (L_goto dRu_isSo_219 (by decide) (L_zreturn1 rfl dRu_isSo_223 (q8.2 c9)))⟩)⟩)⟩)⟩)))⟩)⟩)), fun k5 c5a c5b c5 => match k5, c5 with | 0, c5 => ⟨38, 84, rfl, by decide, L_aload dRu_isSo_84 rfl (L_callVI rfl cv_Wd_firstBreak (As := []) rfl (tk6 139 rfl rfl) rfl (Nat.le_of_ble_eq_true rfl) dRu_isSo_86 ⟨(q4.2.1 (by omega)).1, Tri.mono ((q4.2.1 (by omega)).2) (fun r10 σ10 q10 => L_if_ge dRu_isSo_89 (by decide) ⟨fun c11 => L_iconst dRu_isSo_96 in_0 (L_zreturn0 rfl dRu_isSo_97 (q10.1 c11)), fun c11 => L_iconst dRu_isSo_92 in_1 (L_goto dRu_isSo_93 (by decide) (L_zreturn1 rfl dRu_isSo_97 (q10.2 c11)))⟩)⟩)⟩ | 1, c5 => ⟨52, 98, rfl, by decide, L_aload dRu_isSo_98 rfl (L_callVI rfl cv_Wd_countCells (As := []) rfl (tk6 140 rfl rfl) rfl (Nat.le_of_ble_eq_true rfl) dRu_isSo_100 ⟨(q4.2.2.1 (by omega)).1, Tri.mono ((q4.2.2.1 (by omega)).2) (fun r12 σ12 q12 => L_if_ne dRu_isSo_103 (by decide) ⟨fun c13 => L_iconst dRu_isSo_110 in_0 (L_zreturn0 rfl dRu_isSo_111 (q12.1 c13)), fun c13 => L_iconst dRu_isSo_106 in_1 (L_goto dRu_isSo_107 (by decide) (L_zreturn1 rfl dRu_isSo_111 (q12.2 c13)))⟩)⟩)⟩ | 2, c5 => ⟨66, 112, rfl, by decide, L_aload_n dRu_isSo_112 rfl (L_aload dRu_isSo_113 rfl (L_iconst dRu_isSo_115 in_5 (L_iconst dRu_isSo_116 in_1 (L_callVI rfl cv_An_wholeSeries (As := [vA (x0 + 1), vI 5, vI 1]) rfl (tk6 141 rfl rfl) rfl (Nat.le_of_ble_eq_true rfl) dRu_isSo_117 ⟨(q4.2.2.2.1 (by omega)).1, Tri.mono ((q4.2.2.2.1 (by omega)).2) (fun r14 σ14 q14 => L_if_ne dRu_isSo_120 (by decide) ⟨fun c15 => L_iconst dRu_isSo_127 in_0 (L_zreturn0 rfl dRu_isSo_128 (q14.1 c15)), fun c15 => L_iconst dRu_isSo_123 in_1 (L_goto dRu_isSo_124 (by decide) (L_zreturn1 rfl dRu_isSo_128 (q14.2 c15)))⟩)⟩))))⟩ | 3, c5 => ⟨83, 129, rfl, by decide, L_aload_n dRu_isSo_129 rfl (L_aload dRu_isSo_130 rfl (L_iconst dRu_isSo_132 in_5 (L_iconst dRu_isSo_133 in_0 (L_callVI rfl cv_An_wholeSeries (As := [vA (x0 + 1), vI 5, vI 0]) rfl (tk6 141 rfl rfl) rfl (Nat.le_of_ble_eq_true rfl) dRu_isSo_134 ⟨(q4.2.2.2.2.1 (by omega)).1, Tri.mono ((q4.2.2.2.2.1 (by omega)).2) (fun r16 σ16 q16 => L_if_ne dRu_isSo_137 (by decide) ⟨fun c17 => L_iconst dRu_isSo_144 in_0 (L_zreturn0 rfl dRu_isSo_145 (q16.1 c17)), fun c17 => L_iconst dRu_isSo_140 in_1 (L_goto dRu_isSo_141 (by decide) (L_zreturn1 rfl dRu_isSo_145 (q16.2 c17)))⟩)⟩))))⟩ | 4, c5 => ⟨100, 146, rfl, by decide, L_aload_n dRu_isSo_146 rfl (L_aload dRu_isSo_147 rfl (L_iload dRu_isSo_149 rfl (L_iconst dRu_isSo_151 in_0 (L_callVI rfl cv_An_wholeSeries (As := [vA (x0 + 1), vI r1, vI 0]) rfl (tk6 141 rfl rfl) rfl (Nat.le_of_ble_eq_true rfl) dRu_isSo_152 ⟨(q4.2.2.2.2.2.1 (by omega)).1, Tri.mono ((q4.2.2.2.2.2.1 (by omega)).2) (fun r18 σ18 q18 => L_iload dRu_isSo_155 rfl (L_callSI rfl cs_JI_compare (As := [vI r18, vI r3]) rfl (tk6 142 rfl rfl) rfl (Nat.le_of_ble_eq_true rfl) dRu_isSo_157 (Tri.mono q18 (fun r19 σ19 q19 => L_iload dRu_isSo_160 rfl (L_icmp_ne dRu_isSo_162 (by decide) ⟨fun c20 => L_iconst dRu_isSo_169 in_0 (L_zreturn0 rfl dRu_isSo_170 (q19.1 c20)), fun c20 => L_iconst dRu_isSo_165 in_1 (L_goto dRu_isSo_166 (by decide) (L_zreturn1 rfl dRu_isSo_170 (q19.2 c20)))⟩)))))⟩))))⟩ | 5, c5 => ⟨125, 171, rfl, by decide, L_aload dRu_isSo_171 rfl (L_getf fw_Ru_81 rfl dRu_isSo_173 ⟨(q4.2.2.2.2.2.2 (by omega)).1, L_iload dRu_isSo_176 rfl (L_callSI rfl cs_JI_compare (As := [vI (σ4 (x0 + 1) 2), vI r3]) rfl (tk6 142 rfl rfl) rfl (Nat.le_of_ble_eq_true rfl) dRu_isSo_178 (Tri.mono ((q4.2.2.2.2.2.2 (by omega)).2) (fun r21 σ21 q21 => L_iload dRu_isSo_181 rfl (L_icmp_ne dRu_isSo_183 (by decide) ⟨fun c22 => L_iconst dRu_isSo_190 in_0 (L_zreturn0 rfl dRu_isSo_191 (q21.1 c22)), fun c22 => L_iconst dRu_isSo_186 in_1 (L_goto dRu_isSo_187 (by decide) (L_zreturn1 rfl dRu_isSo_191 (q21.2 c22)))⟩))))⟩)⟩ | (n + 6), c5 => absurd c5b (by omega)⟩)⟩)))))⟩)))))⟩)))))⟩))))⟩))⟩))
theorem dRu_isDone_0 : decode prog_7_method_5_code 0 = .ok (.aload_n 0, 1) := by decide +kernel
theorem dRu_isDone_1 : decode prog_7_method_5_code 1 = .ok (.getfield 57, 3) := by decide +kernel
theorem dRu_isDone_4 : decode prog_7_method_5_code 4 = .ok (.astore_n 3, 1) := by decide +kernel
theorem dRu_isDone_5 : decode prog_7_method_5_code 5 = .ok (.aload_n 0, 1) := by decide +kernel
theorem dRu_isDone_6 : decode prog_7_method_5_code 6 = .ok (.getfield 17, 3) := by decide +kernel
theorem dRu_isDone_9 : decode prog_7_method_5_code 9 = .ok (.iload_n 1, 1) := by decide +kernel
theorem dRu_isDone_10 : decode prog_7_method_5_code 10 = .ok (.iconst 1, 1) := by decide +kernel
theorem dRu_isDone_11 : decode prog_7_method_5_code 11 = .ok (.invokevirtual 41, 3) := by decide +kernel
theorem dRu_isDone_14 : decode prog_7_method_5_code 14 = .ok (.istore 4, 2) := by decide +kernel
theorem dRu_isDone_16 : decode prog_7_method_5_code 16 = .ok (.aload_n 0, 1) := by decide +kernel
theorem dRu_isDone_17 : decode prog_7_method_5_code 17 = .ok (.getfield 17, 3) := by decide +kernel
theorem dRu_isDone_20 : decode prog_7_method_5_code 20 = .ok (.iload_n 1, 1) := by decide +kernel
theorem dRu_isDone_21 : decode prog_7_method_5_code 21 = .ok (.iconst 2, 1) := by decide +kernel
theorem dRu_isDone_22 : decode prog_7_method_5_code 22 = .ok (.invokevirtual 41, 3) := by decide +kernel
theorem dRu_isDone_25 : decode prog_7_method_5_code 25 = .ok (.istore 5, 2) := by decide +kernel
theorem dRu_isDone_27 : decode prog_7_method_5_code 27 = .ok (.aload_n 0, 1) := by decide +kernel
theorem dRu_isDone_28 : decode prog_7_method_5_code 28 = .ok (.getfield 17, 3) := by decide +kernel
theorem dRu_isDone_31 : decode prog_7_method_5_code 31 = .ok (.iload_n 1, 1) := by decide +kernel
theorem dRu_isDone_32 : decode prog_7_method_5_code 32 = .ok (.iconst 0, 1) := by decide +kernel
theorem dRu_isDone_33 : decode prog_7_method_5_code 33 = .ok (.invokevirtual 41, 3) := by decide +kernel
theorem dRu_isDone_36 : decode prog_7_method_5_code 36 = .ok (.tableswitch 154 1 5 #[36, 62, 88, 123, 130], 36) := by decide +kernel
theorem dRu_isDone_72 : decode prog_7_method_5_code 72 = .ok (.aload_n 2, 1) := by decide +kernel
theorem dRu_isDone_73 : decode prog_7_method_5_code 73 = .ok (.aload_n 3, 1) := by decide +kernel
theorem dRu_isDone_74 : decode prog_7_method_5_code 74 = .ok (.iload 4, 2) := by decide +kernel
theorem dRu_isDone_76 : decode prog_7_method_5_code 76 = .ok (.iload 5, 2) := by decide +kernel
theorem dRu_isDone_78 : decode prog_7_method_5_code 78 = .ok (.invokevirtual 98, 3) := by decide +kernel
theorem dRu_isDone_81 : decode prog_7_method_5_code 81 = .ok (.ifCond .eq 15, 3) := by decide +kernel
theorem dRu_isDone_84 : decode prog_7_method_5_code 84 = .ok (.aload_n 2, 1) := by decide +kernel
theorem dRu_isDone_85 : decode prog_7_method_5_code 85 = .ok (.aload_n 3, 1) := by decide +kernel
theorem dRu_isDone_86 : decode prog_7_method_5_code 86 = .ok (.invokevirtual 104, 3) := by decide +kernel
theorem dRu_isDone_89 : decode prog_7_method_5_code 89 = .ok (.ifCond .eq 7, 3) := by decide +kernel
theorem dRu_isDone_92 : decode prog_7_method_5_code 92 = .ok (.iconst 1, 1) := by decide +kernel
theorem dRu_isDone_93 : decode prog_7_method_5_code 93 = .ok (.goto 4, 3) := by decide +kernel
theorem dRu_isDone_96 : decode prog_7_method_5_code 96 = .ok (.iconst 0, 1) := by decide +kernel
theorem dRu_isDone_97 : decode prog_7_method_5_code 97 = .ok (.ireturn, 1) := by decide +kernel
theorem dRu_isDone_98 : decode prog_7_method_5_code 98 = .ok (.aload_n 2, 1) := by decide +kernel
theorem dRu_isDone_99 : decode prog_7_method_5_code 99 = .ok (.aload_n 3, 1) := by decide +kernel
theorem dRu_isDone_100 : decode prog_7_method_5_code 100 = .ok (.iload 4, 2) := by decide +kernel
theorem dRu_isDone_102 : decode prog_7_method_5_code 102 = .ok (.iload 5, 2) := by decide +kernel
theorem dRu_isDone_104 : decode prog_7_method_5_code 104 = .ok (.invokevirtual 108, 3) := by decide +kernel
theorem dRu_isDone_107 : decode prog_7_method_5_code 107 = .ok (.ifCond .eq 15, 3) := by decide +kernel
theorem dRu_isDone_110 : decode prog_7_method_5_code 110 = .ok (.aload_n 2, 1) := by decide +kernel
theorem dRu_isDone_111 : decode prog_7_method_5_code 111 = .ok (.aload_n 3, 1) := by decide +kernel
theorem dRu_isDone_112 : decode prog_7_method_5_code 112 = .ok (.invokevirtual 104, 3) := by decide +kernel
theorem dRu_isDone_115 : decode prog_7_method_5_code 115 = .ok (.ifCond .eq 7, 3) := by decide +kernel
theorem dRu_isDone_118 : decode prog_7_method_5_code 118 = .ok (.iconst 1, 1) := by decide +kernel
theorem dRu_isDone_119 : decode prog_7_method_5_code 119 = .ok (.goto 4, 3) := by decide +kernel
theorem dRu_isDone_122 : decode prog_7_method_5_code 122 = .ok (.iconst 0, 1) := by decide +kernel
theorem dRu_isDone_123 : decode prog_7_method_5_code 123 = .ok (.ireturn, 1) := by decide +kernel
theorem dRu_isDone_124 : decode prog_7_method_5_code 124 = .ok (.aload_n 2, 1) := by decide +kernel
theorem dRu_isDone_125 : decode prog_7_method_5_code 125 = .ok (.aload_n 3, 1) := by decide +kernel
theorem dRu_isDone_126 : decode prog_7_method_5_code 126 = .ok (.iload 4, 2) := by decide +kernel
theorem dRu_isDone_128 : decode prog_7_method_5_code 128 = .ok (.iload 5, 2) := by decide +kernel
theorem dRu_isDone_130 : decode prog_7_method_5_code 130 = .ok (.aload_n 0, 1) := by decide +kernel
theorem dRu_isDone_131 : decode prog_7_method_5_code 131 = .ok (.getfield 17, 3) := by decide +kernel
theorem dRu_isDone_134 : decode prog_7_method_5_code 134 = .ok (.iload_n 1, 1) := by decide +kernel
theorem dRu_isDone_135 : decode prog_7_method_5_code 135 = .ok (.iconst 3, 1) := by decide +kernel
theorem dRu_isDone_136 : decode prog_7_method_5_code 136 = .ok (.invokevirtual 41, 3) := by decide +kernel
theorem dRu_isDone_139 : decode prog_7_method_5_code 139 = .ok (.invokevirtual 111, 3) := by decide +kernel
theorem dRu_isDone_142 : decode prog_7_method_5_code 142 = .ok (.ifCond .eq 15, 3) := by decide +kernel
theorem dRu_isDone_145 : decode prog_7_method_5_code 145 = .ok (.aload_n 2, 1) := by decide +kernel
theorem dRu_isDone_146 : decode prog_7_method_5_code 146 = .ok (.aload_n 3, 1) := by decide +kernel
theorem dRu_isDone_147 : decode prog_7_method_5_code 147 = .ok (.invokevirtual 104, 3) := by decide +kernel
theorem dRu_isDone_150 : decode prog_7_method_5_code 150 = .ok (.ifCond .eq 7, 3) := by decide +kernel
theorem dRu_isDone_153 : decode prog_7_method_5_code 153 = .ok (.iconst 1, 1) := by decide +kernel
theorem dRu_isDone_154 : decode prog_7_method_5_code 154 = .ok (.goto 4, 3) := by decide +kernel
theorem dRu_isDone_157 : decode prog_7_method_5_code 157 = .ok (.iconst 0, 1) := by decide +kernel
theorem dRu_isDone_158 : decode prog_7_method_5_code 158 = .ok (.ireturn, 1) := by decide +kernel
theorem dRu_isDone_159 : decode prog_7_method_5_code 159 = .ok (.aload_n 0, 1) := by decide +kernel
theorem dRu_isDone_160 : decode prog_7_method_5_code 160 = .ok (.iload 4, 2) := by decide +kernel
theorem dRu_isDone_162 : decode prog_7_method_5_code 162 = .ok (.invokevirtual 115, 3) := by decide +kernel
theorem dRu_isDone_165 : decode prog_7_method_5_code 165 = .ok (.ireturn, 1) := by decide +kernel
theorem dRu_isDone_166 : decode prog_7_method_5_code 166 = .ok (.aload_n 0, 1) := by decide +kernel
theorem dRu_isDone_167 : decode prog_7_method_5_code 167 = .ok (.iload 4, 2) := by decide +kernel
theorem dRu_isDone_169 : decode prog_7_method_5_code 169 = .ok (.invokevirtual 84, 3) := by decide +kernel
theorem dRu_isDone_172 : decode prog_7_method_5_code 172 = .ok (.ifCond .eq 16, 3) := by decide +kernel
theorem dRu_isDone_175 : decode prog_7_method_5_code 175 = .ok (.aload_n 3, 1) := by decide +kernel
theorem dRu_isDone_176 : decode prog_7_method_5_code 176 = .ok (.aload_n 0, 1) := by decide +kernel
theorem dRu_isDone_177 : decode prog_7_method_5_code 177 = .ok (.getfield 88, 3) := by decide +kernel
theorem dRu_isDone_180 : decode prog_7_method_5_code 180 = .ok (.iload 4, 2) := by decide +kernel
theorem dRu_isDone_182 : decode prog_7_method_5_code 182 = .ok (.aaload, 1) := by decide +kernel
theorem dRu_isDone_183 : decode prog_7_method_5_code 183 = .ok (.invokevirtual 118, 3) := by decide +kernel
theorem dRu_isDone_186 : decode prog_7_method_5_code 186 = .ok (.iconst 1, 1) := by decide +kernel
theorem dRu_isDone_187 : decode prog_7_method_5_code 187 = .ok (.ireturn, 1) := by decide +kernel
theorem dRu_isDone_188 : decode prog_7_method_5_code 188 = .ok (.iconst 0, 1) := by decide +kernel
theorem dRu_isDone_189 : decode prog_7_method_5_code 189 = .ok (.ireturn, 1) := by decide +kernel
theorem dRu_isDone_190 : decode prog_7_method_5_code 190 = .ok (.aload_n 0, 1) := by decide +kernel
theorem dRu_isDone_191 : decode prog_7_method_5_code 191 = .ok (.iload 4, 2) := by decide +kernel
theorem dRu_isDone_193 : decode prog_7_method_5_code 193 = .ok (.invokevirtual 84, 3) := by decide +kernel
theorem dRu_isDone_196 : decode prog_7_method_5_code 196 = .ok (.ifCond .eq 22, 3) := by decide +kernel
theorem dRu_isDone_199 : decode prog_7_method_5_code 199 = .ok (.aload_n 2, 1) := by decide +kernel
theorem dRu_isDone_200 : decode prog_7_method_5_code 200 = .ok (.aload_n 3, 1) := by decide +kernel
theorem dRu_isDone_201 : decode prog_7_method_5_code 201 = .ok (.aload_n 0, 1) := by decide +kernel
theorem dRu_isDone_202 : decode prog_7_method_5_code 202 = .ok (.getfield 88, 3) := by decide +kernel
theorem dRu_isDone_205 : decode prog_7_method_5_code 205 = .ok (.iload 4, 2) := by decide +kernel
theorem dRu_isDone_207 : decode prog_7_method_5_code 207 = .ok (.aaload, 1) := by decide +kernel
theorem dRu_isDone_208 : decode prog_7_method_5_code 208 = .ok (.invokevirtual 122, 3) := by decide +kernel
theorem dRu_isDone_211 : decode prog_7_method_5_code 211 = .ok (.ifCond .ne 7, 3) := by decide +kernel
theorem dRu_isDone_214 : decode prog_7_method_5_code 214 = .ok (.iconst 1, 1) := by decide +kernel
theorem dRu_isDone_215 : decode prog_7_method_5_code 215 = .ok (.goto 4, 3) := by decide +kernel
theorem dRu_isDone_218 : decode prog_7_method_5_code 218 = .ok (.iconst 0, 1) := by decide +kernel
theorem dRu_isDone_219 : decode prog_7_method_5_code 219 = .ok (.ireturn, 1) := by decide +kernel
theorem t_Ru_isDone {d : Nat} {x0 x1 x2 : Int} {σ : SG} {Q : Int → SG → Prop} (h : inI x1 → (obok 1 x0 ∧ obok 1 x0 ∧ obok 6 (x0 + 4) ∧ Tri d M_Sc_get [vA (x0 + 4), vI x1, vI 1] σ (fun r1 σ1 => obok 1 x0 ∧ obok 6 (x0 + 4) ∧ Tri d M_Sc_get [vA (x0 + 4), vI x1, vI 2] σ1 (fun r2 σ2 => obok 1 x0 ∧ obok 6 (x0 + 4) ∧ Tri d M_Sc_get [vA (x0 + 4), vI x1, vI 0] σ2 (fun r3 σ3 => ((r3 < 1 ∨ 5 < r3) → obok 1 x0 ∧ Tri d M_De_holdsOn [vA x0, vI r1] σ3 (fun r5 σ5 => (r5 = 0 → Q 0 σ5) ∧ (r5 ≠ 0 → obok 1 x0 ∧ rdok 105 (x0 + 3) r1 ∧ obok 9 x2 ∧ Tri d M_Wo_join [vA x2, vA (x0 + 1), vA (x0 + 7 + 2 * r1)] σ5 (fun r7 σ7 => (r7 ≠ 0 → Q 0 σ7) ∧ (r7 = 0 → Q 1 σ7))))) ∧ (r3 = 1 → obok 9 x2 ∧ Tri d M_Wo_laySwap [vA x2, vA (x0 + 1), vI r1, vI r2] σ3 (fun r9 σ9 => (r9 = 0 → Q 0 σ9) ∧ (r9 ≠ 0 → obok 9 x2 ∧ Tri d M_Wo_changeBase [vA x2, vA (x0 + 1)] σ9 (fun r11 σ11 => (r11 = 0 → Q 0 σ11) ∧ (r11 ≠ 0 → Q 1 σ11))))) ∧ (r3 = 2 → obok 9 x2 ∧ Tri d M_Wo_layScale [vA x2, vA (x0 + 1), vI r1, vI r2] σ3 (fun r13 σ13 => (r13 = 0 → Q 0 σ13) ∧ (r13 ≠ 0 → obok 9 x2 ∧ Tri d M_Wo_changeBase [vA x2, vA (x0 + 1)] σ13 (fun r15 σ15 => (r15 = 0 → Q 0 σ15) ∧ (r15 ≠ 0 → Q 1 σ15))))) ∧ (r3 = 3 → obok 1 x0 ∧ obok 6 (x0 + 4) ∧ Tri d M_Sc_get [vA (x0 + 4), vI x1, vI 3] σ3 (fun r17 σ17 => obok 9 x2 ∧ Tri d M_Wo_layAdd [vA x2, vA (x0 + 1), vI r1, vI r2, vI r17] σ17 (fun r18 σ18 => (r18 = 0 → Q 0 σ18) ∧ (r18 ≠ 0 → obok 9 x2 ∧ Tri d M_Wo_changeBase [vA x2, vA (x0 + 1)] σ18 (fun r20 σ20 => (r20 = 0 → Q 0 σ20) ∧ (r20 ≠ 0 → Q 1 σ20)))))) ∧ (r3 = 4 → obok 1 x0 ∧ Tri d M_De_putOn [vA x0, vI r1] σ3 (fun r22 σ22 => (r22 = 0 ∨ r22 = 1) ∧ Q r22 σ22)) ∧ (r3 = 5 → obok 1 x0 ∧ Tri d M_De_holdsOn [vA x0, vI r1] σ3 (fun r23 σ23 => (r23 = 0 → Q 0 σ23) ∧ (r23 ≠ 0 → obok 1 x0 ∧ rdok 105 (x0 + 3) r1 ∧ obok 10 (x0 + 1) ∧ Tri d M_Wd_copyFrom [vA (x0 + 1), vA (x0 + 7 + 2 * r1)] σ23 (fun r25 σ25 => Q 1 σ25))))))))) : Tri (d + 1) M_Ru_isDone [vA x0, vI x1, vA x2] σ Q :=
  Tri_intro rfl (Nat.le_of_ble_eq_true rfl) (ls := [vA x0, vI x1, vA x2, vU, vU, vU]) rfl (fun hok => L_aload_n dRu_isDone_0 rfl (L_getF (b := x0 + 1) fw_Ru_57 rfl rfl (by omega) dRu_isDone_1 ⟨(h (hok _ (List.mem_of_getElem? (i := 1) rfl))).1, L_astore_nA dRu_isDone_4 (by decide) (L_aload_n dRu_isDone_5 rfl (L_getF (b := x0 + 4) fw_Ru_17 rfl rfl (by omega) dRu_isDone_6 ⟨(h (hok _ (List.mem_of_getElem? (i := 1) rfl))).2.1, L_iload_n dRu_isDone_9 rfl (L_iconst dRu_isDone_10 in_1 (L_callVI rfl cv_Sc_get (As := [vI x1, vI 1]) rfl (tk6 128 rfl rfl) rfl (Nat.le_of_ble_eq_true rfl) dRu_isDone_11 ⟨(h (hok _ (List.mem_of_getElem? (i := 1) rfl))).2.2.1, Tri.mono ((h (hok _ (List.mem_of_getElem? (i := 1) rfl))).2.2.2) (fun r1 σ1 q1 => L_istore dRu_isDone_14 (by decide) (L_aload_n dRu_isDone_16 rfl (L_getF (b := x0 + 4) fw_Ru_17 rfl rfl (by omega) dRu_isDone_17 ⟨q1.1, L_iload_n dRu_isDone_20 rfl (L_iconst dRu_isDone_21 in_2 (L_callVI rfl cv_Sc_get (As := [vI x1, vI 2]) rfl (tk6 128 rfl rfl) rfl (Nat.le_of_ble_eq_true rfl) dRu_isDone_22 ⟨q1.2.1, Tri.mono q1.2.2 (fun r2 σ2 q2 => L_istore dRu_isDone_25 (by decide) (L_aload_n dRu_isDone_27 rfl (L_getF (b := x0 + 4) fw_Ru_17 rfl rfl (by omega) dRu_isDone_28 ⟨q2.1, L_iload_n dRu_isDone_31 rfl (L_iconst dRu_isDone_32 in_0 (L_callVI rfl cv_Sc_get (As := [vI x1, vI 0]) rfl (tk6 128 rfl rfl) rfl (Nat.le_of_ble_eq_true rfl) dRu_isDone_33 ⟨q2.2.1, Tri.mono q2.2.2 (fun r3 σ3 q3 => L_table dRu_isDone_36 (by decide) ⟨fun c4 => L_aload_n dRu_isDone_190 rfl (L_iload dRu_isDone_191 rfl (L_callVI rfl cv_De_holdsOn (As := [vI r1]) rfl (tk6 145 rfl rfl) rfl (Nat.le_of_ble_eq_true rfl) dRu_isDone_193 ⟨(q3.1 c4).1, Tri.mono ((q3.1 c4).2) (fun r5 σ5 q5 => L_if_eq dRu_isDone_196 (by decide) ⟨fun c6 => L_iconst dRu_isDone_218 in_0 (L_zreturn0 rfl dRu_isDone_219 (q5.1 c6)), fun c6 => L_aload_n dRu_isDone_199 rfl (L_aload_n dRu_isDone_200 rfl (L_aload_n dRu_isDone_201 rfl (L_getF (b := x0 + 3) fw_Ru_88 rfl rfl (by omega) dRu_isDone_202 ⟨(q5.2 c6).1, L_iload dRu_isDone_205 rfl (L_aaF (b := x0 + 7 + 2 * r1) (o := (4, 2)) (by decide) rfl (show (x0 + 3 : Int) + 4 + 2 * r1 = x0 + 7 + 2 * r1 by omega) (by decide) dRu_isDone_207 ⟨(q5.2 c6).2.1, L_callVI rfl cv_Wo_join (As := [vA (x0 + 1), vA (x0 + 7 + 2 * r1)]) rfl (tk6 173 rfl rfl) rfl (Nat.le_of_ble_eq_true rfl) dRu_isDone_208 ⟨(q5.2 c6).2.2.1, Tri.mono ((q5.2 c6).2.2.2) (fun r7 σ7 q7 => L_if_ne dRu_isDone_211 (by decide) ⟨fun c8 => L_iconst dRu_isDone_218 in_0 (L_zreturn0 rfl dRu_isDone_219 (q7.1 c8)), fun c8 => L_iconst dRu_isDone_214 in_1 (L_goto dRu_isDone_215 (by decide) (L_zreturn1 rfl dRu_isDone_219 (q7.2 c8)))⟩)⟩⟩)⟩)))⟩)⟩)), fun k4 c4a c4b c4 => match k4, c4 with | 0, c4 => ⟨36, 72, rfl, by decide, L_aload_n dRu_isDone_72 rfl (L_aload_n dRu_isDone_73 rfl (L_iload dRu_isDone_74 rfl (L_iload dRu_isDone_76 rfl (L_callVI rfl cv_Wo_laySwap (As := [vA (x0 + 1), vI r1, vI r2]) rfl (tk6 153 rfl rfl) rfl (Nat.le_of_ble_eq_true rfl) dRu_isDone_78 ⟨(q3.2.1 (by omega)).1, Tri.mono ((q3.2.1 (by omega)).2) (fun r9 σ9 q9 => L_if_eq dRu_isDone_81 (by decide) ⟨fun c10 => L_iconst dRu_isDone_96 in_0 (L_zreturn0 rfl dRu_isDone_97 (q9.1 c10)), fun c10 => L_aload_n dRu_isDone_84 rfl (L_aload_n dRu_isDone_85 rfl (L_callVI rfl cv_Wo_changeBase (As := [vA (x0 + 1)]) rfl (tk6 161 rfl rfl) rfl (Nat.le_of_ble_eq_true rfl) dRu_isDone_86 ⟨(q9.2 c10).1, Tri.mono ((q9.2 c10).2) (fun r11 σ11 q11 => L_if_eq dRu_isDone_89 (by decide) ⟨fun c12 => L_iconst dRu_isDone_96 in_0 (L_zreturn0 rfl dRu_isDone_97 (q11.1 c12)), fun c12 => L_iconst dRu_isDone_92 in_1 (L_goto dRu_isDone_93 (by decide) (L_zreturn1 rfl dRu_isDone_97 (q11.2 c12)))⟩)⟩))⟩)⟩))))⟩ | 1, c4 => ⟨62, 98, rfl, by decide, L_aload_n dRu_isDone_98 rfl (L_aload_n dRu_isDone_99 rfl (L_iload dRu_isDone_100 rfl (L_iload dRu_isDone_102 rfl (L_callVI rfl cv_Wo_layScale (As := [vA (x0 + 1), vI r1, vI r2]) rfl (tk6 162 rfl rfl) rfl (Nat.le_of_ble_eq_true rfl) dRu_isDone_104 ⟨(q3.2.2.1 (by omega)).1, Tri.mono ((q3.2.2.1 (by omega)).2) (fun r13 σ13 q13 => L_if_eq dRu_isDone_107 (by decide) ⟨fun c14 => L_iconst dRu_isDone_122 in_0 (L_zreturn0 rfl dRu_isDone_123 (q13.1 c14)), fun c14 => L_aload_n dRu_isDone_110 rfl (L_aload_n dRu_isDone_111 rfl (L_callVI rfl cv_Wo_changeBase (As := [vA (x0 + 1)]) rfl (tk6 161 rfl rfl) rfl (Nat.le_of_ble_eq_true rfl) dRu_isDone_112 ⟨(q13.2 c14).1, Tri.mono ((q13.2 c14).2) (fun r15 σ15 q15 => L_if_eq dRu_isDone_115 (by decide) ⟨fun c16 => L_iconst dRu_isDone_122 in_0 (L_zreturn0 rfl dRu_isDone_123 (q15.1 c16)), fun c16 => L_iconst dRu_isDone_118 in_1 (L_goto dRu_isDone_119 (by decide) (L_zreturn1 rfl dRu_isDone_123 (q15.2 c16)))⟩)⟩))⟩)⟩))))⟩ | 2, c4 => ⟨88, 124, rfl, by decide, L_aload_n dRu_isDone_124 rfl (L_aload_n dRu_isDone_125 rfl (L_iload dRu_isDone_126 rfl (L_iload dRu_isDone_128 rfl (L_aload_n dRu_isDone_130 rfl (L_getF (b := x0 + 4) fw_Ru_17 rfl rfl (by omega) dRu_isDone_131 ⟨(q3.2.2.2.1 (by omega)).1, L_iload_n dRu_isDone_134 rfl (L_iconst dRu_isDone_135 in_3 (L_callVI rfl cv_Sc_get (As := [vI x1, vI 3]) rfl (tk6 128 rfl rfl) rfl (Nat.le_of_ble_eq_true rfl) dRu_isDone_136 ⟨(q3.2.2.2.1 (by omega)).2.1, Tri.mono ((q3.2.2.2.1 (by omega)).2.2) (fun r17 σ17 q17 => L_callVI rfl cv_Wo_layAdd (As := [vA (x0 + 1), vI r1, vI r2, vI r17]) rfl (tk6 167 rfl rfl) rfl (Nat.le_of_ble_eq_true rfl) dRu_isDone_139 ⟨q17.1, Tri.mono q17.2 (fun r18 σ18 q18 => L_if_eq dRu_isDone_142 (by decide) ⟨fun c19 => L_iconst dRu_isDone_157 in_0 (L_zreturn0 rfl dRu_isDone_158 (q18.1 c19)), fun c19 => L_aload_n dRu_isDone_145 rfl (L_aload_n dRu_isDone_146 rfl (L_callVI rfl cv_Wo_changeBase (As := [vA (x0 + 1)]) rfl (tk6 161 rfl rfl) rfl (Nat.le_of_ble_eq_true rfl) dRu_isDone_147 ⟨(q18.2 c19).1, Tri.mono ((q18.2 c19).2) (fun r20 σ20 q20 => L_if_eq dRu_isDone_150 (by decide) ⟨fun c21 => L_iconst dRu_isDone_157 in_0 (L_zreturn0 rfl dRu_isDone_158 (q20.1 c21)), fun c21 => L_iconst dRu_isDone_153 in_1 (L_goto dRu_isDone_154 (by decide) (L_zreturn1 rfl dRu_isDone_158 (q20.2 c21)))⟩)⟩))⟩)⟩)⟩))⟩)))))⟩ | 3, c4 => ⟨123, 159, rfl, by decide, L_aload_n dRu_isDone_159 rfl (L_iload dRu_isDone_160 rfl (L_callVI rfl cv_De_putOn (As := [vI r1]) rfl (tk6 171 rfl rfl) rfl (Nat.le_of_ble_eq_true rfl) dRu_isDone_162 ⟨(q3.2.2.2.2.1 (by omega)).1, Tri.mono ((q3.2.2.2.2.1 (by omega)).2) (fun r22 σ22 q22 => L_zreturn rfl dRu_isDone_165 q22)⟩))⟩ | 4, c4 => ⟨130, 166, rfl, by decide, L_aload_n dRu_isDone_166 rfl (L_iload dRu_isDone_167 rfl (L_callVI rfl cv_De_holdsOn (As := [vI r1]) rfl (tk6 145 rfl rfl) rfl (Nat.le_of_ble_eq_true rfl) dRu_isDone_169 ⟨(q3.2.2.2.2.2 (by omega)).1, Tri.mono ((q3.2.2.2.2.2 (by omega)).2) (fun r23 σ23 q23 => L_if_eq dRu_isDone_172 (by decide) ⟨fun c24 => L_iconst dRu_isDone_188 in_0 (L_zreturn0 rfl dRu_isDone_189 (q23.1 c24)), fun c24 => L_aload_n dRu_isDone_175 rfl (L_aload_n dRu_isDone_176 rfl (L_getF (b := x0 + 3) fw_Ru_88 rfl rfl (by omega) dRu_isDone_177 ⟨(q23.2 c24).1, L_iload dRu_isDone_180 rfl (L_aaF (b := x0 + 7 + 2 * r1) (o := (4, 2)) (by decide) rfl (show (x0 + 3 : Int) + 4 + 2 * r1 = x0 + 7 + 2 * r1 by omega) (by decide) dRu_isDone_182 ⟨(q23.2 c24).2.1, L_callVV rfl cv_Wd_copyFrom (As := [vA (x0 + 7 + 2 * r1)]) rfl (tk6 172 rfl rfl) rfl (Nat.le_of_ble_eq_true rfl) dRu_isDone_183 ⟨(q23.2 c24).2.2.1, Tri.mono ((q23.2 c24).2.2.2) (fun r25 σ25 q25 => L_iconst dRu_isDone_186 in_1 (L_zreturn1 rfl dRu_isDone_187 q25))⟩⟩)⟩))⟩)⟩))⟩ | (n + 5), c4 => absurd c4b (by omega)⟩)⟩))⟩)))⟩))⟩)))⟩))⟩))⟩))
