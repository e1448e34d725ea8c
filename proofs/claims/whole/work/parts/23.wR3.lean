theorem dR_lead_0 : decode prog_14_method_103_code 0 = .ok (.aload_n 0, 1) := by decide +kernel
theorem dR_lead_1 : decode prog_14_method_103_code 1 = .ok (.iconst 0, 1) := by decide +kernel
theorem dR_lead_2 : decode prog_14_method_103_code 2 = .ok (.putfield 442, 3) := by decide +kernel
theorem dR_lead_5 : decode prog_14_method_103_code 5 = .ok (.aload_n 0, 1) := by decide +kernel
theorem dR_lead_6 : decode prog_14_method_103_code 6 = .ok (.iconst 0, 1) := by decide +kernel
theorem dR_lead_7 : decode prog_14_method_103_code 7 = .ok (.putfield 445, 3) := by decide +kernel
theorem dR_lead_10 : decode prog_14_method_103_code 10 = .ok (.iconst 0, 1) := by decide +kernel
theorem dR_lead_11 : decode prog_14_method_103_code 11 = .ok (.istore_n 2, 1) := by decide +kernel
theorem dR_lead_12 : decode prog_14_method_103_code 12 = .ok (.iload_n 2, 1) := by decide +kernel
theorem dR_lead_13 : decode prog_14_method_103_code 13 = .ok (.aload_n 0, 1) := by decide +kernel
theorem dR_lead_14 : decode prog_14_method_103_code 14 = .ok (.getfield 253, 3) := by decide +kernel
theorem dR_lead_17 : decode prog_14_method_103_code 17 = .ok (.if_icmp .ge 40, 3) := by decide +kernel
theorem dR_lead_20 : decode prog_14_method_103_code 20 = .ok (.iload_n 1, 1) := by decide +kernel
theorem dR_lead_21 : decode prog_14_method_103_code 21 = .ok (.iload_n 2, 1) := by decide +kernel
theorem dR_lead_22 : decode prog_14_method_103_code 22 = .ok (.ishr, 1) := by decide +kernel
theorem dR_lead_23 : decode prog_14_method_103_code 23 = .ok (.iconst 1, 1) := by decide +kernel
theorem dR_lead_24 : decode prog_14_method_103_code 24 = .ok (.iand, 1) := by decide +kernel
theorem dR_lead_25 : decode prog_14_method_103_code 25 = .ok (.ifCond .ne 6, 3) := by decide +kernel
theorem dR_lead_28 : decode prog_14_method_103_code 28 = .ok (.goto 23, 3) := by decide +kernel
theorem dR_lead_31 : decode prog_14_method_103_code 31 = .ok (.aload_n 0, 1) := by decide +kernel
theorem dR_lead_32 : decode prog_14_method_103_code 32 = .ok (.getfield 101, 3) := by decide +kernel
theorem dR_lead_35 : decode prog_14_method_103_code 35 = .ok (.aload_n 0, 1) := by decide +kernel
theorem dR_lead_36 : decode prog_14_method_103_code 36 = .ok (.getfield 442, 3) := by decide +kernel
theorem dR_lead_39 : decode prog_14_method_103_code 39 = .ok (.iload_n 2, 1) := by decide +kernel
theorem dR_lead_40 : decode prog_14_method_103_code 40 = .ok (.iastore, 1) := by decide +kernel
theorem dR_lead_41 : decode prog_14_method_103_code 41 = .ok (.aload_n 0, 1) := by decide +kernel
theorem dR_lead_42 : decode prog_14_method_103_code 42 = .ok (.dup, 1) := by decide +kernel
theorem dR_lead_43 : decode prog_14_method_103_code 43 = .ok (.getfield 442, 3) := by decide +kernel
theorem dR_lead_46 : decode prog_14_method_103_code 46 = .ok (.iconst 1, 1) := by decide +kernel
theorem dR_lead_47 : decode prog_14_method_103_code 47 = .ok (.iadd, 1) := by decide +kernel
theorem dR_lead_48 : decode prog_14_method_103_code 48 = .ok (.putfield 442, 3) := by decide +kernel
theorem dR_lead_51 : decode prog_14_method_103_code 51 = .ok (.iinc 2 1, 3) := by decide +kernel
theorem dR_lead_54 : decode prog_14_method_103_code 54 = .ok (.goto (-42), 3) := by decide +kernel
theorem dR_lead_57 : decode prog_14_method_103_code 57 = .ok (.iconst 0, 1) := by decide +kernel
theorem dR_lead_58 : decode prog_14_method_103_code 58 = .ok (.istore_n 2, 1) := by decide +kernel
theorem dR_lead_59 : decode prog_14_method_103_code 59 = .ok (.iload_n 2, 1) := by decide +kernel
theorem dR_lead_60 : decode prog_14_method_103_code 60 = .ok (.aload_n 0, 1) := by decide +kernel
theorem dR_lead_61 : decode prog_14_method_103_code 61 = .ok (.getfield 442, 3) := by decide +kernel
theorem dR_lead_64 : decode prog_14_method_103_code 64 = .ok (.if_icmp .ge 74, 3) := by decide +kernel
theorem dR_lead_67 : decode prog_14_method_103_code 67 = .ok (.aload_n 0, 1) := by decide +kernel
theorem dR_lead_68 : decode prog_14_method_103_code 68 = .ok (.getfield 101, 3) := by decide +kernel
theorem dR_lead_71 : decode prog_14_method_103_code 71 = .ok (.iload_n 2, 1) := by decide +kernel
theorem dR_lead_72 : decode prog_14_method_103_code 72 = .ok (.iaload, 1) := by decide +kernel
theorem dR_lead_73 : decode prog_14_method_103_code 73 = .ok (.iconst 1, 1) := by decide +kernel
theorem dR_lead_74 : decode prog_14_method_103_code 74 = .ok (.iadd, 1) := by decide +kernel
theorem dR_lead_75 : decode prog_14_method_103_code 75 = .ok (.istore_n 3, 1) := by decide +kernel
theorem dR_lead_76 : decode prog_14_method_103_code 76 = .ok (.iload_n 3, 1) := by decide +kernel
theorem dR_lead_77 : decode prog_14_method_103_code 77 = .ok (.aload_n 0, 1) := by decide +kernel
theorem dR_lead_78 : decode prog_14_method_103_code 78 = .ok (.getfield 253, 3) := by decide +kernel
theorem dR_lead_81 : decode prog_14_method_103_code 81 = .ok (.if_icmp .ge 51, 3) := by decide +kernel
theorem dR_lead_84 : decode prog_14_method_103_code 84 = .ok (.iload_n 1, 1) := by decide +kernel
theorem dR_lead_85 : decode prog_14_method_103_code 85 = .ok (.iload_n 3, 1) := by decide +kernel
theorem dR_lead_86 : decode prog_14_method_103_code 86 = .ok (.ishr, 1) := by decide +kernel
theorem dR_lead_87 : decode prog_14_method_103_code 87 = .ok (.iconst 1, 1) := by decide +kernel
theorem dR_lead_88 : decode prog_14_method_103_code 88 = .ok (.iand, 1) := by decide +kernel
theorem dR_lead_89 : decode prog_14_method_103_code 89 = .ok (.iconst 1, 1) := by decide +kernel
theorem dR_lead_90 : decode prog_14_method_103_code 90 = .ok (.if_icmp .ne 6, 3) := by decide +kernel
theorem dR_lead_93 : decode prog_14_method_103_code 93 = .ok (.goto 33, 3) := by decide +kernel
theorem dR_lead_96 : decode prog_14_method_103_code 96 = .ok (.aload_n 0, 1) := by decide +kernel
theorem dR_lead_97 : decode prog_14_method_103_code 97 = .ok (.getfield 104, 3) := by decide +kernel
theorem dR_lead_100 : decode prog_14_method_103_code 100 = .ok (.aload_n 0, 1) := by decide +kernel
theorem dR_lead_101 : decode prog_14_method_103_code 101 = .ok (.getfield 445, 3) := by decide +kernel
theorem dR_lead_104 : decode prog_14_method_103_code 104 = .ok (.iload_n 2, 1) := by decide +kernel
theorem dR_lead_105 : decode prog_14_method_103_code 105 = .ok (.iastore, 1) := by decide +kernel
theorem dR_lead_106 : decode prog_14_method_103_code 106 = .ok (.aload_n 0, 1) := by decide +kernel
theorem dR_lead_107 : decode prog_14_method_103_code 107 = .ok (.getfield 107, 3) := by decide +kernel
theorem dR_lead_110 : decode prog_14_method_103_code 110 = .ok (.aload_n 0, 1) := by decide +kernel
theorem dR_lead_111 : decode prog_14_method_103_code 111 = .ok (.getfield 445, 3) := by decide +kernel
theorem dR_lead_114 : decode prog_14_method_103_code 114 = .ok (.iload_n 3, 1) := by decide +kernel
theorem dR_lead_115 : decode prog_14_method_103_code 115 = .ok (.iastore, 1) := by decide +kernel
theorem dR_lead_116 : decode prog_14_method_103_code 116 = .ok (.aload_n 0, 1) := by decide +kernel
theorem dR_lead_117 : decode prog_14_method_103_code 117 = .ok (.dup, 1) := by decide +kernel
theorem dR_lead_118 : decode prog_14_method_103_code 118 = .ok (.getfield 445, 3) := by decide +kernel
theorem dR_lead_121 : decode prog_14_method_103_code 121 = .ok (.iconst 1, 1) := by decide +kernel
theorem dR_lead_122 : decode prog_14_method_103_code 122 = .ok (.iadd, 1) := by decide +kernel
theorem dR_lead_123 : decode prog_14_method_103_code 123 = .ok (.putfield 445, 3) := by decide +kernel
theorem dR_lead_126 : decode prog_14_method_103_code 126 = .ok (.iinc 3 1, 3) := by decide +kernel
theorem dR_lead_129 : decode prog_14_method_103_code 129 = .ok (.goto (-53), 3) := by decide +kernel
theorem dR_lead_132 : decode prog_14_method_103_code 132 = .ok (.iinc 2 1, 3) := by decide +kernel
theorem dR_lead_135 : decode prog_14_method_103_code 135 = .ok (.goto (-76), 3) := by decide +kernel
theorem dR_lead_138 : decode prog_14_method_103_code 138 = .ok (.return_, 1) := by decide +kernel
theorem t_R_lead {d : Nat} {x1 : Int} {σ : SG} {Q : Int → SG → Prop} (h : inI x1 → ((∀ σ1, σ1 = up σ 161 59 0 → (∀ σ2, σ2 = up σ1 161 60 0 → L (d + 1) M_R_lead 12 [vA 161, vI x1, vI 0, vU] [] σ2 Q)))) : Tri (d + 1) M_R_lead [vA 161, vI x1] σ Q :=
  Tri_intro rfl (Nat.le_of_ble_eq_true rfl) (ls := [vA 161, vI x1, vU, vU]) rfl (fun hok => L_aload_n dR_lead_0 rfl (L_iconst dR_lead_1 in_0 (L_putfN fp_R_442 rfl rfl (fun _ => ⟨rfl, rfl⟩) dR_lead_2 ⟨ob_161, fun σ1 e1 => L_aload_n dR_lead_5 rfl (L_iconst dR_lead_6 in_0 (L_putfN fp_R_445 rfl rfl (fun _ => ⟨rfl, rfl⟩) dR_lead_7 ⟨ob_161, fun σ2 e2 => L_iconst dR_lead_10 in_0 (L_istore_n dR_lead_11 (by decide) (((h (hok _ (List.mem_of_getElem? (i := 1) rfl))) σ1 e1) σ2 e2))⟩))⟩)))
theorem s_R_lead_12 {d : Nat} {x1 x2 : Int} {σ : SG} {Q : Int → SG → Prop} (h : (σ 161 27 ≤ x2 → L (d + 1) M_R_lead 59 [vA 161, vI x1, vI 0, vU] [] σ Q) ∧ (x2 < σ 161 27 → (and32 (shr32 x1 x2) 1 ≠ 0 → (0 ≤ σ 161 59 ∧ σ 161 59 < 5) ∧ (∀ σ3, σ3 = up σ 187 (σ 161 59) x2 → (∀ σ4, σ4 = up σ3 161 59 (w32 ((σ3 161 59) + 1)) → L (d + 1) M_R_lead 12 [vA 161, vI x1, vI (w32 (x2 + 1)), vU] [] σ4 Q))) ∧ (and32 (shr32 x1 x2) 1 = 0 → L (d + 1) M_R_lead 12 [vA 161, vI x1, vI (w32 (x2 + 1)), vU] [] σ Q))) : L (d + 1) M_R_lead 12 [vA 161, vI x1, vI x2, vU] [] σ Q :=
  L_iload_n dR_lead_12 rfl (L_aload_n dR_lead_13 rfl (L_getf fw_R_253 rfl dR_lead_14 ⟨ob_161, L_icmp_ge dR_lead_17 (by decide) ⟨fun c1 => L_iconst dR_lead_57 in_0 (L_istore_n dR_lead_58 (by decide) (h.1 c1)), fun c1 => L_iload_n dR_lead_20 rfl (L_iload_n dR_lead_21 rfl (L_ishr dR_lead_22 (L_iconst dR_lead_23 in_1 (L_iand dR_lead_24 (L_if_ne dR_lead_25 (by decide) ⟨fun c2 => L_aload_n dR_lead_31 rfl (L_getF (b := 187) fw_R_101 rfl rfl (by decide) dR_lead_32 ⟨ob_161, L_aload_n dR_lead_35 rfl (L_getf fw_R_442 rfl dR_lead_36 ⟨ob_161, L_iload_n dR_lead_39 rfl (L_iastoreL (by decide) kd_187 dR_lead_40 ⟨((h.2 c1).1 c2).1, fun σ3 e3 => L_aload_n dR_lead_41 rfl (L_dup dR_lead_42 n21 (L_getf fw_R_442 rfl dR_lead_43 ⟨ob_161, L_iconst dR_lead_46 in_1 (L_iadd dR_lead_47 (L_putfN fp_R_442 rfl rfl (fun _ => ⟨rfl, rfl⟩) dR_lead_48 ⟨ob_161, fun σ4 e4 => L_iinc dR_lead_51 rfl (by decide) (L_goto dR_lead_54 (by decide) ((((h.2 c1).1 c2).2 σ3 e3) σ4 e4))⟩))⟩))⟩)⟩)⟩), fun c2 => L_goto dR_lead_28 (by decide) (L_iinc dR_lead_51 rfl (by decide) (L_goto dR_lead_54 (by decide) ((h.2 c1).2 c2)))⟩)))))⟩⟩))
theorem s_R_lead_59 {d : Nat} {x1 x2 : Int} {σ : SG} {Q : Int → SG → Prop} (h : (σ 161 59 ≤ x2 → Q 0 σ) ∧ (x2 < σ 161 59 → (0 ≤ x2 ∧ x2 < 5) ∧ L (d + 1) M_R_lead 76 [vA 161, vI x1, vI x2, vI (w32 ((σ 187 x2) + 1))] [] σ Q)) : L (d + 1) M_R_lead 59 [vA 161, vI x1, vI x2, vU] [] σ Q :=
  L_iload_n dR_lead_59 rfl (L_aload_n dR_lead_60 rfl (L_getf fw_R_442 rfl dR_lead_61 ⟨ob_161, L_icmp_ge dR_lead_64 (by decide) ⟨fun c1 => L_return rfl dR_lead_138 (h.1 c1), fun c1 => L_aload_n dR_lead_67 rfl (L_getF (b := 187) fw_R_101 rfl rfl (by decide) dR_lead_68 ⟨ob_161, L_iload_n dR_lead_71 rfl (L_ialoadL kd_187 dR_lead_72 ⟨(h.2 c1).1, L_iconst dR_lead_73 in_1 (L_iadd dR_lead_74 (L_istore_n dR_lead_75 (by decide) ((h.2 c1).2)))⟩)⟩)⟩⟩))
theorem s_R_lead_76 {d : Nat} {x1 x2 x3 : Int} {σ : SG} {Q : Int → SG → Prop} (h : (σ 161 27 ≤ x3 → L (d + 1) M_R_lead 59 [vA 161, vI x1, vI (w32 (x2 + 1)), vU] [] σ Q) ∧ (x3 < σ 161 27 → (and32 (shr32 x1 x3) 1 ≠ 1 → (0 ≤ σ 161 60 ∧ σ 161 60 < 25) ∧ (∀ σ3, σ3 = up σ 188 (σ 161 60) x2 → (0 ≤ σ3 161 60 ∧ σ3 161 60 < 25) ∧ (∀ σ4, σ4 = up σ3 189 (σ3 161 60) x3 → (∀ σ5, σ5 = up σ4 161 60 (w32 ((σ4 161 60) + 1)) → L (d + 1) M_R_lead 76 [vA 161, vI x1, vI x2, vI (w32 (x3 + 1))] [] σ5 Q)))) ∧ (and32 (shr32 x1 x3) 1 = 1 → L (d + 1) M_R_lead 76 [vA 161, vI x1, vI x2, vI (w32 (x3 + 1))] [] σ Q))) : L (d + 1) M_R_lead 76 [vA 161, vI x1, vI x2, vI x3] [] σ Q :=
  L_iload_n dR_lead_76 rfl (L_aload_n dR_lead_77 rfl (L_getf fw_R_253 rfl dR_lead_78 ⟨ob_161, L_icmp_ge dR_lead_81 (by decide) ⟨fun c1 => L_iinc dR_lead_132 rfl (by decide) (L_goto dR_lead_135 (by decide) (L_weak [true, true, true, false] (h.1 c1))), fun c1 => L_iload_n dR_lead_84 rfl (L_iload_n dR_lead_85 rfl (L_ishr dR_lead_86 (L_iconst dR_lead_87 in_1 (L_iand dR_lead_88 (L_iconst dR_lead_89 in_1 (L_icmp_ne dR_lead_90 (by decide) ⟨fun c2 => L_aload_n dR_lead_96 rfl (L_getF (b := 188) fw_R_104 rfl rfl (by decide) dR_lead_97 ⟨ob_161, L_aload_n dR_lead_100 rfl (L_getf fw_R_445 rfl dR_lead_101 ⟨ob_161, L_iload_n dR_lead_104 rfl (L_iastoreL (by decide) kd_188 dR_lead_105 ⟨((h.2 c1).1 c2).1, fun σ3 e3 => L_aload_n dR_lead_106 rfl (L_getF (b := 189) fw_R_107 rfl rfl (by decide) dR_lead_107 ⟨ob_161, L_aload_n dR_lead_110 rfl (L_getf fw_R_445 rfl dR_lead_111 ⟨ob_161, L_iload_n dR_lead_114 rfl (L_iastoreL (by decide) kd_189 dR_lead_115 ⟨(((h.2 c1).1 c2).2 σ3 e3).1, fun σ4 e4 => L_aload_n dR_lead_116 rfl (L_dup dR_lead_117 n21 (L_getf fw_R_445 rfl dR_lead_118 ⟨ob_161, L_iconst dR_lead_121 in_1 (L_iadd dR_lead_122 (L_putfN fp_R_445 rfl rfl (fun _ => ⟨rfl, rfl⟩) dR_lead_123 ⟨ob_161, fun σ5 e5 => L_iinc dR_lead_126 rfl (by decide) (L_goto dR_lead_129 (by decide) (((((h.2 c1).1 c2).2 σ3 e3).2 σ4 e4) σ5 e5))⟩))⟩))⟩)⟩)⟩)⟩)⟩)⟩), fun c2 => L_goto dR_lead_93 (by decide) (L_iinc dR_lead_126 rfl (by decide) (L_goto dR_lead_129 (by decide) ((h.2 c1).2 c2)))⟩))))))⟩⟩))
theorem dR_spanBy_0 : decode prog_14_method_104_code 0 = .ok (.iconst 0, 1) := by decide +kernel
theorem dR_spanBy_1 : decode prog_14_method_104_code 1 = .ok (.istore_n 2, 1) := by decide +kernel
theorem dR_spanBy_2 : decode prog_14_method_104_code 2 = .ok (.iload_n 2, 1) := by decide +kernel
theorem dR_spanBy_3 : decode prog_14_method_104_code 3 = .ok (.aload_n 0, 1) := by decide +kernel
theorem dR_spanBy_4 : decode prog_14_method_104_code 4 = .ok (.getfield 442, 3) := by decide +kernel
theorem dR_spanBy_7 : decode prog_14_method_104_code 7 = .ok (.if_icmp .ge 50, 3) := by decide +kernel
theorem dR_spanBy_10 : decode prog_14_method_104_code 10 = .ok (.iconst 0, 1) := by decide +kernel
theorem dR_spanBy_11 : decode prog_14_method_104_code 11 = .ok (.istore_n 3, 1) := by decide +kernel
theorem dR_spanBy_12 : decode prog_14_method_104_code 12 = .ok (.iload_n 3, 1) := by decide +kernel
theorem dR_spanBy_13 : decode prog_14_method_104_code 13 = .ok (.aload_n 0, 1) := by decide +kernel
theorem dR_spanBy_14 : decode prog_14_method_104_code 14 = .ok (.getfield 253, 3) := by decide +kernel
theorem dR_spanBy_17 : decode prog_14_method_104_code 17 = .ok (.if_icmp .ge 34, 3) := by decide +kernel
theorem dR_spanBy_20 : decode prog_14_method_104_code 20 = .ok (.aload_n 0, 1) := by decide +kernel
theorem dR_spanBy_21 : decode prog_14_method_104_code 21 = .ok (.getfield 53, 3) := by decide +kernel
theorem dR_spanBy_24 : decode prog_14_method_104_code 24 = .ok (.iconst 5, 1) := by decide +kernel
theorem dR_spanBy_25 : decode prog_14_method_104_code 25 = .ok (.iload_n 2, 1) := by decide +kernel
theorem dR_spanBy_26 : decode prog_14_method_104_code 26 = .ok (.imul, 1) := by decide +kernel
theorem dR_spanBy_27 : decode prog_14_method_104_code 27 = .ok (.iload_n 3, 1) := by decide +kernel
theorem dR_spanBy_28 : decode prog_14_method_104_code 28 = .ok (.iadd, 1) := by decide +kernel
theorem dR_spanBy_29 : decode prog_14_method_104_code 29 = .ok (.iload_n 3, 1) := by decide +kernel
theorem dR_spanBy_30 : decode prog_14_method_104_code 30 = .ok (.aload_n 0, 1) := by decide +kernel
theorem dR_spanBy_31 : decode prog_14_method_104_code 31 = .ok (.getfield 101, 3) := by decide +kernel
theorem dR_spanBy_34 : decode prog_14_method_104_code 34 = .ok (.iload_n 2, 1) := by decide +kernel
theorem dR_spanBy_35 : decode prog_14_method_104_code 35 = .ok (.iaload, 1) := by decide +kernel
theorem dR_spanBy_36 : decode prog_14_method_104_code 36 = .ok (.if_icmp .ne 7, 3) := by decide +kernel
theorem dR_spanBy_39 : decode prog_14_method_104_code 39 = .ok (.iconst 1, 1) := by decide +kernel
theorem dR_spanBy_40 : decode prog_14_method_104_code 40 = .ok (.goto 4, 3) := by decide +kernel
theorem dR_spanBy_43 : decode prog_14_method_104_code 43 = .ok (.iconst 0, 1) := by decide +kernel
theorem dR_spanBy_44 : decode prog_14_method_104_code 44 = .ok (.iastore, 1) := by decide +kernel
theorem dR_spanBy_45 : decode prog_14_method_104_code 45 = .ok (.iinc 3 1, 3) := by decide +kernel
theorem dR_spanBy_48 : decode prog_14_method_104_code 48 = .ok (.goto (-36), 3) := by decide +kernel
theorem dR_spanBy_51 : decode prog_14_method_104_code 51 = .ok (.iinc 2 1, 3) := by decide +kernel
theorem dR_spanBy_54 : decode prog_14_method_104_code 54 = .ok (.goto (-52), 3) := by decide +kernel
theorem dR_spanBy_57 : decode prog_14_method_104_code 57 = .ok (.iload_n 1, 1) := by decide +kernel
theorem dR_spanBy_58 : decode prog_14_method_104_code 58 = .ok (.istore_n 2, 1) := by decide +kernel
theorem dR_spanBy_59 : decode prog_14_method_104_code 59 = .ok (.iconst 0, 1) := by decide +kernel
theorem dR_spanBy_60 : decode prog_14_method_104_code 60 = .ok (.istore_n 3, 1) := by decide +kernel
theorem dR_spanBy_61 : decode prog_14_method_104_code 61 = .ok (.iload_n 3, 1) := by decide +kernel
theorem dR_spanBy_62 : decode prog_14_method_104_code 62 = .ok (.aload_n 0, 1) := by decide +kernel
theorem dR_spanBy_63 : decode prog_14_method_104_code 63 = .ok (.getfield 445, 3) := by decide +kernel
theorem dR_spanBy_66 : decode prog_14_method_104_code 66 = .ok (.if_icmp .ge 42, 3) := by decide +kernel
theorem dR_spanBy_69 : decode prog_14_method_104_code 69 = .ok (.aload_n 0, 1) := by decide +kernel
theorem dR_spanBy_70 : decode prog_14_method_104_code 70 = .ok (.getfield 53, 3) := by decide +kernel
theorem dR_spanBy_73 : decode prog_14_method_104_code 73 = .ok (.iconst 5, 1) := by decide +kernel
theorem dR_spanBy_74 : decode prog_14_method_104_code 74 = .ok (.aload_n 0, 1) := by decide +kernel
theorem dR_spanBy_75 : decode prog_14_method_104_code 75 = .ok (.getfield 104, 3) := by decide +kernel
theorem dR_spanBy_78 : decode prog_14_method_104_code 78 = .ok (.iload_n 3, 1) := by decide +kernel
theorem dR_spanBy_79 : decode prog_14_method_104_code 79 = .ok (.iaload, 1) := by decide +kernel
theorem dR_spanBy_80 : decode prog_14_method_104_code 80 = .ok (.imul, 1) := by decide +kernel
theorem dR_spanBy_81 : decode prog_14_method_104_code 81 = .ok (.aload_n 0, 1) := by decide +kernel
theorem dR_spanBy_82 : decode prog_14_method_104_code 82 = .ok (.getfield 107, 3) := by decide +kernel
theorem dR_spanBy_85 : decode prog_14_method_104_code 85 = .ok (.iload_n 3, 1) := by decide +kernel
theorem dR_spanBy_86 : decode prog_14_method_104_code 86 = .ok (.iaload, 1) := by decide +kernel
theorem dR_spanBy_87 : decode prog_14_method_104_code 87 = .ok (.iadd, 1) := by decide +kernel
theorem dR_spanBy_88 : decode prog_14_method_104_code 88 = .ok (.iload_n 2, 1) := by decide +kernel
theorem dR_spanBy_89 : decode prog_14_method_104_code 89 = .ok (.aload_n 0, 1) := by decide +kernel
theorem dR_spanBy_90 : decode prog_14_method_104_code 90 = .ok (.getfield 250, 3) := by decide +kernel
theorem dR_spanBy_93 : decode prog_14_method_104_code 93 = .ok (.irem, 1) := by decide +kernel
theorem dR_spanBy_94 : decode prog_14_method_104_code 94 = .ok (.iastore, 1) := by decide +kernel
theorem dR_spanBy_95 : decode prog_14_method_104_code 95 = .ok (.iload_n 2, 1) := by decide +kernel
theorem dR_spanBy_96 : decode prog_14_method_104_code 96 = .ok (.aload_n 0, 1) := by decide +kernel
theorem dR_spanBy_97 : decode prog_14_method_104_code 97 = .ok (.getfield 250, 3) := by decide +kernel
theorem dR_spanBy_100 : decode prog_14_method_104_code 100 = .ok (.idiv, 1) := by decide +kernel
theorem dR_spanBy_101 : decode prog_14_method_104_code 101 = .ok (.istore_n 2, 1) := by decide +kernel
theorem dR_spanBy_102 : decode prog_14_method_104_code 102 = .ok (.iinc 3 1, 3) := by decide +kernel
theorem dR_spanBy_105 : decode prog_14_method_104_code 105 = .ok (.goto (-44), 3) := by decide +kernel
theorem dR_spanBy_108 : decode prog_14_method_104_code 108 = .ok (.return_, 1) := by decide +kernel
theorem t_R_spanBy {d : Nat} {x1 : Int} {σ : SG} {Q : Int → SG → Prop} (h : inI x1 → (L (d + 1) M_R_spanBy 2 [vA 161, vI x1, vI 0, vU] [] σ Q)) : Tri (d + 1) M_R_spanBy [vA 161, vI x1] σ Q :=
  Tri_intro rfl (Nat.le_of_ble_eq_true rfl) (ls := [vA 161, vI x1, vU, vU]) rfl (fun hok => L_iconst dR_spanBy_0 in_0 (L_istore_n dR_spanBy_1 (by decide) ((h (hok _ (List.mem_of_getElem? (i := 1) rfl))))))
theorem s_R_spanBy_2 {d : Nat} {x1 x2 : Int} {σ : SG} {Q : Int → SG → Prop} (h : (σ 161 59 ≤ x2 → L (d + 1) M_R_spanBy 61 [vA 161, vU, vI x1, vI 0] [] σ Q) ∧ (x2 < σ 161 59 → L (d + 1) M_R_spanBy 12 [vA 161, vI x1, vI x2, vI 0] [] σ Q)) : L (d + 1) M_R_spanBy 2 [vA 161, vI x1, vI x2, vU] [] σ Q :=
  L_iload_n dR_spanBy_2 rfl (L_aload_n dR_spanBy_3 rfl (L_getf fw_R_442 rfl dR_spanBy_4 ⟨ob_161, L_icmp_ge dR_spanBy_7 (by decide) ⟨fun c1 => L_iload_n dR_spanBy_57 rfl (L_istore_n dR_spanBy_58 (by decide) (L_iconst dR_spanBy_59 in_0 (L_istore_n dR_spanBy_60 (by decide) (L_weak [true, false, true, true] (h.1 c1))))), fun c1 => L_iconst dR_spanBy_10 in_0 (L_istore_n dR_spanBy_11 (by decide) (h.2 c1))⟩⟩))
theorem s_R_spanBy_61 {d : Nat} {x2 x3 : Int} {σ : SG} {Q : Int → SG → Prop} (h : (σ 161 60 ≤ x3 → Q 0 σ) ∧ (x3 < σ 161 60 → (0 ≤ x3 ∧ x3 < 25) ∧ (0 ≤ x3 ∧ x3 < 25) ∧ σ 161 26 ≠ 0 ∧ (0 ≤ w32 ((w32 (5 * (σ 188 x3))) + (σ 189 x3)) ∧ w32 ((w32 (5 * (σ 188 x3))) + (σ 189 x3)) < 25) ∧ (∀ σ2, σ2 = up σ 172 (w32 ((w32 (5 * (σ 188 x3))) + (σ 189 x3))) (x2.tmod (σ 161 26)) → σ2 161 26 ≠ 0 ∧ L (d + 1) M_R_spanBy 61 [vA 161, vU, vI (w32 (x2.tdiv (σ2 161 26))), vI (w32 (x3 + 1))] [] σ2 Q))) : L (d + 1) M_R_spanBy 61 [vA 161, vU, vI x2, vI x3] [] σ Q :=
  L_iload_n dR_spanBy_61 rfl (L_aload_n dR_spanBy_62 rfl (L_getf fw_R_445 rfl dR_spanBy_63 ⟨ob_161, L_icmp_ge dR_spanBy_66 (by decide) ⟨fun c1 => L_return rfl dR_spanBy_108 (h.1 c1), fun c1 => L_aload_n dR_spanBy_69 rfl (L_getF (b := 172) fw_R_53 rfl rfl (by decide) dR_spanBy_70 ⟨ob_161, L_iconst dR_spanBy_73 in_5 (L_aload_n dR_spanBy_74 rfl (L_getF (b := 188) fw_R_104 rfl rfl (by decide) dR_spanBy_75 ⟨ob_161, L_iload_n dR_spanBy_78 rfl (L_ialoadL kd_188 dR_spanBy_79 ⟨(h.2 c1).1, L_imul dR_spanBy_80 (L_aload_n dR_spanBy_81 rfl (L_getF (b := 189) fw_R_107 rfl rfl (by decide) dR_spanBy_82 ⟨ob_161, L_iload_n dR_spanBy_85 rfl (L_ialoadL kd_189 dR_spanBy_86 ⟨(h.2 c1).2.1, L_iadd dR_spanBy_87 (L_iload_n dR_spanBy_88 rfl (L_aload_n dR_spanBy_89 rfl (L_getf fw_R_250 rfl dR_spanBy_90 ⟨ob_161, L_irem dR_spanBy_93 ⟨(h.2 c1).2.2.1, L_iastoreL (by decide) kd_172 dR_spanBy_94 ⟨(h.2 c1).2.2.2.1, fun σ2 e2 => L_iload_n dR_spanBy_95 rfl (L_aload_n dR_spanBy_96 rfl (L_getf fw_R_250 rfl dR_spanBy_97 ⟨ob_161, L_idiv dR_spanBy_100 ⟨((h.2 c1).2.2.2.2 σ2 e2).1, L_istore_n dR_spanBy_101 (by decide) (L_iinc dR_spanBy_102 rfl (by decide) (L_goto dR_spanBy_105 (by decide) (((h.2 c1).2.2.2.2 σ2 e2).2)))⟩⟩))⟩⟩⟩)))⟩)⟩))⟩)⟩))⟩)⟩⟩))
theorem s_R_spanBy_12 {d : Nat} {x1 x2 x3 : Int} {σ : SG} {Q : Int → SG → Prop} (h : (σ 161 27 ≤ x3 → L (d + 1) M_R_spanBy 2 [vA 161, vI x1, vI (w32 (x2 + 1)), vU] [] σ Q) ∧ (x3 < σ 161 27 → (0 ≤ x2 ∧ x2 < 5) ∧ (x3 ≠ σ 187 x2 → (0 ≤ w32 ((w32 (5 * x2)) + x3) ∧ w32 ((w32 (5 * x2)) + x3) < 25) ∧ (∀ σ3, σ3 = up σ 172 (w32 ((w32 (5 * x2)) + x3)) 0 → L (d + 1) M_R_spanBy 12 [vA 161, vI x1, vI x2, vI (w32 (x3 + 1))] [] σ3 Q)) ∧ (x3 = σ 187 x2 → (0 ≤ w32 ((w32 (5 * x2)) + x3) ∧ w32 ((w32 (5 * x2)) + x3) < 25) ∧ (∀ σ4, σ4 = up σ 172 (w32 ((w32 (5 * x2)) + x3)) 1 → L (d + 1) M_R_spanBy 12 [vA 161, vI x1, vI x2, vI (w32 (x3 + 1))] [] σ4 Q)))) : L (d + 1) M_R_spanBy 12 [vA 161, vI x1, vI x2, vI x3] [] σ Q :=
  L_iload_n dR_spanBy_12 rfl (L_aload_n dR_spanBy_13 rfl (L_getf fw_R_253 rfl dR_spanBy_14 ⟨ob_161, L_icmp_ge dR_spanBy_17 (by decide) ⟨fun c1 => L_iinc dR_spanBy_51 rfl (by decide) (L_goto dR_spanBy_54 (by decide) (L_weak [true, true, true, false] (h.1 c1))), fun c1 => L_aload_n dR_spanBy_20 rfl (L_getF (b := 172) fw_R_53 rfl rfl (by decide) dR_spanBy_21 ⟨ob_161, L_iconst dR_spanBy_24 in_5 (L_iload_n dR_spanBy_25 rfl (L_imul dR_spanBy_26 (L_iload_n dR_spanBy_27 rfl (L_iadd dR_spanBy_28 (L_iload_n dR_spanBy_29 rfl (L_aload_n dR_spanBy_30 rfl (L_getF (b := 187) fw_R_101 rfl rfl (by decide) dR_spanBy_31 ⟨ob_161, L_iload_n dR_spanBy_34 rfl (L_ialoadL kd_187 dR_spanBy_35 ⟨(h.2 c1).1, L_icmp_ne dR_spanBy_36 (by decide) ⟨fun c2 => L_iconst dR_spanBy_43 in_0 (L_iastoreL (by decide) kd_172 dR_spanBy_44 ⟨((h.2 c1).2.1 c2).1, fun σ3 e3 => L_iinc dR_spanBy_45 rfl (by decide) (L_goto dR_spanBy_48 (by decide) (((h.2 c1).2.1 c2).2 σ3 e3))⟩), fun c2 => L_iconst dR_spanBy_39 in_1 (L_goto dR_spanBy_40 (by decide) (L_iastoreL (by decide) kd_172 dR_spanBy_44 ⟨((h.2 c1).2.2 c2).1, fun σ4 e4 => L_iinc dR_spanBy_45 rfl (by decide) (L_goto dR_spanBy_48 (by decide) (((h.2 c1).2.2 c2).2 σ4 e4))⟩))⟩⟩)⟩)))))))⟩)⟩⟩))
theorem dR_isPart_0 : decode prog_14_method_105_code 0 = .ok (.iconst 0, 1) := by decide +kernel
theorem dR_isPart_1 : decode prog_14_method_105_code 1 = .ok (.istore_n 2, 1) := by decide +kernel
theorem dR_isPart_2 : decode prog_14_method_105_code 2 = .ok (.iload_n 2, 1) := by decide +kernel
theorem dR_isPart_3 : decode prog_14_method_105_code 3 = .ok (.iload_n 1, 1) := by decide +kernel
theorem dR_isPart_4 : decode prog_14_method_105_code 4 = .ok (.if_icmp .ge 65, 3) := by decide +kernel
theorem dR_isPart_7 : decode prog_14_method_105_code 7 = .ok (.iload_n 2, 1) := by decide +kernel
theorem dR_isPart_8 : decode prog_14_method_105_code 8 = .ok (.iconst 1, 1) := by decide +kernel
theorem dR_isPart_9 : decode prog_14_method_105_code 9 = .ok (.iadd, 1) := by decide +kernel
theorem dR_isPart_10 : decode prog_14_method_105_code 10 = .ok (.istore_n 3, 1) := by decide +kernel
theorem dR_isPart_11 : decode prog_14_method_105_code 11 = .ok (.iload_n 3, 1) := by decide +kernel
theorem dR_isPart_12 : decode prog_14_method_105_code 12 = .ok (.iload_n 1, 1) := by decide +kernel
theorem dR_isPart_13 : decode prog_14_method_105_code 13 = .ok (.if_icmp .ge 50, 3) := by decide +kernel
theorem dR_isPart_16 : decode prog_14_method_105_code 16 = .ok (.aload_n 0, 1) := by decide +kernel
theorem dR_isPart_17 : decode prog_14_method_105_code 17 = .ok (.aload_n 0, 1) := by decide +kernel
theorem dR_isPart_18 : decode prog_14_method_105_code 18 = .ok (.getfield 53, 3) := by decide +kernel
theorem dR_isPart_21 : decode prog_14_method_105_code 21 = .ok (.iconst 5, 1) := by decide +kernel
theorem dR_isPart_22 : decode prog_14_method_105_code 22 = .ok (.iload_n 2, 1) := by decide +kernel
theorem dR_isPart_23 : decode prog_14_method_105_code 23 = .ok (.imul, 1) := by decide +kernel
theorem dR_isPart_24 : decode prog_14_method_105_code 24 = .ok (.aload_n 0, 1) := by decide +kernel
theorem dR_isPart_25 : decode prog_14_method_105_code 25 = .ok (.getfield 53, 3) := by decide +kernel
theorem dR_isPart_28 : decode prog_14_method_105_code 28 = .ok (.iconst 5, 1) := by decide +kernel
theorem dR_isPart_29 : decode prog_14_method_105_code 29 = .ok (.iload_n 3, 1) := by decide +kernel
theorem dR_isPart_30 : decode prog_14_method_105_code 30 = .ok (.imul, 1) := by decide +kernel
theorem dR_isPart_31 : decode prog_14_method_105_code 31 = .ok (.aload_n 0, 1) := by decide +kernel
theorem dR_isPart_32 : decode prog_14_method_105_code 32 = .ok (.getfield 71, 3) := by decide +kernel
theorem dR_isPart_35 : decode prog_14_method_105_code 35 = .ok (.invokevirtual 340, 3) := by decide +kernel
theorem dR_isPart_38 : decode prog_14_method_105_code 38 = .ok (.aload_n 0, 1) := by decide +kernel
theorem dR_isPart_39 : decode prog_14_method_105_code 39 = .ok (.aload_n 0, 1) := by decide +kernel
theorem dR_isPart_40 : decode prog_14_method_105_code 40 = .ok (.getfield 53, 3) := by decide +kernel
theorem dR_isPart_43 : decode prog_14_method_105_code 43 = .ok (.iload_n 1, 1) := by decide +kernel
theorem dR_isPart_44 : decode prog_14_method_105_code 44 = .ok (.aload_n 0, 1) := by decide +kernel
theorem dR_isPart_45 : decode prog_14_method_105_code 45 = .ok (.getfield 71, 3) := by decide +kernel
theorem dR_isPart_48 : decode prog_14_method_105_code 48 = .ok (.iconst 0, 1) := by decide +kernel
theorem dR_isPart_49 : decode prog_14_method_105_code 49 = .ok (.invokevirtual 448, 3) := by decide +kernel
theorem dR_isPart_52 : decode prog_14_method_105_code 52 = .ok (.ifCond .ne 5, 3) := by decide +kernel
theorem dR_isPart_55 : decode prog_14_method_105_code 55 = .ok (.iconst 0, 1) := by decide +kernel
theorem dR_isPart_56 : decode prog_14_method_105_code 56 = .ok (.ireturn, 1) := by decide +kernel
theorem dR_isPart_57 : decode prog_14_method_105_code 57 = .ok (.iinc 3 1, 3) := by decide +kernel
theorem dR_isPart_60 : decode prog_14_method_105_code 60 = .ok (.goto (-49), 3) := by decide +kernel
theorem dR_isPart_63 : decode prog_14_method_105_code 63 = .ok (.iinc 2 1, 3) := by decide +kernel
theorem dR_isPart_66 : decode prog_14_method_105_code 66 = .ok (.goto (-64), 3) := by decide +kernel
theorem dR_isPart_69 : decode prog_14_method_105_code 69 = .ok (.iconst 1, 1) := by decide +kernel
theorem dR_isPart_70 : decode prog_14_method_105_code 70 = .ok (.ireturn, 1) := by decide +kernel
theorem t_R_isPart {d : Nat} {x1 : Int} {σ : SG} {Q : Int → SG → Prop} (h : inI x1 → (L (d + 1) M_R_isPart 2 [vA 161, vI x1, vI 0, vU] [] σ Q)) : Tri (d + 1) M_R_isPart [vA 161, vI x1] σ Q :=
  Tri_intro rfl (Nat.le_of_ble_eq_true rfl) (ls := [vA 161, vI x1, vU, vU]) rfl (fun hok => L_iconst dR_isPart_0 in_0 (L_istore_n dR_isPart_1 (by decide) ((h (hok _ (List.mem_of_getElem? (i := 1) rfl))))))
theorem s_R_isPart_2 {d : Nat} {x1 x2 : Int} {σ : SG} {Q : Int → SG → Prop} (h : (x1 ≤ x2 → Q 1 σ) ∧ (x2 < x1 → L (d + 1) M_R_isPart 11 [vA 161, vI x1, vI x2, vI (w32 (x2 + 1))] [] σ Q)) : L (d + 1) M_R_isPart 2 [vA 161, vI x1, vI x2, vU] [] σ Q :=
  L_iload_n dR_isPart_2 rfl (L_iload_n dR_isPart_3 rfl (L_icmp_ge dR_isPart_4 (by decide) ⟨fun c1 => L_iconst dR_isPart_69 in_1 (L_zreturn1 rfl dR_isPart_70 (h.1 c1)), fun c1 => L_iload_n dR_isPart_7 rfl (L_iconst dR_isPart_8 in_1 (L_iadd dR_isPart_9 (L_istore_n dR_isPart_10 (by decide) (h.2 c1))))⟩))
theorem s_R_isPart_11 {d : Nat} {x1 x2 x3 : Int} {σ : SG} {Q : Int → SG → Prop} (h : (x1 ≤ x3 → L (d + 1) M_R_isPart 2 [vA 161, vI x1, vI (w32 (x2 + 1)), vU] [] σ Q) ∧ (x3 < x1 → Tri d M_R_bracketOf [vA 161, vA 172, vI (w32 (5 * x2)), vA 172, vI (w32 (5 * x3)), vA 178] σ (fun r2 σ2 => Tri d M_R_holds [vA 161, vA 172, vI x1, vA 178, vI 0] σ2 (fun r3 σ3 => (r3 ≠ 0 → L (d + 1) M_R_isPart 11 [vA 161, vI x1, vI x2, vI (w32 (x3 + 1))] [] σ3 Q) ∧ (r3 = 0 → Q 0 σ3))))) : L (d + 1) M_R_isPart 11 [vA 161, vI x1, vI x2, vI x3] [] σ Q :=
  L_iload_n dR_isPart_11 rfl (L_iload_n dR_isPart_12 rfl (L_icmp_ge dR_isPart_13 (by decide) ⟨fun c1 => L_iinc dR_isPart_63 rfl (by decide) (L_goto dR_isPart_66 (by decide) (L_weak [true, true, true, false] (h.1 c1))), fun c1 => L_aload_n dR_isPart_16 rfl (L_aload_n dR_isPart_17 rfl (L_getF (b := 172) fw_R_53 rfl rfl (by decide) dR_isPart_18 ⟨ob_161, L_iconst dR_isPart_21 in_5 (L_iload_n dR_isPart_22 rfl (L_imul dR_isPart_23 (L_aload_n dR_isPart_24 rfl (L_getF (b := 172) fw_R_53 rfl rfl (by decide) dR_isPart_25 ⟨ob_161, L_iconst dR_isPart_28 in_5 (L_iload_n dR_isPart_29 rfl (L_imul dR_isPart_30 (L_aload_n dR_isPart_31 rfl (L_getF (b := 178) fw_R_71 rfl rfl (by decide) dR_isPart_32 ⟨ob_161, L_callVV rfl cv_R_bracketOf (As := [vA 172, vI (w32 (5 * x2)), vA 172, vI (w32 (5 * x3)), vA 178]) rfl (tk8 157 rfl rfl) rfl (Nat.le_of_ble_eq_true rfl) dR_isPart_35 ⟨ob_161, Tri.mono (h.2 c1) (fun r2 σ2 q2 => L_aload_n dR_isPart_38 rfl (L_aload_n dR_isPart_39 rfl (L_getF (b := 172) fw_R_53 rfl rfl (by decide) dR_isPart_40 ⟨ob_161, L_iload_n dR_isPart_43 rfl (L_aload_n dR_isPart_44 rfl (L_getF (b := 178) fw_R_71 rfl rfl (by decide) dR_isPart_45 ⟨ob_161, L_iconst dR_isPart_48 in_0 (L_callVI rfl cv_R_holds (As := [vA 172, vI x1, vA 178, vI 0]) rfl (tk9 83 rfl rfl) rfl (Nat.le_of_ble_eq_true rfl) dR_isPart_49 ⟨ob_161, Tri.mono q2 (fun r3 σ3 q3 => L_if_ne dR_isPart_52 (by decide) ⟨fun c4 => L_iinc dR_isPart_57 rfl (by decide) (L_goto dR_isPart_60 (by decide) (q3.1 c4)), fun c4 => L_iconst dR_isPart_55 in_0 (L_zreturn0 rfl dR_isPart_56 (q3.2 c4))⟩)⟩)⟩))⟩)))⟩⟩))))⟩))))⟩))⟩))
theorem dR_isIdeal_0 : decode prog_14_method_106_code 0 = .ok (.iconst 0, 1) := by decide +kernel
theorem dR_isIdeal_1 : decode prog_14_method_106_code 1 = .ok (.istore_n 2, 1) := by decide +kernel
theorem dR_isIdeal_2 : decode prog_14_method_106_code 2 = .ok (.iload_n 2, 1) := by decide +kernel
theorem dR_isIdeal_3 : decode prog_14_method_106_code 3 = .ok (.iload_n 1, 1) := by decide +kernel
theorem dR_isIdeal_4 : decode prog_14_method_106_code 4 = .ok (.if_icmp .ge 73, 3) := by decide +kernel
theorem dR_isIdeal_7 : decode prog_14_method_106_code 7 = .ok (.iconst 0, 1) := by decide +kernel
theorem dR_isIdeal_8 : decode prog_14_method_106_code 8 = .ok (.istore_n 3, 1) := by decide +kernel
theorem dR_isIdeal_9 : decode prog_14_method_106_code 9 = .ok (.iload_n 3, 1) := by decide +kernel
theorem dR_isIdeal_10 : decode prog_14_method_106_code 10 = .ok (.aload_n 0, 1) := by decide +kernel
theorem dR_isIdeal_11 : decode prog_14_method_106_code 11 = .ok (.getfield 253, 3) := by decide +kernel
theorem dR_isIdeal_14 : decode prog_14_method_106_code 14 = .ok (.if_icmp .ge 57, 3) := by decide +kernel
theorem dR_isIdeal_17 : decode prog_14_method_106_code 17 = .ok (.aload_n 0, 1) := by decide +kernel
theorem dR_isIdeal_18 : decode prog_14_method_106_code 18 = .ok (.iload_n 3, 1) := by decide +kernel
theorem dR_isIdeal_19 : decode prog_14_method_106_code 19 = .ok (.aload_n 0, 1) := by decide +kernel
theorem dR_isIdeal_20 : decode prog_14_method_106_code 20 = .ok (.getfield 65, 3) := by decide +kernel
theorem dR_isIdeal_23 : decode prog_14_method_106_code 23 = .ok (.invokevirtual 367, 3) := by decide +kernel
theorem dR_isIdeal_26 : decode prog_14_method_106_code 26 = .ok (.aload_n 0, 1) := by decide +kernel
theorem dR_isIdeal_27 : decode prog_14_method_106_code 27 = .ok (.aload_n 0, 1) := by decide +kernel
theorem dR_isIdeal_28 : decode prog_14_method_106_code 28 = .ok (.getfield 53, 3) := by decide +kernel
theorem dR_isIdeal_31 : decode prog_14_method_106_code 31 = .ok (.iconst 5, 1) := by decide +kernel
theorem dR_isIdeal_32 : decode prog_14_method_106_code 32 = .ok (.iload_n 2, 1) := by decide +kernel
theorem dR_isIdeal_33 : decode prog_14_method_106_code 33 = .ok (.imul, 1) := by decide +kernel
theorem dR_isIdeal_34 : decode prog_14_method_106_code 34 = .ok (.aload_n 0, 1) := by decide +kernel
theorem dR_isIdeal_35 : decode prog_14_method_106_code 35 = .ok (.getfield 65, 3) := by decide +kernel
theorem dR_isIdeal_38 : decode prog_14_method_106_code 38 = .ok (.iconst 0, 1) := by decide +kernel
theorem dR_isIdeal_39 : decode prog_14_method_106_code 39 = .ok (.aload_n 0, 1) := by decide +kernel
theorem dR_isIdeal_40 : decode prog_14_method_106_code 40 = .ok (.getfield 71, 3) := by decide +kernel
theorem dR_isIdeal_43 : decode prog_14_method_106_code 43 = .ok (.invokevirtual 340, 3) := by decide +kernel
theorem dR_isIdeal_46 : decode prog_14_method_106_code 46 = .ok (.aload_n 0, 1) := by decide +kernel
theorem dR_isIdeal_47 : decode prog_14_method_106_code 47 = .ok (.aload_n 0, 1) := by decide +kernel
theorem dR_isIdeal_48 : decode prog_14_method_106_code 48 = .ok (.getfield 53, 3) := by decide +kernel
theorem dR_isIdeal_51 : decode prog_14_method_106_code 51 = .ok (.iload_n 1, 1) := by decide +kernel
theorem dR_isIdeal_52 : decode prog_14_method_106_code 52 = .ok (.aload_n 0, 1) := by decide +kernel
theorem dR_isIdeal_53 : decode prog_14_method_106_code 53 = .ok (.getfield 71, 3) := by decide +kernel
theorem dR_isIdeal_56 : decode prog_14_method_106_code 56 = .ok (.iconst 0, 1) := by decide +kernel
theorem dR_isIdeal_57 : decode prog_14_method_106_code 57 = .ok (.invokevirtual 448, 3) := by decide +kernel
theorem dR_isIdeal_60 : decode prog_14_method_106_code 60 = .ok (.ifCond .ne 5, 3) := by decide +kernel
theorem dR_isIdeal_63 : decode prog_14_method_106_code 63 = .ok (.iconst 0, 1) := by decide +kernel
theorem dR_isIdeal_64 : decode prog_14_method_106_code 64 = .ok (.ireturn, 1) := by decide +kernel
theorem dR_isIdeal_65 : decode prog_14_method_106_code 65 = .ok (.iinc 3 1, 3) := by decide +kernel
theorem dR_isIdeal_68 : decode prog_14_method_106_code 68 = .ok (.goto (-59), 3) := by decide +kernel
theorem dR_isIdeal_71 : decode prog_14_method_106_code 71 = .ok (.iinc 2 1, 3) := by decide +kernel
theorem dR_isIdeal_74 : decode prog_14_method_106_code 74 = .ok (.goto (-72), 3) := by decide +kernel
theorem dR_isIdeal_77 : decode prog_14_method_106_code 77 = .ok (.iconst 1, 1) := by decide +kernel
theorem dR_isIdeal_78 : decode prog_14_method_106_code 78 = .ok (.ireturn, 1) := by decide +kernel
theorem t_R_isIdeal {d : Nat} {x1 : Int} {σ : SG} {Q : Int → SG → Prop} (h : inI x1 → (L (d + 1) M_R_isIdeal 2 [vA 161, vI x1, vI 0, vU] [] σ Q)) : Tri (d + 1) M_R_isIdeal [vA 161, vI x1] σ Q :=
  Tri_intro rfl (Nat.le_of_ble_eq_true rfl) (ls := [vA 161, vI x1, vU, vU]) rfl (fun hok => L_iconst dR_isIdeal_0 in_0 (L_istore_n dR_isIdeal_1 (by decide) ((h (hok _ (List.mem_of_getElem? (i := 1) rfl))))))
theorem s_R_isIdeal_2 {d : Nat} {x1 x2 : Int} {σ : SG} {Q : Int → SG → Prop} (h : (x1 ≤ x2 → Q 1 σ) ∧ (x2 < x1 → L (d + 1) M_R_isIdeal 9 [vA 161, vI x1, vI x2, vI 0] [] σ Q)) : L (d + 1) M_R_isIdeal 2 [vA 161, vI x1, vI x2, vU] [] σ Q :=
  L_iload_n dR_isIdeal_2 rfl (L_iload_n dR_isIdeal_3 rfl (L_icmp_ge dR_isIdeal_4 (by decide) ⟨fun c1 => L_iconst dR_isIdeal_77 in_1 (L_zreturn1 rfl dR_isIdeal_78 (h.1 c1)), fun c1 => L_iconst dR_isIdeal_7 in_0 (L_istore_n dR_isIdeal_8 (by decide) (h.2 c1))⟩))
theorem s_R_isIdeal_9 {d : Nat} {x1 x2 x3 : Int} {σ : SG} {Q : Int → SG → Prop} (h : (σ 161 27 ≤ x3 → L (d + 1) M_R_isIdeal 2 [vA 161, vI x1, vI (w32 (x2 + 1)), vU] [] σ Q) ∧ (x3 < σ 161 27 → Tri d M_R_unit [vA 161, vI x3, vA 176] σ (fun r2 σ2 => Tri d M_R_bracketOf [vA 161, vA 172, vI (w32 (5 * x2)), vA 176, vI 0, vA 178] σ2 (fun r3 σ3 => Tri d M_R_holds [vA 161, vA 172, vI x1, vA 178, vI 0] σ3 (fun r4 σ4 => (r4 ≠ 0 → L (d + 1) M_R_isIdeal 9 [vA 161, vI x1, vI x2, vI (w32 (x3 + 1))] [] σ4 Q) ∧ (r4 = 0 → Q 0 σ4)))))) : L (d + 1) M_R_isIdeal 9 [vA 161, vI x1, vI x2, vI x3] [] σ Q :=
  L_iload_n dR_isIdeal_9 rfl (L_aload_n dR_isIdeal_10 rfl (L_getf fw_R_253 rfl dR_isIdeal_11 ⟨ob_161, L_icmp_ge dR_isIdeal_14 (by decide) ⟨fun c1 => L_iinc dR_isIdeal_71 rfl (by decide) (L_goto dR_isIdeal_74 (by decide) (L_weak [true, true, true, false] (h.1 c1))), fun c1 => L_aload_n dR_isIdeal_17 rfl (L_iload_n dR_isIdeal_18 rfl (L_aload_n dR_isIdeal_19 rfl (L_getF (b := 176) fw_R_65 rfl rfl (by decide) dR_isIdeal_20 ⟨ob_161, L_callVV rfl cv_R_unit (As := [vI x3, vA 176]) rfl (tk8 181 rfl rfl) rfl (Nat.le_of_ble_eq_true rfl) dR_isIdeal_23 ⟨ob_161, Tri.mono (h.2 c1) (fun r2 σ2 q2 => L_aload_n dR_isIdeal_26 rfl (L_aload_n dR_isIdeal_27 rfl (L_getF (b := 172) fw_R_53 rfl rfl (by decide) dR_isIdeal_28 ⟨ob_161, L_iconst dR_isIdeal_31 in_5 (L_iload_n dR_isIdeal_32 rfl (L_imul dR_isIdeal_33 (L_aload_n dR_isIdeal_34 rfl (L_getF (b := 176) fw_R_65 rfl rfl (by decide) dR_isIdeal_35 ⟨ob_161, L_iconst dR_isIdeal_38 in_0 (L_aload_n dR_isIdeal_39 rfl (L_getF (b := 178) fw_R_71 rfl rfl (by decide) dR_isIdeal_40 ⟨ob_161, L_callVV rfl cv_R_bracketOf (As := [vA 172, vI (w32 (5 * x2)), vA 176, vI 0, vA 178]) rfl (tk8 157 rfl rfl) rfl (Nat.le_of_ble_eq_true rfl) dR_isIdeal_43 ⟨ob_161, Tri.mono q2 (fun r3 σ3 q3 => L_aload_n dR_isIdeal_46 rfl (L_aload_n dR_isIdeal_47 rfl (L_getF (b := 172) fw_R_53 rfl rfl (by decide) dR_isIdeal_48 ⟨ob_161, L_iload_n dR_isIdeal_51 rfl (L_aload_n dR_isIdeal_52 rfl (L_getF (b := 178) fw_R_71 rfl rfl (by decide) dR_isIdeal_53 ⟨ob_161, L_iconst dR_isIdeal_56 in_0 (L_callVI rfl cv_R_holds (As := [vA 172, vI x1, vA 178, vI 0]) rfl (tk9 83 rfl rfl) rfl (Nat.le_of_ble_eq_true rfl) dR_isIdeal_57 ⟨ob_161, Tri.mono q3 (fun r4 σ4 q4 => L_if_ne dR_isIdeal_60 (by decide) ⟨fun c5 => L_iinc dR_isIdeal_65 rfl (by decide) (L_goto dR_isIdeal_68 (by decide) (q4.1 c5)), fun c5 => L_iconst dR_isIdeal_63 in_0 (L_zreturn0 rfl dR_isIdeal_64 (q4.2 c5))⟩)⟩)⟩))⟩)))⟩⟩))⟩))))⟩)))⟩⟩)))⟩⟩))
theorem dR_isAbelianPart_0 : decode prog_14_method_107_code 0 = .ok (.aload_n 0, 1) := by decide +kernel
theorem dR_isAbelianPart_1 : decode prog_14_method_107_code 1 = .ok (.aload_n 0, 1) := by decide +kernel
theorem dR_isAbelianPart_2 : decode prog_14_method_107_code 2 = .ok (.getfield 53, 3) := by decide +kernel
theorem dR_isAbelianPart_5 : decode prog_14_method_107_code 5 = .ok (.iload_n 1, 1) := by decide +kernel
theorem dR_isAbelianPart_6 : decode prog_14_method_107_code 6 = .ok (.aload_n 0, 1) := by decide +kernel
theorem dR_isAbelianPart_7 : decode prog_14_method_107_code 7 = .ok (.getfield 53, 3) := by decide +kernel
theorem dR_isAbelianPart_10 : decode prog_14_method_107_code 10 = .ok (.iload_n 1, 1) := by decide +kernel
theorem dR_isAbelianPart_11 : decode prog_14_method_107_code 11 = .ok (.aload_n 0, 1) := by decide +kernel
theorem dR_isAbelianPart_12 : decode prog_14_method_107_code 12 = .ok (.getfield 50, 3) := by decide +kernel
theorem dR_isAbelianPart_15 : decode prog_14_method_107_code 15 = .ok (.invokevirtual 413, 3) := by decide +kernel
theorem dR_isAbelianPart_18 : decode prog_14_method_107_code 18 = .ok (.ifCond .ne 7, 3) := by decide +kernel
theorem dR_isAbelianPart_21 : decode prog_14_method_107_code 21 = .ok (.iconst 1, 1) := by decide +kernel
theorem dR_isAbelianPart_22 : decode prog_14_method_107_code 22 = .ok (.goto 4, 3) := by decide +kernel
theorem dR_isAbelianPart_25 : decode prog_14_method_107_code 25 = .ok (.iconst 0, 1) := by decide +kernel
theorem dR_isAbelianPart_26 : decode prog_14_method_107_code 26 = .ok (.ireturn, 1) := by decide +kernel
theorem t_R_isAbelianPart {d : Nat} {x1 : Int} {σ : SG} {Q : Int → SG → Prop} (h : inI x1 → (Tri d M_R_brackets [vA 161, vA 172, vI x1, vA 172, vI x1, vA 171] σ (fun r1 σ1 => (r1 ≠ 0 → Q 0 σ1) ∧ (r1 = 0 → Q 1 σ1)))) : Tri (d + 1) M_R_isAbelianPart [vA 161, vI x1] σ Q :=
  Tri_intro rfl (Nat.le_of_ble_eq_true rfl) (ls := [vA 161, vI x1]) rfl (fun hok => L_aload_n dR_isAbelianPart_0 rfl (L_aload_n dR_isAbelianPart_1 rfl (L_getF (b := 172) fw_R_53 rfl rfl (by decide) dR_isAbelianPart_2 ⟨ob_161, L_iload_n dR_isAbelianPart_5 rfl (L_aload_n dR_isAbelianPart_6 rfl (L_getF (b := 172) fw_R_53 rfl rfl (by decide) dR_isAbelianPart_7 ⟨ob_161, L_iload_n dR_isAbelianPart_10 rfl (L_aload_n dR_isAbelianPart_11 rfl (L_getF (b := 171) fw_R_50 rfl rfl (by decide) dR_isAbelianPart_12 ⟨ob_161, L_callVI rfl cv_R_brackets (As := [vA 172, vI x1, vA 172, vI x1, vA 171]) rfl (tk9 19 rfl rfl) rfl (Nat.le_of_ble_eq_true rfl) dR_isAbelianPart_15 ⟨ob_161, Tri.mono ((h (hok _ (List.mem_of_getElem? (i := 1) rfl)))) (fun r1 σ1 q1 => L_if_ne dR_isAbelianPart_18 (by decide) ⟨fun c2 => L_iconst dR_isAbelianPart_25 in_0 (L_zreturn0 rfl dR_isAbelianPart_26 (q1.1 c2)), fun c2 => L_iconst dR_isAbelianPart_21 in_1 (L_goto dR_isAbelianPart_22 (by decide) (L_zreturn1 rfl dR_isAbelianPart_26 (q1.2 c2)))⟩)⟩⟩))⟩))⟩)))
theorem dR_endsIn0_0 : decode prog_14_method_108_code 0 = .ok (.aload_n 0, 1) := by decide +kernel
theorem dR_endsIn0_1 : decode prog_14_method_108_code 1 = .ok (.aload_n 0, 1) := by decide +kernel
theorem dR_endsIn0_2 : decode prog_14_method_108_code 2 = .ok (.getfield 53, 3) := by decide +kernel
theorem dR_endsIn0_5 : decode prog_14_method_108_code 5 = .ok (.aload_n 0, 1) := by decide +kernel
theorem dR_endsIn0_6 : decode prog_14_method_108_code 6 = .ok (.getfield 47, 3) := by decide +kernel
theorem dR_endsIn0_9 : decode prog_14_method_108_code 9 = .ok (.invokevirtual 394, 3) := by decide +kernel
theorem dR_endsIn0_12 : decode prog_14_method_108_code 12 = .ok (.iload_n 1, 1) := by decide +kernel
theorem dR_endsIn0_13 : decode prog_14_method_108_code 13 = .ok (.istore_n 3, 1) := by decide +kernel
theorem dR_endsIn0_14 : decode prog_14_method_108_code 14 = .ok (.iconst (-1), 1) := by decide +kernel
theorem dR_endsIn0_15 : decode prog_14_method_108_code 15 = .ok (.istore 4, 2) := by decide +kernel
theorem dR_endsIn0_17 : decode prog_14_method_108_code 17 = .ok (.iload_n 3, 1) := by decide +kernel
theorem dR_endsIn0_18 : decode prog_14_method_108_code 18 = .ok (.ifCond .le 87, 3) := by decide +kernel
theorem dR_endsIn0_21 : decode prog_14_method_108_code 21 = .ok (.iload_n 3, 1) := by decide +kernel
theorem dR_endsIn0_22 : decode prog_14_method_108_code 22 = .ok (.iload 4, 2) := by decide +kernel
theorem dR_endsIn0_24 : decode prog_14_method_108_code 24 = .ok (.if_icmp .eq 81, 3) := by decide +kernel
theorem dR_endsIn0_27 : decode prog_14_method_108_code 27 = .ok (.iload_n 3, 1) := by decide +kernel
theorem dR_endsIn0_28 : decode prog_14_method_108_code 28 = .ok (.istore 4, 2) := by decide +kernel
theorem dR_endsIn0_30 : decode prog_14_method_108_code 30 = .ok (.iload_n 2, 1) := by decide +kernel
theorem dR_endsIn0_31 : decode prog_14_method_108_code 31 = .ok (.ifCond .eq 26, 3) := by decide +kernel
theorem dR_endsIn0_34 : decode prog_14_method_108_code 34 = .ok (.aload_n 0, 1) := by decide +kernel
theorem dR_endsIn0_35 : decode prog_14_method_108_code 35 = .ok (.aload_n 0, 1) := by decide +kernel
theorem dR_endsIn0_36 : decode prog_14_method_108_code 36 = .ok (.getfield 47, 3) := by decide +kernel
theorem dR_endsIn0_39 : decode prog_14_method_108_code 39 = .ok (.iload 4, 2) := by decide +kernel
theorem dR_endsIn0_41 : decode prog_14_method_108_code 41 = .ok (.aload_n 0, 1) := by decide +kernel
theorem dR_endsIn0_42 : decode prog_14_method_108_code 42 = .ok (.getfield 53, 3) := by decide +kernel
theorem dR_endsIn0_45 : decode prog_14_method_108_code 45 = .ok (.iload_n 1, 1) := by decide +kernel
theorem dR_endsIn0_46 : decode prog_14_method_108_code 46 = .ok (.aload_n 0, 1) := by decide +kernel
theorem dR_endsIn0_47 : decode prog_14_method_108_code 47 = .ok (.getfield 50, 3) := by decide +kernel
theorem dR_endsIn0_50 : decode prog_14_method_108_code 50 = .ok (.invokevirtual 413, 3) := by decide +kernel
theorem dR_endsIn0_53 : decode prog_14_method_108_code 53 = .ok (.istore_n 3, 1) := by decide +kernel
theorem dR_endsIn0_54 : decode prog_14_method_108_code 54 = .ok (.goto 36, 3) := by decide +kernel
theorem dR_endsIn0_57 : decode prog_14_method_108_code 57 = .ok (.aload_n 0, 1) := by decide +kernel
theorem dR_endsIn0_58 : decode prog_14_method_108_code 58 = .ok (.aload_n 0, 1) := by decide +kernel
theorem dR_endsIn0_59 : decode prog_14_method_108_code 59 = .ok (.getfield 47, 3) := by decide +kernel
theorem dR_endsIn0_62 : decode prog_14_method_108_code 62 = .ok (.aload_n 0, 1) := by decide +kernel
theorem dR_endsIn0_63 : decode prog_14_method_108_code 63 = .ok (.getfield 59, 3) := by decide +kernel
theorem dR_endsIn0_66 : decode prog_14_method_108_code 66 = .ok (.invokevirtual 394, 3) := by decide +kernel
theorem dR_endsIn0_69 : decode prog_14_method_108_code 69 = .ok (.aload_n 0, 1) := by decide +kernel
theorem dR_endsIn0_70 : decode prog_14_method_108_code 70 = .ok (.aload_n 0, 1) := by decide +kernel
theorem dR_endsIn0_71 : decode prog_14_method_108_code 71 = .ok (.getfield 47, 3) := by decide +kernel
theorem dR_endsIn0_74 : decode prog_14_method_108_code 74 = .ok (.iload 4, 2) := by decide +kernel
theorem dR_endsIn0_76 : decode prog_14_method_108_code 76 = .ok (.aload_n 0, 1) := by decide +kernel
theorem dR_endsIn0_77 : decode prog_14_method_108_code 77 = .ok (.getfield 59, 3) := by decide +kernel
theorem dR_endsIn0_80 : decode prog_14_method_108_code 80 = .ok (.iload 4, 2) := by decide +kernel
theorem dR_endsIn0_82 : decode prog_14_method_108_code 82 = .ok (.aload_n 0, 1) := by decide +kernel
theorem dR_endsIn0_83 : decode prog_14_method_108_code 83 = .ok (.getfield 50, 3) := by decide +kernel
theorem dR_endsIn0_86 : decode prog_14_method_108_code 86 = .ok (.invokevirtual 413, 3) := by decide +kernel
theorem dR_endsIn0_89 : decode prog_14_method_108_code 89 = .ok (.istore_n 3, 1) := by decide +kernel
theorem dR_endsIn0_90 : decode prog_14_method_108_code 90 = .ok (.aload_n 0, 1) := by decide +kernel
theorem dR_endsIn0_91 : decode prog_14_method_108_code 91 = .ok (.aload_n 0, 1) := by decide +kernel
theorem dR_endsIn0_92 : decode prog_14_method_108_code 92 = .ok (.getfield 50, 3) := by decide +kernel
theorem dR_endsIn0_95 : decode prog_14_method_108_code 95 = .ok (.aload_n 0, 1) := by decide +kernel
theorem dR_endsIn0_96 : decode prog_14_method_108_code 96 = .ok (.getfield 47, 3) := by decide +kernel
theorem dR_endsIn0_99 : decode prog_14_method_108_code 99 = .ok (.invokevirtual 394, 3) := by decide +kernel
theorem dR_endsIn0_102 : decode prog_14_method_108_code 102 = .ok (.goto (-85), 3) := by decide +kernel
theorem dR_endsIn0_105 : decode prog_14_method_108_code 105 = .ok (.iload_n 3, 1) := by decide +kernel
theorem dR_endsIn0_106 : decode prog_14_method_108_code 106 = .ok (.ifCond .ne 7, 3) := by decide +kernel
theorem dR_endsIn0_109 : decode prog_14_method_108_code 109 = .ok (.iconst 1, 1) := by decide +kernel
theorem dR_endsIn0_110 : decode prog_14_method_108_code 110 = .ok (.goto 4, 3) := by decide +kernel
theorem dR_endsIn0_113 : decode prog_14_method_108_code 113 = .ok (.iconst 0, 1) := by decide +kernel
theorem dR_endsIn0_114 : decode prog_14_method_108_code 114 = .ok (.ireturn, 1) := by decide +kernel
theorem t_R_endsIn0 {d : Nat} {x1 x2 : Int} {σ : SG} {Q : Int → SG → Prop} (h : inI x1 → inI x2 → (Tri d M_R_copySpan [vA 161, vA 172, vA 170] σ (fun r1 σ1 => L (d + 1) M_R_endsIn0 17 [vA 161, vI x1, vI x2, vI x1, vI (-1)] [] σ1 Q))) : Tri (d + 1) M_R_endsIn0 [vA 161, vI x1, vI x2] σ Q :=
  Tri_intro rfl (Nat.le_of_ble_eq_true rfl) (ls := [vA 161, vI x1, vI x2, vU, vU]) rfl (fun hok => L_aload_n dR_endsIn0_0 rfl (L_aload_n dR_endsIn0_1 rfl (L_getF (b := 172) fw_R_53 rfl rfl (by decide) dR_endsIn0_2 ⟨ob_161, L_aload_n dR_endsIn0_5 rfl (L_getF (b := 170) fw_R_47 rfl rfl (by decide) dR_endsIn0_6 ⟨ob_161, L_callVV rfl cv_R_copySpan (As := [vA 172, vA 170]) rfl (tk9 2 rfl rfl) rfl (Nat.le_of_ble_eq_true rfl) dR_endsIn0_9 ⟨ob_161, Tri.mono ((h (hok _ (List.mem_of_getElem? (i := 1) rfl)) (hok _ (List.mem_of_getElem? (i := 2) rfl)))) (fun r1 σ1 q1 => L_iload_n dR_endsIn0_12 rfl (L_istore_n dR_endsIn0_13 (by decide) (L_iconst dR_endsIn0_14 in_m1 (L_istore dR_endsIn0_15 (by decide) q1))))⟩⟩)⟩)))
theorem s_R_endsIn0_17 {d : Nat} {x1 x2 x3 x4 : Int} {σ : SG} {Q : Int → SG → Prop} (h : (x3 ≤ 0 → (x3 ≠ 0 → Q 0 σ) ∧ (x3 = 0 → Q 1 σ)) ∧ (0 < x3 → (x3 = x4 → (x3 ≠ 0 → Q 0 σ) ∧ (x3 = 0 → Q 1 σ)) ∧ (x3 ≠ x4 → (x2 = 0 → Tri d M_R_copySpan [vA 161, vA 170, vA 174] σ (fun r6 σ6 => Tri d M_R_brackets [vA 161, vA 170, vI x3, vA 174, vI x3, vA 171] σ6 (fun r7 σ7 => Tri d M_R_copySpan [vA 161, vA 171, vA 170] σ7 (fun r8 σ8 => L (d + 1) M_R_endsIn0 17 [vA 161, vI x1, vI x2, vI r7, vI x3] [] σ8 Q)))) ∧ (x2 ≠ 0 → Tri d M_R_brackets [vA 161, vA 170, vI x3, vA 172, vI x1, vA 171] σ (fun r9 σ9 => Tri d M_R_copySpan [vA 161, vA 171, vA 170] σ9 (fun r10 σ10 => L (d + 1) M_R_endsIn0 17 [vA 161, vI x1, vI x2, vI r9, vI x3] [] σ10 Q)))))) : L (d + 1) M_R_endsIn0 17 [vA 161, vI x1, vI x2, vI x3, vI x4] [] σ Q :=
  L_iload_n dR_endsIn0_17 rfl (L_if_le dR_endsIn0_18 (by decide) ⟨fun c1 => L_iload_n dR_endsIn0_105 rfl (L_if_ne dR_endsIn0_106 (by decide) ⟨fun c2 => L_iconst dR_endsIn0_113 in_0 (L_zreturn0 rfl dR_endsIn0_114 ((h.1 c1).1 c2)), fun c2 => L_iconst dR_endsIn0_109 in_1 (L_goto dR_endsIn0_110 (by decide) (L_zreturn1 rfl dR_endsIn0_114 ((h.1 c1).2 c2)))⟩), fun c1 => L_iload_n dR_endsIn0_21 rfl (L_iload dR_endsIn0_22 rfl (L_icmp_eq dR_endsIn0_24 (by decide) ⟨fun c3 => L_iload_n dR_endsIn0_105 rfl (L_if_ne dR_endsIn0_106 (by decide) ⟨fun c4 => L_iconst dR_endsIn0_113 in_0 (L_zreturn0 rfl dR_endsIn0_114 (((h.2 c1).1 c3).1 c4)), fun c4 => L_iconst dR_endsIn0_109 in_1 (L_goto dR_endsIn0_110 (by decide) (L_zreturn1 rfl dR_endsIn0_114 (((h.2 c1).1 c3).2 c4)))⟩), fun c3 => L_iload_n dR_endsIn0_27 rfl (L_istore dR_endsIn0_28 (by decide) (L_iload_n dR_endsIn0_30 rfl (L_if_eq dR_endsIn0_31 (by decide) ⟨fun c5 => L_aload_n dR_endsIn0_57 rfl (L_aload_n dR_endsIn0_58 rfl (L_getF (b := 170) fw_R_47 rfl rfl (by decide) dR_endsIn0_59 ⟨ob_161, L_aload_n dR_endsIn0_62 rfl (L_getF (b := 174) fw_R_59 rfl rfl (by decide) dR_endsIn0_63 ⟨ob_161, L_callVV rfl cv_R_copySpan (As := [vA 170, vA 174]) rfl (tk9 2 rfl rfl) rfl (Nat.le_of_ble_eq_true rfl) dR_endsIn0_66 ⟨ob_161, Tri.mono (((h.2 c1).2 c3).1 c5) (fun r6 σ6 q6 => L_aload_n dR_endsIn0_69 rfl (L_aload_n dR_endsIn0_70 rfl (L_getF (b := 170) fw_R_47 rfl rfl (by decide) dR_endsIn0_71 ⟨ob_161, L_iload dR_endsIn0_74 rfl (L_aload_n dR_endsIn0_76 rfl (L_getF (b := 174) fw_R_59 rfl rfl (by decide) dR_endsIn0_77 ⟨ob_161, L_iload dR_endsIn0_80 rfl (L_aload_n dR_endsIn0_82 rfl (L_getF (b := 171) fw_R_50 rfl rfl (by decide) dR_endsIn0_83 ⟨ob_161, L_callVI rfl cv_R_brackets (As := [vA 170, vI x3, vA 174, vI x3, vA 171]) rfl (tk9 19 rfl rfl) rfl (Nat.le_of_ble_eq_true rfl) dR_endsIn0_86 ⟨ob_161, Tri.mono q6 (fun r7 σ7 q7 => L_istore_n dR_endsIn0_89 (by decide) (L_aload_n dR_endsIn0_90 rfl (L_aload_n dR_endsIn0_91 rfl (L_getF (b := 171) fw_R_50 rfl rfl (by decide) dR_endsIn0_92 ⟨ob_161, L_aload_n dR_endsIn0_95 rfl (L_getF (b := 170) fw_R_47 rfl rfl (by decide) dR_endsIn0_96 ⟨ob_161, L_callVV rfl cv_R_copySpan (As := [vA 171, vA 170]) rfl (tk9 2 rfl rfl) rfl (Nat.le_of_ble_eq_true rfl) dR_endsIn0_99 ⟨ob_161, Tri.mono q7 (fun r8 σ8 q8 => L_goto dR_endsIn0_102 (by decide) q8)⟩⟩)⟩))))⟩⟩))⟩))⟩)))⟩⟩)⟩)), fun c5 => L_aload_n dR_endsIn0_34 rfl (L_aload_n dR_endsIn0_35 rfl (L_getF (b := 170) fw_R_47 rfl rfl (by decide) dR_endsIn0_36 ⟨ob_161, L_iload dR_endsIn0_39 rfl (L_aload_n dR_endsIn0_41 rfl (L_getF (b := 172) fw_R_53 rfl rfl (by decide) dR_endsIn0_42 ⟨ob_161, L_iload_n dR_endsIn0_45 rfl (L_aload_n dR_endsIn0_46 rfl (L_getF (b := 171) fw_R_50 rfl rfl (by decide) dR_endsIn0_47 ⟨ob_161, L_callVI rfl cv_R_brackets (As := [vA 170, vI x3, vA 172, vI x1, vA 171]) rfl (tk9 19 rfl rfl) rfl (Nat.le_of_ble_eq_true rfl) dR_endsIn0_50 ⟨ob_161, Tri.mono (((h.2 c1).2 c3).2 c5) (fun r9 σ9 q9 => L_istore_n dR_endsIn0_53 (by decide) (L_goto dR_endsIn0_54 (by decide) (L_aload_n dR_endsIn0_90 rfl (L_aload_n dR_endsIn0_91 rfl (L_getF (b := 171) fw_R_50 rfl rfl (by decide) dR_endsIn0_92 ⟨ob_161, L_aload_n dR_endsIn0_95 rfl (L_getF (b := 170) fw_R_47 rfl rfl (by decide) dR_endsIn0_96 ⟨ob_161, L_callVV rfl cv_R_copySpan (As := [vA 171, vA 170]) rfl (tk9 2 rfl rfl) rfl (Nat.le_of_ble_eq_true rfl) dR_endsIn0_99 ⟨ob_161, Tri.mono q9 (fun r10 σ10 q10 => L_goto dR_endsIn0_102 (by decide) q10)⟩⟩)⟩)))))⟩⟩))⟩))⟩))⟩)))⟩))⟩)
theorem dR_normalizerSize_0 : decode prog_14_method_109_code 0 = .ok (.aload_n 0, 1) := by decide +kernel
theorem dR_normalizerSize_1 : decode prog_14_method_109_code 1 = .ok (.invokevirtual 430, 3) := by decide +kernel
theorem dR_normalizerSize_4 : decode prog_14_method_109_code 4 = .ok (.iconst 0, 1) := by decide +kernel
theorem dR_normalizerSize_5 : decode prog_14_method_109_code 5 = .ok (.istore_n 2, 1) := by decide +kernel
theorem dR_normalizerSize_6 : decode prog_14_method_109_code 6 = .ok (.iload_n 2, 1) := by decide +kernel
theorem dR_normalizerSize_7 : decode prog_14_method_109_code 7 = .ok (.iload_n 1, 1) := by decide +kernel
theorem dR_normalizerSize_8 : decode prog_14_method_109_code 8 = .ok (.if_icmp .ge 164, 3) := by decide +kernel
theorem dR_normalizerSize_11 : decode prog_14_method_109_code 11 = .ok (.iconst 0, 1) := by decide +kernel
theorem dR_normalizerSize_12 : decode prog_14_method_109_code 12 = .ok (.istore_n 3, 1) := by decide +kernel
theorem dR_normalizerSize_13 : decode prog_14_method_109_code 13 = .ok (.iload_n 3, 1) := by decide +kernel
theorem dR_normalizerSize_14 : decode prog_14_method_109_code 14 = .ok (.aload_n 0, 1) := by decide +kernel
theorem dR_normalizerSize_15 : decode prog_14_method_109_code 15 = .ok (.getfield 253, 3) := by decide +kernel
theorem dR_normalizerSize_18 : decode prog_14_method_109_code 18 = .ok (.if_icmp .ge 88, 3) := by decide +kernel
theorem dR_normalizerSize_21 : decode prog_14_method_109_code 21 = .ok (.aload_n 0, 1) := by decide +kernel
theorem dR_normalizerSize_22 : decode prog_14_method_109_code 22 = .ok (.iload_n 3, 1) := by decide +kernel
theorem dR_normalizerSize_23 : decode prog_14_method_109_code 23 = .ok (.aload_n 0, 1) := by decide +kernel
theorem dR_normalizerSize_24 : decode prog_14_method_109_code 24 = .ok (.getfield 62, 3) := by decide +kernel
theorem dR_normalizerSize_27 : decode prog_14_method_109_code 27 = .ok (.invokevirtual 367, 3) := by decide +kernel
theorem dR_normalizerSize_30 : decode prog_14_method_109_code 30 = .ok (.aload_n 0, 1) := by decide +kernel
theorem dR_normalizerSize_31 : decode prog_14_method_109_code 31 = .ok (.aload_n 0, 1) := by decide +kernel
theorem dR_normalizerSize_32 : decode prog_14_method_109_code 32 = .ok (.getfield 62, 3) := by decide +kernel
theorem dR_normalizerSize_35 : decode prog_14_method_109_code 35 = .ok (.iconst 0, 1) := by decide +kernel
theorem dR_normalizerSize_36 : decode prog_14_method_109_code 36 = .ok (.aload_n 0, 1) := by decide +kernel
theorem dR_normalizerSize_37 : decode prog_14_method_109_code 37 = .ok (.getfield 53, 3) := by decide +kernel
theorem dR_normalizerSize_40 : decode prog_14_method_109_code 40 = .ok (.iconst 5, 1) := by decide +kernel
theorem dR_normalizerSize_41 : decode prog_14_method_109_code 41 = .ok (.iload_n 2, 1) := by decide +kernel
theorem dR_normalizerSize_42 : decode prog_14_method_109_code 42 = .ok (.imul, 1) := by decide +kernel
theorem dR_normalizerSize_43 : decode prog_14_method_109_code 43 = .ok (.aload_n 0, 1) := by decide +kernel
theorem dR_normalizerSize_44 : decode prog_14_method_109_code 44 = .ok (.getfield 71, 3) := by decide +kernel
theorem dR_normalizerSize_47 : decode prog_14_method_109_code 47 = .ok (.invokevirtual 340, 3) := by decide +kernel
theorem dR_normalizerSize_50 : decode prog_14_method_109_code 50 = .ok (.aload_n 0, 1) := by decide +kernel
theorem dR_normalizerSize_51 : decode prog_14_method_109_code 51 = .ok (.aload_n 0, 1) := by decide +kernel
theorem dR_normalizerSize_52 : decode prog_14_method_109_code 52 = .ok (.getfield 53, 3) := by decide +kernel
theorem dR_normalizerSize_55 : decode prog_14_method_109_code 55 = .ok (.iload_n 1, 1) := by decide +kernel
theorem dR_normalizerSize_56 : decode prog_14_method_109_code 56 = .ok (.aload_n 0, 1) := by decide +kernel
theorem dR_normalizerSize_57 : decode prog_14_method_109_code 57 = .ok (.getfield 71, 3) := by decide +kernel
theorem dR_normalizerSize_60 : decode prog_14_method_109_code 60 = .ok (.iconst 0, 1) := by decide +kernel
theorem dR_normalizerSize_61 : decode prog_14_method_109_code 61 = .ok (.invokevirtual 334, 3) := by decide +kernel
theorem dR_normalizerSize_64 : decode prog_14_method_109_code 64 = .ok (.iconst 0, 1) := by decide +kernel
theorem dR_normalizerSize_65 : decode prog_14_method_109_code 65 = .ok (.istore 4, 2) := by decide +kernel
theorem dR_normalizerSize_67 : decode prog_14_method_109_code 67 = .ok (.iload 4, 2) := by decide +kernel
theorem dR_normalizerSize_69 : decode prog_14_method_109_code 69 = .ok (.aload_n 0, 1) := by decide +kernel
theorem dR_normalizerSize_70 : decode prog_14_method_109_code 70 = .ok (.getfield 253, 3) := by decide +kernel
theorem dR_normalizerSize_73 : decode prog_14_method_109_code 73 = .ok (.if_icmp .ge 27, 3) := by decide +kernel
theorem dR_normalizerSize_76 : decode prog_14_method_109_code 76 = .ok (.aload_n 0, 1) := by decide +kernel
theorem dR_normalizerSize_77 : decode prog_14_method_109_code 77 = .ok (.getfield 56, 3) := by decide +kernel
theorem dR_normalizerSize_80 : decode prog_14_method_109_code 80 = .ok (.iconst 5, 1) := by decide +kernel
theorem dR_normalizerSize_81 : decode prog_14_method_109_code 81 = .ok (.iload_n 3, 1) := by decide +kernel
theorem dR_normalizerSize_82 : decode prog_14_method_109_code 82 = .ok (.imul, 1) := by decide +kernel
theorem dR_normalizerSize_83 : decode prog_14_method_109_code 83 = .ok (.iload 4, 2) := by decide +kernel
theorem dR_normalizerSize_85 : decode prog_14_method_109_code 85 = .ok (.iadd, 1) := by decide +kernel
theorem dR_normalizerSize_86 : decode prog_14_method_109_code 86 = .ok (.aload_n 0, 1) := by decide +kernel
theorem dR_normalizerSize_87 : decode prog_14_method_109_code 87 = .ok (.getfield 95, 3) := by decide +kernel
theorem dR_normalizerSize_90 : decode prog_14_method_109_code 90 = .ok (.iload 4, 2) := by decide +kernel
theorem dR_normalizerSize_92 : decode prog_14_method_109_code 92 = .ok (.iaload, 1) := by decide +kernel
theorem dR_normalizerSize_93 : decode prog_14_method_109_code 93 = .ok (.iastore, 1) := by decide +kernel
theorem dR_normalizerSize_94 : decode prog_14_method_109_code 94 = .ok (.iinc 4 1, 3) := by decide +kernel
theorem dR_normalizerSize_97 : decode prog_14_method_109_code 97 = .ok (.goto (-30), 3) := by decide +kernel
theorem dR_normalizerSize_100 : decode prog_14_method_109_code 100 = .ok (.iinc 3 1, 3) := by decide +kernel
theorem dR_normalizerSize_103 : decode prog_14_method_109_code 103 = .ok (.goto (-90), 3) := by decide +kernel
theorem dR_normalizerSize_106 : decode prog_14_method_109_code 106 = .ok (.iconst 0, 1) := by decide +kernel
theorem dR_normalizerSize_107 : decode prog_14_method_109_code 107 = .ok (.istore_n 3, 1) := by decide +kernel
theorem dR_normalizerSize_108 : decode prog_14_method_109_code 108 = .ok (.iload_n 3, 1) := by decide +kernel
theorem dR_normalizerSize_109 : decode prog_14_method_109_code 109 = .ok (.aload_n 0, 1) := by decide +kernel
theorem dR_normalizerSize_110 : decode prog_14_method_109_code 110 = .ok (.getfield 253, 3) := by decide +kernel
theorem dR_normalizerSize_113 : decode prog_14_method_109_code 113 = .ok (.if_icmp .ge 53, 3) := by decide +kernel
theorem dR_normalizerSize_116 : decode prog_14_method_109_code 116 = .ok (.iconst 0, 1) := by decide +kernel
theorem dR_normalizerSize_117 : decode prog_14_method_109_code 117 = .ok (.istore 4, 2) := by decide +kernel
theorem dR_normalizerSize_119 : decode prog_14_method_109_code 119 = .ok (.iload 4, 2) := by decide +kernel
theorem dR_normalizerSize_121 : decode prog_14_method_109_code 121 = .ok (.aload_n 0, 1) := by decide +kernel
theorem dR_normalizerSize_122 : decode prog_14_method_109_code 122 = .ok (.getfield 253, 3) := by decide +kernel
theorem dR_normalizerSize_125 : decode prog_14_method_109_code 125 = .ok (.if_icmp .ge 27, 3) := by decide +kernel
theorem dR_normalizerSize_128 : decode prog_14_method_109_code 128 = .ok (.aload_n 0, 1) := by decide +kernel
theorem dR_normalizerSize_129 : decode prog_14_method_109_code 129 = .ok (.getfield 77, 3) := by decide +kernel
theorem dR_normalizerSize_132 : decode prog_14_method_109_code 132 = .ok (.iload 4, 2) := by decide +kernel
theorem dR_normalizerSize_134 : decode prog_14_method_109_code 134 = .ok (.aload_n 0, 1) := by decide +kernel
theorem dR_normalizerSize_135 : decode prog_14_method_109_code 135 = .ok (.getfield 56, 3) := by decide +kernel
theorem dR_normalizerSize_138 : decode prog_14_method_109_code 138 = .ok (.iconst 5, 1) := by decide +kernel
theorem dR_normalizerSize_139 : decode prog_14_method_109_code 139 = .ok (.iload 4, 2) := by decide +kernel
theorem dR_normalizerSize_141 : decode prog_14_method_109_code 141 = .ok (.imul, 1) := by decide +kernel
theorem dR_normalizerSize_142 : decode prog_14_method_109_code 142 = .ok (.iload_n 3, 1) := by decide +kernel
theorem dR_normalizerSize_143 : decode prog_14_method_109_code 143 = .ok (.iadd, 1) := by decide +kernel
theorem dR_normalizerSize_144 : decode prog_14_method_109_code 144 = .ok (.iaload, 1) := by decide +kernel
theorem dR_normalizerSize_145 : decode prog_14_method_109_code 145 = .ok (.iastore, 1) := by decide +kernel
theorem dR_normalizerSize_146 : decode prog_14_method_109_code 146 = .ok (.iinc 4 1, 3) := by decide +kernel
theorem dR_normalizerSize_149 : decode prog_14_method_109_code 149 = .ok (.goto (-30), 3) := by decide +kernel
theorem dR_normalizerSize_152 : decode prog_14_method_109_code 152 = .ok (.aload_n 0, 1) := by decide +kernel
theorem dR_normalizerSize_153 : decode prog_14_method_109_code 153 = .ok (.aload_n 0, 1) := by decide +kernel
theorem dR_normalizerSize_154 : decode prog_14_method_109_code 154 = .ok (.getfield 253, 3) := by decide +kernel
theorem dR_normalizerSize_157 : decode prog_14_method_109_code 157 = .ok (.invokevirtual 433, 3) := by decide +kernel
theorem dR_normalizerSize_160 : decode prog_14_method_109_code 160 = .ok (.iinc 3 1, 3) := by decide +kernel
theorem dR_normalizerSize_163 : decode prog_14_method_109_code 163 = .ok (.goto (-55), 3) := by decide +kernel
theorem dR_normalizerSize_166 : decode prog_14_method_109_code 166 = .ok (.iinc 2 1, 3) := by decide +kernel
theorem dR_normalizerSize_169 : decode prog_14_method_109_code 169 = .ok (.goto (-163), 3) := by decide +kernel
theorem dR_normalizerSize_172 : decode prog_14_method_109_code 172 = .ok (.aload_n 0, 1) := by decide +kernel
theorem dR_normalizerSize_173 : decode prog_14_method_109_code 173 = .ok (.getfield 253, 3) := by decide +kernel
theorem dR_normalizerSize_176 : decode prog_14_method_109_code 176 = .ok (.aload_n 0, 1) := by decide +kernel
theorem dR_normalizerSize_177 : decode prog_14_method_109_code 177 = .ok (.getfield 423, 3) := by decide +kernel
theorem dR_normalizerSize_180 : decode prog_14_method_109_code 180 = .ok (.isub, 1) := by decide +kernel
theorem dR_normalizerSize_181 : decode prog_14_method_109_code 181 = .ok (.ireturn, 1) := by decide +kernel
theorem t_R_normalizerSize {d : Nat} {x1 : Int} {σ : SG} {Q : Int → SG → Prop} (h : inI x1 → (Tri d M_R_noRows [vA 161] σ (fun r1 σ1 => L (d + 1) M_R_normalizerSize 6 [vA 161, vI x1, vI 0, vU, vU] [] σ1 Q))) : Tri (d + 1) M_R_normalizerSize [vA 161, vI x1] σ Q :=
  Tri_intro rfl (Nat.le_of_ble_eq_true rfl) (ls := [vA 161, vI x1, vU, vU, vU]) rfl (fun hok => L_aload_n dR_normalizerSize_0 rfl (L_callVV rfl cv_R_noRows (As := []) rfl (tk9 35 rfl rfl) rfl (Nat.le_of_ble_eq_true rfl) dR_normalizerSize_1 ⟨ob_161, Tri.mono ((h (hok _ (List.mem_of_getElem? (i := 1) rfl)))) (fun r1 σ1 q1 => L_iconst dR_normalizerSize_4 in_0 (L_istore_n dR_normalizerSize_5 (by decide) q1))⟩))
theorem s_R_normalizerSize_6 {d : Nat} {x1 x2 : Int} {σ : SG} {Q : Int → SG → Prop} (h : (x1 ≤ x2 → Q (w32 ((σ 161 27) - (σ 161 39))) σ) ∧ (x2 < x1 → L (d + 1) M_R_normalizerSize 13 [vA 161, vI x1, vI x2, vI 0, vU] [] σ Q)) : L (d + 1) M_R_normalizerSize 6 [vA 161, vI x1, vI x2, vU, vU] [] σ Q :=
  L_iload_n dR_normalizerSize_6 rfl (L_iload_n dR_normalizerSize_7 rfl (L_icmp_ge dR_normalizerSize_8 (by decide) ⟨fun c1 => L_aload_n dR_normalizerSize_172 rfl (L_getf fw_R_253 rfl dR_normalizerSize_173 ⟨ob_161, L_aload_n dR_normalizerSize_176 rfl (L_getf fw_R_423 rfl dR_normalizerSize_177 ⟨ob_161, L_isub dR_normalizerSize_180 (L_ireturn rfl dR_normalizerSize_181 (h.1 c1))⟩)⟩), fun c1 => L_iconst dR_normalizerSize_11 in_0 (L_istore_n dR_normalizerSize_12 (by decide) (h.2 c1))⟩))
theorem s_R_normalizerSize_13 {d : Nat} {x1 x2 x3 : Int} {σ : SG} {Q : Int → SG → Prop} (h : (σ 161 27 ≤ x3 → L (d + 1) M_R_normalizerSize 108 [vA 161, vI x1, vI x2, vI 0, vU] [] σ Q) ∧ (x3 < σ 161 27 → Tri d M_R_unit [vA 161, vI x3, vA 175] σ (fun r2 σ2 => Tri d M_R_bracketOf [vA 161, vA 175, vI 0, vA 172, vI (w32 (5 * x2)), vA 178] σ2 (fun r3 σ3 => Tri d M_R_reduce [vA 161, vA 172, vI x1, vA 178, vI 0] σ3 (fun r4 σ4 => L (d + 1) M_R_normalizerSize 67 [vA 161, vI x1, vI x2, vI x3, vI 0] [] σ4 Q))))) : L (d + 1) M_R_normalizerSize 13 [vA 161, vI x1, vI x2, vI x3, vU] [] σ Q :=
  L_iload_n dR_normalizerSize_13 rfl (L_aload_n dR_normalizerSize_14 rfl (L_getf fw_R_253 rfl dR_normalizerSize_15 ⟨ob_161, L_icmp_ge dR_normalizerSize_18 (by decide) ⟨fun c1 => L_iconst dR_normalizerSize_106 in_0 (L_istore_n dR_normalizerSize_107 (by decide) (h.1 c1)), fun c1 => L_aload_n dR_normalizerSize_21 rfl (L_iload_n dR_normalizerSize_22 rfl (L_aload_n dR_normalizerSize_23 rfl (L_getF (b := 175) fw_R_62 rfl rfl (by decide) dR_normalizerSize_24 ⟨ob_161, L_callVV rfl cv_R_unit (As := [vI x3, vA 175]) rfl (tk8 181 rfl rfl) rfl (Nat.le_of_ble_eq_true rfl) dR_normalizerSize_27 ⟨ob_161, Tri.mono (h.2 c1) (fun r2 σ2 q2 => L_aload_n dR_normalizerSize_30 rfl (L_aload_n dR_normalizerSize_31 rfl (L_getF (b := 175) fw_R_62 rfl rfl (by decide) dR_normalizerSize_32 ⟨ob_161, L_iconst dR_normalizerSize_35 in_0 (L_aload_n dR_normalizerSize_36 rfl (L_getF (b := 172) fw_R_53 rfl rfl (by decide) dR_normalizerSize_37 ⟨ob_161, L_iconst dR_normalizerSize_40 in_5 (L_iload_n dR_normalizerSize_41 rfl (L_imul dR_normalizerSize_42 (L_aload_n dR_normalizerSize_43 rfl (L_getF (b := 178) fw_R_71 rfl rfl (by decide) dR_normalizerSize_44 ⟨ob_161, L_callVV rfl cv_R_bracketOf (As := [vA 175, vI 0, vA 172, vI (w32 (5 * x2)), vA 178]) rfl (tk8 157 rfl rfl) rfl (Nat.le_of_ble_eq_true rfl) dR_normalizerSize_47 ⟨ob_161, Tri.mono q2 (fun r3 σ3 q3 => L_aload_n dR_normalizerSize_50 rfl (L_aload_n dR_normalizerSize_51 rfl (L_getF (b := 172) fw_R_53 rfl rfl (by decide) dR_normalizerSize_52 ⟨ob_161, L_iload_n dR_normalizerSize_55 rfl (L_aload_n dR_normalizerSize_56 rfl (L_getF (b := 178) fw_R_71 rfl rfl (by decide) dR_normalizerSize_57 ⟨ob_161, L_iconst dR_normalizerSize_60 in_0 (L_callVV rfl cv_R_reduce (As := [vA 172, vI x1, vA 178, vI 0]) rfl (tk8 234 rfl rfl) rfl (Nat.le_of_ble_eq_true rfl) dR_normalizerSize_61 ⟨ob_161, Tri.mono q3 (fun r4 σ4 q4 => L_iconst dR_normalizerSize_64 in_0 (L_istore dR_normalizerSize_65 (by decide) q4))⟩)⟩))⟩)))⟩⟩))))⟩))⟩)))⟩⟩)))⟩⟩))
theorem s_R_normalizerSize_108 {d : Nat} {x1 x2 x3 : Int} {σ : SG} {Q : Int → SG → Prop} (h : (σ 161 27 ≤ x3 → L (d + 1) M_R_normalizerSize 6 [vA 161, vI x1, vI (w32 (x2 + 1)), vU, vU] [] σ Q) ∧ (x3 < σ 161 27 → L (d + 1) M_R_normalizerSize 119 [vA 161, vI x1, vI x2, vI x3, vI 0] [] σ Q)) : L (d + 1) M_R_normalizerSize 108 [vA 161, vI x1, vI x2, vI x3, vU] [] σ Q :=
  L_iload_n dR_normalizerSize_108 rfl (L_aload_n dR_normalizerSize_109 rfl (L_getf fw_R_253 rfl dR_normalizerSize_110 ⟨ob_161, L_icmp_ge dR_normalizerSize_113 (by decide) ⟨fun c1 => L_iinc dR_normalizerSize_166 rfl (by decide) (L_goto dR_normalizerSize_169 (by decide) (L_weak [true, true, true, false, true] (h.1 c1))), fun c1 => L_iconst dR_normalizerSize_116 in_0 (L_istore dR_normalizerSize_117 (by decide) (h.2 c1))⟩⟩))
theorem s_R_normalizerSize_67 {d : Nat} {x1 x2 x3 x4 : Int} {σ : SG} {Q : Int → SG → Prop} (h : (σ 161 27 ≤ x4 → L (d + 1) M_R_normalizerSize 13 [vA 161, vI x1, vI x2, vI (w32 (x3 + 1)), vU] [] σ Q) ∧ (x4 < σ 161 27 → (0 ≤ x4 ∧ x4 < 5) ∧ (0 ≤ w32 ((w32 (5 * x3)) + x4) ∧ w32 ((w32 (5 * x3)) + x4) < 25) ∧ (∀ σ2, σ2 = up σ 173 (w32 ((w32 (5 * x3)) + x4)) (σ 185 x4) → L (d + 1) M_R_normalizerSize 67 [vA 161, vI x1, vI x2, vI x3, vI (w32 (x4 + 1))] [] σ2 Q))) : L (d + 1) M_R_normalizerSize 67 [vA 161, vI x1, vI x2, vI x3, vI x4] [] σ Q :=
  L_iload dR_normalizerSize_67 rfl (L_aload_n dR_normalizerSize_69 rfl (L_getf fw_R_253 rfl dR_normalizerSize_70 ⟨ob_161, L_icmp_ge dR_normalizerSize_73 (by decide) ⟨fun c1 => L_iinc dR_normalizerSize_100 rfl (by decide) (L_goto dR_normalizerSize_103 (by decide) (L_weak [true, true, true, true, false] (h.1 c1))), fun c1 => L_aload_n dR_normalizerSize_76 rfl (L_getF (b := 173) fw_R_56 rfl rfl (by decide) dR_normalizerSize_77 ⟨ob_161, L_iconst dR_normalizerSize_80 in_5 (L_iload_n dR_normalizerSize_81 rfl (L_imul dR_normalizerSize_82 (L_iload dR_normalizerSize_83 rfl (L_iadd dR_normalizerSize_85 (L_aload_n dR_normalizerSize_86 rfl (L_getF (b := 185) fw_R_95 rfl rfl (by decide) dR_normalizerSize_87 ⟨ob_161, L_iload dR_normalizerSize_90 rfl (L_ialoadL kd_185 dR_normalizerSize_92 ⟨(h.2 c1).1, L_iastoreL (by decide) kd_173 dR_normalizerSize_93 ⟨(h.2 c1).2.1, fun σ2 e2 => L_iinc dR_normalizerSize_94 rfl (by decide) (L_goto dR_normalizerSize_97 (by decide) ((h.2 c1).2.2 σ2 e2))⟩⟩)⟩))))))⟩)⟩⟩))
theorem s_R_normalizerSize_119 {d : Nat} {x1 x2 x3 x4 : Int} {σ : SG} {Q : Int → SG → Prop} (h : (σ 161 27 ≤ x4 → Tri d M_R_addEquation [vA 161, vI (σ 161 27)] σ (fun r2 σ2 => L (d + 1) M_R_normalizerSize 108 [vA 161, vI x1, vI x2, vI (w32 (x3 + 1)), vU] [] σ2 Q)) ∧ (x4 < σ 161 27 → (0 ≤ w32 ((w32 (5 * x4)) + x3) ∧ w32 ((w32 (5 * x4)) + x3) < 25) ∧ (0 ≤ x4 ∧ x4 < 30) ∧ (∀ σ3, σ3 = up σ 180 x4 (σ 173 (w32 ((w32 (5 * x4)) + x3))) → L (d + 1) M_R_normalizerSize 119 [vA 161, vI x1, vI x2, vI x3, vI (w32 (x4 + 1))] [] σ3 Q))) : L (d + 1) M_R_normalizerSize 119 [vA 161, vI x1, vI x2, vI x3, vI x4] [] σ Q :=
  L_iload dR_normalizerSize_119 rfl (L_aload_n dR_normalizerSize_121 rfl (L_getf fw_R_253 rfl dR_normalizerSize_122 ⟨ob_161, L_icmp_ge dR_normalizerSize_125 (by decide) ⟨fun c1 => L_aload_n dR_normalizerSize_152 rfl (L_aload_n dR_normalizerSize_153 rfl (L_getf fw_R_253 rfl dR_normalizerSize_154 ⟨ob_161, L_callVV rfl cv_R_addEquation (As := [vI (σ 161 27)]) rfl (tk9 39 rfl rfl) rfl (Nat.le_of_ble_eq_true rfl) dR_normalizerSize_157 ⟨ob_161, Tri.mono (h.1 c1) (fun r2 σ2 q2 => L_iinc dR_normalizerSize_160 rfl (by decide) (L_goto dR_normalizerSize_163 (by decide) (L_weak [true, true, true, true, false] q2)))⟩⟩)), fun c1 => L_aload_n dR_normalizerSize_128 rfl (L_getF (b := 180) fw_R_77 rfl rfl (by decide) dR_normalizerSize_129 ⟨ob_161, L_iload dR_normalizerSize_132 rfl (L_aload_n dR_normalizerSize_134 rfl (L_getF (b := 173) fw_R_56 rfl rfl (by decide) dR_normalizerSize_135 ⟨ob_161, L_iconst dR_normalizerSize_138 in_5 (L_iload dR_normalizerSize_139 rfl (L_imul dR_normalizerSize_141 (L_iload_n dR_normalizerSize_142 rfl (L_iadd dR_normalizerSize_143 (L_ialoadL kd_173 dR_normalizerSize_144 ⟨(h.2 c1).1, L_iastoreL (by decide) kd_180 dR_normalizerSize_145 ⟨(h.2 c1).2.1, fun σ3 e3 => L_iinc dR_normalizerSize_146 rfl (by decide) (L_goto dR_normalizerSize_149 (by decide) ((h.2 c1).2.2 σ3 e3))⟩⟩)))))⟩))⟩)⟩⟩))
theorem dR_isSuch_0 : decode prog_14_method_110_code 0 = .ok (.iload_n 2, 1) := by decide +kernel
theorem dR_isSuch_1 : decode prog_14_method_110_code 1 = .ok (.iconst 1, 1) := by decide +kernel
theorem dR_isSuch_2 : decode prog_14_method_110_code 2 = .ok (.if_icmp .ne 9, 3) := by decide +kernel
theorem dR_isSuch_5 : decode prog_14_method_110_code 5 = .ok (.aload_n 0, 1) := by decide +kernel
theorem dR_isSuch_6 : decode prog_14_method_110_code 6 = .ok (.iload_n 1, 1) := by decide +kernel
theorem dR_isSuch_7 : decode prog_14_method_110_code 7 = .ok (.invokevirtual 452, 3) := by decide +kernel
theorem dR_isSuch_10 : decode prog_14_method_110_code 10 = .ok (.ireturn, 1) := by decide +kernel
theorem dR_isSuch_11 : decode prog_14_method_110_code 11 = .ok (.aload_n 0, 1) := by decide +kernel
theorem dR_isSuch_12 : decode prog_14_method_110_code 12 = .ok (.iload_n 1, 1) := by decide +kernel
theorem dR_isSuch_13 : decode prog_14_method_110_code 13 = .ok (.invokevirtual 455, 3) := by decide +kernel
theorem dR_isSuch_16 : decode prog_14_method_110_code 16 = .ok (.ifCond .ne 5, 3) := by decide +kernel
theorem dR_isSuch_19 : decode prog_14_method_110_code 19 = .ok (.iconst 0, 1) := by decide +kernel
theorem dR_isSuch_20 : decode prog_14_method_110_code 20 = .ok (.ireturn, 1) := by decide +kernel
theorem dR_isSuch_21 : decode prog_14_method_110_code 21 = .ok (.iload_n 2, 1) := by decide +kernel
theorem dR_isSuch_22 : decode prog_14_method_110_code 22 = .ok (.ifCond .ne 5, 3) := by decide +kernel
theorem dR_isSuch_25 : decode prog_14_method_110_code 25 = .ok (.iconst 1, 1) := by decide +kernel
theorem dR_isSuch_26 : decode prog_14_method_110_code 26 = .ok (.ireturn, 1) := by decide +kernel
theorem dR_isSuch_27 : decode prog_14_method_110_code 27 = .ok (.iload_n 2, 1) := by decide +kernel
theorem dR_isSuch_28 : decode prog_14_method_110_code 28 = .ok (.iconst 2, 1) := by decide +kernel
theorem dR_isSuch_29 : decode prog_14_method_110_code 29 = .ok (.if_icmp .ne 9, 3) := by decide +kernel
theorem dR_isSuch_32 : decode prog_14_method_110_code 32 = .ok (.aload_n 0, 1) := by decide +kernel
theorem dR_isSuch_33 : decode prog_14_method_110_code 33 = .ok (.iload_n 1, 1) := by decide +kernel
theorem dR_isSuch_34 : decode prog_14_method_110_code 34 = .ok (.invokevirtual 458, 3) := by decide +kernel
theorem dR_isSuch_37 : decode prog_14_method_110_code 37 = .ok (.ireturn, 1) := by decide +kernel
theorem dR_isSuch_38 : decode prog_14_method_110_code 38 = .ok (.aload_n 0, 1) := by decide +kernel
theorem dR_isSuch_39 : decode prog_14_method_110_code 39 = .ok (.iload_n 1, 1) := by decide +kernel
theorem dR_isSuch_40 : decode prog_14_method_110_code 40 = .ok (.iconst 1, 1) := by decide +kernel
theorem dR_isSuch_41 : decode prog_14_method_110_code 41 = .ok (.invokevirtual 461, 3) := by decide +kernel
theorem dR_isSuch_44 : decode prog_14_method_110_code 44 = .ok (.ifCond .eq 16, 3) := by decide +kernel
theorem dR_isSuch_47 : decode prog_14_method_110_code 47 = .ok (.aload_n 0, 1) := by decide +kernel
theorem dR_isSuch_48 : decode prog_14_method_110_code 48 = .ok (.iload_n 1, 1) := by decide +kernel
theorem dR_isSuch_49 : decode prog_14_method_110_code 49 = .ok (.invokevirtual 465, 3) := by decide +kernel
theorem dR_isSuch_52 : decode prog_14_method_110_code 52 = .ok (.iload_n 1, 1) := by decide +kernel
theorem dR_isSuch_53 : decode prog_14_method_110_code 53 = .ok (.if_icmp .ne 7, 3) := by decide +kernel
theorem dR_isSuch_56 : decode prog_14_method_110_code 56 = .ok (.iconst 1, 1) := by decide +kernel
theorem dR_isSuch_57 : decode prog_14_method_110_code 57 = .ok (.goto 4, 3) := by decide +kernel
theorem dR_isSuch_60 : decode prog_14_method_110_code 60 = .ok (.iconst 0, 1) := by decide +kernel
theorem dR_isSuch_61 : decode prog_14_method_110_code 61 = .ok (.ireturn, 1) := by decide +kernel
theorem t_R_isSuch {d : Nat} {x1 x2 : Int} {σ : SG} {Q : Int → SG → Prop} (h : inI x1 → inI x2 → ((x2 ≠ 1 → Tri d M_R_isPart [vA 161, vI x1] σ (fun r2 σ2 => (r2 ≠ 0 → (x2 ≠ 0 → (x2 ≠ 2 → Tri d M_R_endsIn0 [vA 161, vI x1, vI 1] σ2 (fun r6 σ6 => (r6 = 0 → Q 0 σ6) ∧ (r6 ≠ 0 → Tri d M_R_normalizerSize [vA 161, vI x1] σ6 (fun r8 σ8 => (r8 ≠ x1 → Q 0 σ8) ∧ (r8 = x1 → Q 1 σ8))))) ∧ (x2 = 2 → Tri d M_R_isAbelianPart [vA 161, vI x1] σ2 (fun r10 σ10 => (r10 = 0 ∨ r10 = 1) ∧ Q r10 σ10))) ∧ (x2 = 0 → Q 1 σ2)) ∧ (r2 = 0 → Q 0 σ2))) ∧ (x2 = 1 → Tri d M_R_isIdeal [vA 161, vI x1] σ (fun r11 σ11 => (r11 = 0 ∨ r11 = 1) ∧ Q r11 σ11)))) : Tri (d + 1) M_R_isSuch [vA 161, vI x1, vI x2] σ Q :=
  Tri_intro rfl (Nat.le_of_ble_eq_true rfl) (ls := [vA 161, vI x1, vI x2]) rfl (fun hok => L_iload_n dR_isSuch_0 rfl (L_iconst dR_isSuch_1 in_1 (L_icmp_ne dR_isSuch_2 (by decide) ⟨fun c1 => L_aload_n dR_isSuch_11 rfl (L_iload_n dR_isSuch_12 rfl (L_callVI rfl cv_R_isPart (As := [vI x1]) rfl (tk9 87 rfl rfl) rfl (Nat.le_of_ble_eq_true rfl) dR_isSuch_13 ⟨ob_161, Tri.mono ((h (hok _ (List.mem_of_getElem? (i := 1) rfl)) (hok _ (List.mem_of_getElem? (i := 2) rfl))).1 c1) (fun r2 σ2 q2 => L_if_ne dR_isSuch_16 (by decide) ⟨fun c3 => L_iload_n dR_isSuch_21 rfl (L_if_ne dR_isSuch_22 (by decide) ⟨fun c4 => L_iload_n dR_isSuch_27 rfl (L_iconst dR_isSuch_28 in_2 (L_icmp_ne dR_isSuch_29 (by decide) ⟨fun c5 => L_aload_n dR_isSuch_38 rfl (L_iload_n dR_isSuch_39 rfl (L_iconst dR_isSuch_40 in_1 (L_callVI rfl cv_R_endsIn0 (As := [vI x1, vI 1]) rfl (tk9 95 rfl rfl) rfl (Nat.le_of_ble_eq_true rfl) dR_isSuch_41 ⟨ob_161, Tri.mono (((q2.1 c3).1 c4).1 c5) (fun r6 σ6 q6 => L_if_eq dR_isSuch_44 (by decide) ⟨fun c7 => L_iconst dR_isSuch_60 in_0 (L_zreturn0 rfl dR_isSuch_61 (q6.1 c7)), fun c7 => L_aload_n dR_isSuch_47 rfl (L_iload_n dR_isSuch_48 rfl (L_callVI rfl cv_R_normalizerSize (As := [vI x1]) rfl (tk9 99 rfl rfl) rfl (Nat.le_of_ble_eq_true rfl) dR_isSuch_49 ⟨ob_161, Tri.mono (q6.2 c7) (fun r8 σ8 q8 => L_iload_n dR_isSuch_52 rfl (L_icmp_ne dR_isSuch_53 (by decide) ⟨fun c9 => L_iconst dR_isSuch_60 in_0 (L_zreturn0 rfl dR_isSuch_61 (q8.1 c9)), fun c9 => L_iconst dR_isSuch_56 in_1 (L_goto dR_isSuch_57 (by decide) (L_zreturn1 rfl dR_isSuch_61 (q8.2 c9)))⟩))⟩))⟩)⟩))), fun c5 => L_aload_n dR_isSuch_32 rfl (L_iload_n dR_isSuch_33 rfl (L_callVI rfl cv_R_isAbelianPart (As := [vI x1]) rfl (tk9 91 rfl rfl) rfl (Nat.le_of_ble_eq_true rfl) dR_isSuch_34 ⟨ob_161, Tri.mono (((q2.1 c3).1 c4).2 c5) (fun r10 σ10 q10 => L_zreturn rfl dR_isSuch_37 q10)⟩))⟩)), fun c4 => L_iconst dR_isSuch_25 in_1 (L_zreturn1 rfl dR_isSuch_26 ((q2.1 c3).2 c4))⟩), fun c3 => L_iconst dR_isSuch_19 in_0 (L_zreturn0 rfl dR_isSuch_20 (q2.2 c3))⟩)⟩)), fun c1 => L_aload_n dR_isSuch_5 rfl (L_iload_n dR_isSuch_6 rfl (L_callVI rfl cv_R_isIdeal (As := [vI x1]) rfl (tk9 79 rfl rfl) rfl (Nat.le_of_ble_eq_true rfl) dR_isSuch_7 ⟨ob_161, Tri.mono ((h (hok _ (List.mem_of_getElem? (i := 1) rfl)) (hok _ (List.mem_of_getElem? (i := 2) rfl))).2 c1) (fun r11 σ11 q11 => L_zreturn rfl dR_isSuch_10 q11)⟩))⟩)))
theorem dR_countSpans_0 : decode prog_14_method_111_code 0 = .ok (.iconst 0, 1) := by decide +kernel
theorem dR_countSpans_1 : decode prog_14_method_111_code 1 = .ok (.istore_n 3, 1) := by decide +kernel
theorem dR_countSpans_2 : decode prog_14_method_111_code 2 = .ok (.iconst 0, 1) := by decide +kernel
theorem dR_countSpans_3 : decode prog_14_method_111_code 3 = .ok (.istore 4, 2) := by decide +kernel
theorem dR_countSpans_5 : decode prog_14_method_111_code 5 = .ok (.iload 4, 2) := by decide +kernel
theorem dR_countSpans_7 : decode prog_14_method_111_code 7 = .ok (.iconst 1, 1) := by decide +kernel
theorem dR_countSpans_8 : decode prog_14_method_111_code 8 = .ok (.aload_n 0, 1) := by decide +kernel
theorem dR_countSpans_9 : decode prog_14_method_111_code 9 = .ok (.getfield 253, 3) := by decide +kernel
theorem dR_countSpans_12 : decode prog_14_method_111_code 12 = .ok (.ishl, 1) := by decide +kernel
theorem dR_countSpans_13 : decode prog_14_method_111_code 13 = .ok (.if_icmp .ge 88, 3) := by decide +kernel
theorem dR_countSpans_16 : decode prog_14_method_111_code 16 = .ok (.aload_n 0, 1) := by decide +kernel
theorem dR_countSpans_17 : decode prog_14_method_111_code 17 = .ok (.iload 4, 2) := by decide +kernel
theorem dR_countSpans_19 : decode prog_14_method_111_code 19 = .ok (.invokevirtual 468, 3) := by decide +kernel
theorem dR_countSpans_22 : decode prog_14_method_111_code 22 = .ok (.aload_n 0, 1) := by decide +kernel
theorem dR_countSpans_23 : decode prog_14_method_111_code 23 = .ok (.getfield 442, 3) := by decide +kernel
theorem dR_countSpans_26 : decode prog_14_method_111_code 26 = .ok (.iload_n 1, 1) := by decide +kernel
theorem dR_countSpans_27 : decode prog_14_method_111_code 27 = .ok (.if_icmp .eq 6, 3) := by decide +kernel
theorem dR_countSpans_30 : decode prog_14_method_111_code 30 = .ok (.goto 65, 3) := by decide +kernel
theorem dR_countSpans_33 : decode prog_14_method_111_code 33 = .ok (.aload_n 0, 1) := by decide +kernel
theorem dR_countSpans_34 : decode prog_14_method_111_code 34 = .ok (.aload_n 0, 1) := by decide +kernel
theorem dR_countSpans_35 : decode prog_14_method_111_code 35 = .ok (.getfield 445, 3) := by decide +kernel
theorem dR_countSpans_38 : decode prog_14_method_111_code 38 = .ok (.invokevirtual 320, 3) := by decide +kernel
theorem dR_countSpans_41 : decode prog_14_method_111_code 41 = .ok (.istore 5, 2) := by decide +kernel
theorem dR_countSpans_43 : decode prog_14_method_111_code 43 = .ok (.iload_n 2, 1) := by decide +kernel
theorem dR_countSpans_44 : decode prog_14_method_111_code 44 = .ok (.iconst (-1), 1) := by decide +kernel
theorem dR_countSpans_45 : decode prog_14_method_111_code 45 = .ok (.if_icmp .ne 11, 3) := by decide +kernel
theorem dR_countSpans_48 : decode prog_14_method_111_code 48 = .ok (.iload_n 3, 1) := by decide +kernel
theorem dR_countSpans_49 : decode prog_14_method_111_code 49 = .ok (.iload 5, 2) := by decide +kernel
theorem dR_countSpans_51 : decode prog_14_method_111_code 51 = .ok (.iadd, 1) := by decide +kernel
theorem dR_countSpans_52 : decode prog_14_method_111_code 52 = .ok (.istore_n 3, 1) := by decide +kernel
theorem dR_countSpans_53 : decode prog_14_method_111_code 53 = .ok (.goto 42, 3) := by decide +kernel
theorem dR_countSpans_56 : decode prog_14_method_111_code 56 = .ok (.iconst 0, 1) := by decide +kernel
theorem dR_countSpans_57 : decode prog_14_method_111_code 57 = .ok (.istore 6, 2) := by decide +kernel
theorem dR_countSpans_59 : decode prog_14_method_111_code 59 = .ok (.iload 6, 2) := by decide +kernel
theorem dR_countSpans_61 : decode prog_14_method_111_code 61 = .ok (.iload 5, 2) := by decide +kernel
theorem dR_countSpans_63 : decode prog_14_method_111_code 63 = .ok (.if_icmp .ge 32, 3) := by decide +kernel
theorem dR_countSpans_66 : decode prog_14_method_111_code 66 = .ok (.aload_n 0, 1) := by decide +kernel
theorem dR_countSpans_67 : decode prog_14_method_111_code 67 = .ok (.iload 6, 2) := by decide +kernel
theorem dR_countSpans_69 : decode prog_14_method_111_code 69 = .ok (.invokevirtual 471, 3) := by decide +kernel
theorem dR_countSpans_72 : decode prog_14_method_111_code 72 = .ok (.iload_n 3, 1) := by decide +kernel
theorem dR_countSpans_73 : decode prog_14_method_111_code 73 = .ok (.aload_n 0, 1) := by decide +kernel
theorem dR_countSpans_74 : decode prog_14_method_111_code 74 = .ok (.iload_n 1, 1) := by decide +kernel
theorem dR_countSpans_75 : decode prog_14_method_111_code 75 = .ok (.iload_n 2, 1) := by decide +kernel
theorem dR_countSpans_76 : decode prog_14_method_111_code 76 = .ok (.invokevirtual 474, 3) := by decide +kernel
theorem dR_countSpans_79 : decode prog_14_method_111_code 79 = .ok (.ifCond .eq 7, 3) := by decide +kernel
theorem dR_countSpans_82 : decode prog_14_method_111_code 82 = .ok (.iconst 1, 1) := by decide +kernel
theorem dR_countSpans_83 : decode prog_14_method_111_code 83 = .ok (.goto 4, 3) := by decide +kernel
theorem dR_countSpans_86 : decode prog_14_method_111_code 86 = .ok (.iconst 0, 1) := by decide +kernel
theorem dR_countSpans_87 : decode prog_14_method_111_code 87 = .ok (.iadd, 1) := by decide +kernel
theorem dR_countSpans_88 : decode prog_14_method_111_code 88 = .ok (.istore_n 3, 1) := by decide +kernel
theorem dR_countSpans_89 : decode prog_14_method_111_code 89 = .ok (.iinc 6 1, 3) := by decide +kernel
theorem dR_countSpans_92 : decode prog_14_method_111_code 92 = .ok (.goto (-33), 3) := by decide +kernel
theorem dR_countSpans_95 : decode prog_14_method_111_code 95 = .ok (.iinc 4 1, 3) := by decide +kernel
theorem dR_countSpans_98 : decode prog_14_method_111_code 98 = .ok (.goto (-93), 3) := by decide +kernel
theorem dR_countSpans_101 : decode prog_14_method_111_code 101 = .ok (.iload_n 3, 1) := by decide +kernel
theorem dR_countSpans_102 : decode prog_14_method_111_code 102 = .ok (.ireturn, 1) := by decide +kernel
theorem t_R_countSpans {d : Nat} {x1 x2 : Int} {σ : SG} {Q : Int → SG → Prop} (h : inI x1 → inI x2 → (L (d + 1) M_R_countSpans 5 [vA 161, vI x1, vI x2, vI 0, vI 0, vU, vU] [] σ Q)) : Tri (d + 1) M_R_countSpans [vA 161, vI x1, vI x2] σ Q :=
  Tri_intro rfl (Nat.le_of_ble_eq_true rfl) (ls := [vA 161, vI x1, vI x2, vU, vU, vU, vU]) rfl (fun hok => L_iconst dR_countSpans_0 in_0 (L_istore_n dR_countSpans_1 (by decide) (L_iconst dR_countSpans_2 in_0 (L_istore dR_countSpans_3 (by decide) ((h (hok _ (List.mem_of_getElem? (i := 1) rfl)) (hok _ (List.mem_of_getElem? (i := 2) rfl))))))))
theorem s_R_countSpans_5 {d : Nat} {x1 x2 x3 x4 : Int} {σ : SG} {Q : Int → SG → Prop} (h : (shl32 1 (σ 161 27) ≤ x4 → Q x3 σ) ∧ (x4 < shl32 1 (σ 161 27) → Tri d M_R_lead [vA 161, vI x4] σ (fun r2 σ2 => (σ2 161 59 = x1 → Tri d M_R_powerOf [vA 161, vI (σ2 161 60)] σ2 (fun r4 σ4 => (x2 ≠ (-1) → L (d + 1) M_R_countSpans 59 [vA 161, vI x1, vI x2, vI x3, vI x4, vI r4, vI 0] [] σ4 Q) ∧ (x2 = (-1) → L (d + 1) M_R_countSpans 5 [vA 161, vI x1, vI x2, vI (w32 (x3 + r4)), vI (w32 (x4 + 1)), vU, vU] [] σ4 Q))) ∧ (σ2 161 59 ≠ x1 → L (d + 1) M_R_countSpans 5 [vA 161, vI x1, vI x2, vI x3, vI (w32 (x4 + 1)), vU, vU] [] σ2 Q)))) : L (d + 1) M_R_countSpans 5 [vA 161, vI x1, vI x2, vI x3, vI x4, vU, vU] [] σ Q :=
  L_iload dR_countSpans_5 rfl (L_iconst dR_countSpans_7 in_1 (L_aload_n dR_countSpans_8 rfl (L_getf fw_R_253 rfl dR_countSpans_9 ⟨ob_161, L_ishl dR_countSpans_12 (L_icmp_ge dR_countSpans_13 (by decide) ⟨fun c1 => L_iload_n dR_countSpans_101 rfl (L_ireturn rfl dR_countSpans_102 (h.1 c1)), fun c1 => L_aload_n dR_countSpans_16 rfl (L_iload dR_countSpans_17 rfl (L_callVV rfl cv_R_lead (As := [vI x4]) rfl (tk9 67 rfl rfl) rfl (Nat.le_of_ble_eq_true rfl) dR_countSpans_19 ⟨ob_161, Tri.mono (h.2 c1) (fun r2 σ2 q2 => L_aload_n dR_countSpans_22 rfl (L_getf fw_R_442 rfl dR_countSpans_23 ⟨ob_161, L_iload_n dR_countSpans_26 rfl (L_icmp_eq dR_countSpans_27 (by decide) ⟨fun c3 => L_aload_n dR_countSpans_33 rfl (L_aload_n dR_countSpans_34 rfl (L_getf fw_R_445 rfl dR_countSpans_35 ⟨ob_161, L_callVI rfl cv_R_powerOf (As := [vI (σ2 161 60)]) rfl (tk8 149 rfl rfl) rfl (Nat.le_of_ble_eq_true rfl) dR_countSpans_38 ⟨ob_161, Tri.mono (q2.1 c3) (fun r4 σ4 q4 => L_istore dR_countSpans_41 (by decide) (L_iload_n dR_countSpans_43 rfl (L_iconst dR_countSpans_44 in_m1 (L_icmp_ne dR_countSpans_45 (by decide) ⟨fun c5 => L_iconst dR_countSpans_56 in_0 (L_istore dR_countSpans_57 (by decide) (q4.1 c5)), fun c5 => L_iload_n dR_countSpans_48 rfl (L_iload dR_countSpans_49 rfl (L_iadd dR_countSpans_51 (L_istore_n dR_countSpans_52 (by decide) (L_goto dR_countSpans_53 (by decide) (L_iinc dR_countSpans_95 rfl (by decide) (L_goto dR_countSpans_98 (by decide) (L_weak [true, true, true, true, true, false, true] (q4.2 c5))))))))⟩))))⟩⟩)), fun c3 => L_goto dR_countSpans_30 (by decide) (L_iinc dR_countSpans_95 rfl (by decide) (L_goto dR_countSpans_98 (by decide) (q2.2 c3)))⟩)⟩))⟩))⟩)⟩)))
theorem s_R_countSpans_59 {d : Nat} {x1 x2 x3 x4 x5 x6 : Int} {σ : SG} {Q : Int → SG → Prop} (h : (x5 ≤ x6 → L (d + 1) M_R_countSpans 5 [vA 161, vI x1, vI x2, vI x3, vI (w32 (x4 + 1)), vU, vU] [] σ Q) ∧ (x6 < x5 → Tri d M_R_spanBy [vA 161, vI x6] σ (fun r2 σ2 => Tri d M_R_isSuch [vA 161, vI x1, vI x2] σ2 (fun r3 σ3 => (r3 = 0 → L (d + 1) M_R_countSpans 59 [vA 161, vI x1, vI x2, vI (w32 (x3 + 0)), vI x4, vI x5, vI (w32 (x6 + 1))] [] σ3 Q) ∧ (r3 ≠ 0 → L (d + 1) M_R_countSpans 59 [vA 161, vI x1, vI x2, vI (w32 (x3 + 1)), vI x4, vI x5, vI (w32 (x6 + 1))] [] σ3 Q))))) : L (d + 1) M_R_countSpans 59 [vA 161, vI x1, vI x2, vI x3, vI x4, vI x5, vI x6] [] σ Q :=
  L_iload dR_countSpans_59 rfl (L_iload dR_countSpans_61 rfl (L_icmp_ge dR_countSpans_63 (by decide) ⟨fun c1 => L_iinc dR_countSpans_95 rfl (by decide) (L_goto dR_countSpans_98 (by decide) (L_weak [true, true, true, true, true, false, false] (h.1 c1))), fun c1 => L_aload_n dR_countSpans_66 rfl (L_iload dR_countSpans_67 rfl (L_callVV rfl cv_R_spanBy (As := [vI x6]) rfl (tk9 71 rfl rfl) rfl (Nat.le_of_ble_eq_true rfl) dR_countSpans_69 ⟨ob_161, Tri.mono (h.2 c1) (fun r2 σ2 q2 => L_iload_n dR_countSpans_72 rfl (L_aload_n dR_countSpans_73 rfl (L_iload_n dR_countSpans_74 rfl (L_iload_n dR_countSpans_75 rfl (L_callVI rfl cv_R_isSuch (As := [vI x1, vI x2]) rfl (tk9 75 rfl rfl) rfl (Nat.le_of_ble_eq_true rfl) dR_countSpans_76 ⟨ob_161, Tri.mono q2 (fun r3 σ3 q3 => L_if_eq dR_countSpans_79 (by decide) ⟨fun c4 => L_iconst dR_countSpans_86 in_0 (L_iadd dR_countSpans_87 (L_istore_n dR_countSpans_88 (by decide) (L_iinc dR_countSpans_89 rfl (by decide) (L_goto dR_countSpans_92 (by decide) (q3.1 c4))))), fun c4 => L_iconst dR_countSpans_82 in_1 (L_goto dR_countSpans_83 (by decide) (L_iadd dR_countSpans_87 (L_istore_n dR_countSpans_88 (by decide) (L_iinc dR_countSpans_89 rfl (by decide) (L_goto dR_countSpans_92 (by decide) (q3.2 c4))))))⟩)⟩)))))⟩))⟩))
theorem dR_parts_0 : decode prog_14_method_112_code 0 = .ok (.aload_n 0, 1) := by decide +kernel
theorem dR_parts_1 : decode prog_14_method_112_code 1 = .ok (.iconst 0, 1) := by decide +kernel
theorem dR_parts_2 : decode prog_14_method_112_code 2 = .ok (.putfield 132, 3) := by decide +kernel
theorem dR_parts_5 : decode prog_14_method_112_code 5 = .ok (.aload_n 0, 1) := by decide +kernel
theorem dR_parts_6 : decode prog_14_method_112_code 6 = .ok (.iconst 0, 1) := by decide +kernel
theorem dR_parts_7 : decode prog_14_method_112_code 7 = .ok (.putfield 135, 3) := by decide +kernel
theorem dR_parts_10 : decode prog_14_method_112_code 10 = .ok (.aload_n 0, 1) := by decide +kernel
theorem dR_parts_11 : decode prog_14_method_112_code 11 = .ok (.invokevirtual 348, 3) := by decide +kernel
theorem dR_parts_14 : decode prog_14_method_112_code 14 = .ok (.iload_n 1, 1) := by decide +kernel
theorem dR_parts_15 : decode prog_14_method_112_code 15 = .ok (.i2l, 1) := by decide +kernel
theorem dR_parts_16 : decode prog_14_method_112_code 16 = .ok (.lconst 0, 1) := by decide +kernel
theorem dR_parts_17 : decode prog_14_method_112_code 17 = .ok (.aload_n 0, 1) := by decide +kernel
theorem dR_parts_18 : decode prog_14_method_112_code 18 = .ok (.getfield 253, 3) := by decide +kernel
theorem dR_parts_21 : decode prog_14_method_112_code 21 = .ok (.i2l, 1) := by decide +kernel
theorem dR_parts_22 : decode prog_14_method_112_code 22 = .ok (.invokestatic 167, 3) := by decide +kernel
theorem dR_parts_25 : decode prog_14_method_112_code 25 = .ok (.ifCond .eq 24, 3) := by decide +kernel
theorem dR_parts_28 : decode prog_14_method_112_code 28 = .ok (.iload_n 2, 1) := by decide +kernel
theorem dR_parts_29 : decode prog_14_method_112_code 29 = .ok (.i2l, 1) := by decide +kernel
theorem dR_parts_30 : decode prog_14_method_112_code 30 = .ok (.lconst 0, 1) := by decide +kernel
theorem dR_parts_31 : decode prog_14_method_112_code 31 = .ok (.ldc2_w 165, 3) := by decide +kernel
theorem dR_parts_34 : decode prog_14_method_112_code 34 = .ok (.invokestatic 167, 3) := by decide +kernel
theorem dR_parts_37 : decode prog_14_method_112_code 37 = .ok (.ifCond .eq 12, 3) := by decide +kernel
theorem dR_parts_40 : decode prog_14_method_112_code 40 = .ok (.aload_n 0, 1) := by decide +kernel
theorem dR_parts_41 : decode prog_14_method_112_code 41 = .ok (.iload_n 1, 1) := by decide +kernel
theorem dR_parts_42 : decode prog_14_method_112_code 42 = .ok (.iload_n 2, 1) := by decide +kernel
theorem dR_parts_43 : decode prog_14_method_112_code 43 = .ok (.invokevirtual 477, 3) := by decide +kernel
theorem dR_parts_46 : decode prog_14_method_112_code 46 = .ok (.goto 8, 3) := by decide +kernel
theorem dR_parts_49 : decode prog_14_method_112_code 49 = .ok (.aload_n 0, 1) := by decide +kernel
theorem dR_parts_50 : decode prog_14_method_112_code 50 = .ok (.iconst 5, 1) := by decide +kernel
theorem dR_parts_51 : decode prog_14_method_112_code 51 = .ok (.invokevirtual 351, 3) := by decide +kernel
theorem dR_parts_54 : decode prog_14_method_112_code 54 = .ok (.ireturn, 1) := by decide +kernel
theorem t_R_parts {d : Nat} {x1 x2 : Int} {σ : SG} {Q : Int → SG → Prop} (h : inI x1 → inI x2 → ((∀ σ1, σ1 = up σ 161 1 0 → (∀ σ2, σ2 = up σ1 161 0 0 → Tri d M_R_askNow [vA 161] σ2 (fun r3 σ3 => Tri d M_R_isIn [vJ x1, vJ 0, vJ (σ3 161 27)] σ3 (fun r4 σ4 => (r4 = 0 → Tri d M_R_refuse [vA 161, vI 5] σ4 (fun r6 σ6 => Q r6 σ6)) ∧ (r4 ≠ 0 → Tri d M_R_isIn [vJ x2, vJ 0, vJ 3] σ4 (fun r7 σ7 => (r7 = 0 → Tri d M_R_refuse [vA 161, vI 5] σ7 (fun r9 σ9 => Q r9 σ9)) ∧ (r7 ≠ 0 → Tri d M_R_countSpans [vA 161, vI x1, vI x2] σ7 (fun r10 σ10 => Q r10 σ10)))))))))) : Tri (d + 1) M_R_parts [vA 161, vI x1, vI x2] σ Q :=
  Tri_intro rfl (Nat.le_of_ble_eq_true rfl) (ls := [vA 161, vI x1, vI x2]) rfl (fun hok => L_aload_n dR_parts_0 rfl (L_iconst dR_parts_1 in_0 (L_putfN fp_R_132 rfl rfl (fun _ => ⟨rfl, rfl⟩) dR_parts_2 ⟨ob_161, fun σ1 e1 => L_aload_n dR_parts_5 rfl (L_iconst dR_parts_6 in_0 (L_putfN fp_R_135 rfl rfl (fun _ => ⟨rfl, rfl⟩) dR_parts_7 ⟨ob_161, fun σ2 e2 => L_aload_n dR_parts_10 rfl (L_callVV rfl cv_R_askNow (As := []) rfl (tk8 108 rfl rfl) rfl (Nat.le_of_ble_eq_true rfl) dR_parts_11 ⟨ob_161, Tri.mono (((h (hok _ (List.mem_of_getElem? (i := 1) rfl)) (hok _ (List.mem_of_getElem? (i := 2) rfl))) σ1 e1) σ2 e2) (fun r3 σ3 q3 => L_iload_n dR_parts_14 rfl (L_i2l dR_parts_15 (L_lconst (x := 0) dR_parts_16 rfl inJ_0 (L_aload_n dR_parts_17 rfl (L_getf fw_R_253 rfl dR_parts_18 ⟨ob_161, L_i2l dR_parts_21 (L_callSI rfl cs_R_isIn (As := [vJ x1, vJ 0, vJ (σ3 161 27)]) rfl (tk8 47 rfl rfl) rfl (Nat.le_of_ble_eq_true rfl) dR_parts_22 (Tri.mono q3 (fun r4 σ4 q4 => L_if_eq dR_parts_25 (by decide) ⟨fun c5 => L_aload_n dR_parts_49 rfl (L_iconst dR_parts_50 in_5 (L_callVI rfl cv_R_refuse (As := [vI 5]) rfl (tk8 117 rfl rfl) rfl (Nat.le_of_ble_eq_true rfl) dR_parts_51 ⟨ob_161, Tri.mono (q4.1 c5) (fun r6 σ6 q6 => L_ireturn rfl dR_parts_54 q6)⟩)), fun c5 => L_iload_n dR_parts_28 rfl (L_i2l dR_parts_29 (L_lconst (x := 0) dR_parts_30 rfl inJ_0 (L_ldc2 (x := 3) (tk8 116 rfl rfl) rfl inJ_3 dR_parts_31 (L_callSI rfl cs_R_isIn (As := [vJ x2, vJ 0, vJ 3]) rfl (tk8 47 rfl rfl) rfl (Nat.le_of_ble_eq_true rfl) dR_parts_34 (Tri.mono (q4.2 c5) (fun r7 σ7 q7 => L_if_eq dR_parts_37 (by decide) ⟨fun c8 => L_aload_n dR_parts_49 rfl (L_iconst dR_parts_50 in_5 (L_callVI rfl cv_R_refuse (As := [vI 5]) rfl (tk8 117 rfl rfl) rfl (Nat.le_of_ble_eq_true rfl) dR_parts_51 ⟨ob_161, Tri.mono (q7.1 c8) (fun r9 σ9 q9 => L_ireturn rfl dR_parts_54 q9)⟩)), fun c8 => L_aload_n dR_parts_40 rfl (L_iload_n dR_parts_41 rfl (L_iload_n dR_parts_42 rfl (L_callVI rfl cv_R_countSpans (As := [vI x1, vI x2]) rfl (tk9 63 rfl rfl) rfl (Nat.le_of_ble_eq_true rfl) dR_parts_43 ⟨ob_161, Tri.mono (q7.2 c8) (fun r10 σ10 q10 => L_goto dR_parts_46 (by decide) (L_ireturn rfl dR_parts_54 q10))⟩)))⟩))))))⟩)))⟩)))))⟩)⟩))⟩)))
theorem dR_share_0 : decode prog_14_method_113_code 0 = .ok (.aload_n 0, 1) := by decide +kernel
theorem dR_share_1 : decode prog_14_method_113_code 1 = .ok (.iconst 0, 1) := by decide +kernel
theorem dR_share_2 : decode prog_14_method_113_code 2 = .ok (.putfield 132, 3) := by decide +kernel
theorem dR_share_5 : decode prog_14_method_113_code 5 = .ok (.aload_n 0, 1) := by decide +kernel
theorem dR_share_6 : decode prog_14_method_113_code 6 = .ok (.iconst 0, 1) := by decide +kernel
theorem dR_share_7 : decode prog_14_method_113_code 7 = .ok (.putfield 135, 3) := by decide +kernel
theorem dR_share_10 : decode prog_14_method_113_code 10 = .ok (.aload_n 0, 1) := by decide +kernel
theorem dR_share_11 : decode prog_14_method_113_code 11 = .ok (.invokevirtual 348, 3) := by decide +kernel
theorem dR_share_14 : decode prog_14_method_113_code 14 = .ok (.iconst 0, 1) := by decide +kernel
theorem dR_share_15 : decode prog_14_method_113_code 15 = .ok (.istore_n 1, 1) := by decide +kernel
theorem dR_share_16 : decode prog_14_method_113_code 16 = .ok (.iconst 0, 1) := by decide +kernel
theorem dR_share_17 : decode prog_14_method_113_code 17 = .ok (.istore_n 2, 1) := by decide +kernel
theorem dR_share_18 : decode prog_14_method_113_code 18 = .ok (.iconst 0, 1) := by decide +kernel
theorem dR_share_19 : decode prog_14_method_113_code 19 = .ok (.istore_n 3, 1) := by decide +kernel
theorem dR_share_20 : decode prog_14_method_113_code 20 = .ok (.iload_n 3, 1) := by decide +kernel
theorem dR_share_21 : decode prog_14_method_113_code 21 = .ok (.aload_n 0, 1) := by decide +kernel
theorem dR_share_22 : decode prog_14_method_113_code 22 = .ok (.getfield 253, 3) := by decide +kernel
theorem dR_share_25 : decode prog_14_method_113_code 25 = .ok (.if_icmp .gt 27, 3) := by decide +kernel
theorem dR_share_28 : decode prog_14_method_113_code 28 = .ok (.iload_n 1, 1) := by decide +kernel
theorem dR_share_29 : decode prog_14_method_113_code 29 = .ok (.aload_n 0, 1) := by decide +kernel
theorem dR_share_30 : decode prog_14_method_113_code 30 = .ok (.iload_n 3, 1) := by decide +kernel
theorem dR_share_31 : decode prog_14_method_113_code 31 = .ok (.iconst (-1), 1) := by decide +kernel
theorem dR_share_32 : decode prog_14_method_113_code 32 = .ok (.invokevirtual 477, 3) := by decide +kernel
theorem dR_share_35 : decode prog_14_method_113_code 35 = .ok (.iadd, 1) := by decide +kernel
theorem dR_share_36 : decode prog_14_method_113_code 36 = .ok (.istore_n 1, 1) := by decide +kernel
theorem dR_share_37 : decode prog_14_method_113_code 37 = .ok (.iload_n 2, 1) := by decide +kernel
theorem dR_share_38 : decode prog_14_method_113_code 38 = .ok (.aload_n 0, 1) := by decide +kernel
theorem dR_share_39 : decode prog_14_method_113_code 39 = .ok (.iload_n 3, 1) := by decide +kernel
theorem dR_share_40 : decode prog_14_method_113_code 40 = .ok (.iconst 0, 1) := by decide +kernel
theorem dR_share_41 : decode prog_14_method_113_code 41 = .ok (.invokevirtual 477, 3) := by decide +kernel
theorem dR_share_44 : decode prog_14_method_113_code 44 = .ok (.iadd, 1) := by decide +kernel
theorem dR_share_45 : decode prog_14_method_113_code 45 = .ok (.istore_n 2, 1) := by decide +kernel
theorem dR_share_46 : decode prog_14_method_113_code 46 = .ok (.iinc 3 1, 3) := by decide +kernel
theorem dR_share_49 : decode prog_14_method_113_code 49 = .ok (.goto (-29), 3) := by decide +kernel
theorem dR_share_52 : decode prog_14_method_113_code 52 = .ok (.aload_n 0, 1) := by decide +kernel
theorem dR_share_53 : decode prog_14_method_113_code 53 = .ok (.iload_n 2, 1) := by decide +kernel
theorem dR_share_54 : decode prog_14_method_113_code 54 = .ok (.i2l, 1) := by decide +kernel
theorem dR_share_55 : decode prog_14_method_113_code 55 = .ok (.iload_n 1, 1) := by decide +kernel
theorem dR_share_56 : decode prog_14_method_113_code 56 = .ok (.i2l, 1) := by decide +kernel
theorem dR_share_57 : decode prog_14_method_113_code 57 = .ok (.invokevirtual 480, 3) := by decide +kernel
theorem dR_share_60 : decode prog_14_method_113_code 60 = .ok (.ireturn, 1) := by decide +kernel
theorem t_R_share {d : Nat} {σ : SG} {Q : Int → SG → Prop} (h : (∀ σ1, σ1 = up σ 161 1 0 → (∀ σ2, σ2 = up σ1 161 0 0 → Tri d M_R_askNow [vA 161] σ2 (fun r3 σ3 => L (d + 1) M_R_share 20 [vA 161, vI 0, vI 0, vI 0] [] σ3 Q)))) : Tri (d + 1) M_R_share [vA 161] σ Q :=
  Tri_intro rfl (Nat.le_of_ble_eq_true rfl) (ls := [vA 161, vU, vU, vU]) rfl (fun hok => L_aload_n dR_share_0 rfl (L_iconst dR_share_1 in_0 (L_putfN fp_R_132 rfl rfl (fun _ => ⟨rfl, rfl⟩) dR_share_2 ⟨ob_161, fun σ1 e1 => L_aload_n dR_share_5 rfl (L_iconst dR_share_6 in_0 (L_putfN fp_R_135 rfl rfl (fun _ => ⟨rfl, rfl⟩) dR_share_7 ⟨ob_161, fun σ2 e2 => L_aload_n dR_share_10 rfl (L_callVV rfl cv_R_askNow (As := []) rfl (tk8 108 rfl rfl) rfl (Nat.le_of_ble_eq_true rfl) dR_share_11 ⟨ob_161, Tri.mono ((h σ1 e1) σ2 e2) (fun r3 σ3 q3 => L_iconst dR_share_14 in_0 (L_istore_n dR_share_15 (by decide) (L_iconst dR_share_16 in_0 (L_istore_n dR_share_17 (by decide) (L_iconst dR_share_18 in_0 (L_istore_n dR_share_19 (by decide) q3))))))⟩)⟩))⟩)))
theorem s_R_share_20 {d : Nat} {x1 x2 x3 : Int} {σ : SG} {Q : Int → SG → Prop} (h : (σ 161 27 < x3 → Tri d M_R_fraction [vA 161, vJ x2, vJ x1] σ (fun r2 σ2 => (r2 = 0 ∨ r2 = 1) ∧ Q r2 σ2)) ∧ (x3 ≤ σ 161 27 → Tri d M_R_countSpans [vA 161, vI x3, vI (-1)] σ (fun r3 σ3 => Tri d M_R_countSpans [vA 161, vI x3, vI 0] σ3 (fun r4 σ4 => L (d + 1) M_R_share 20 [vA 161, vI (w32 (x1 + r3)), vI (w32 (x2 + r4)), vI (w32 (x3 + 1))] [] σ4 Q)))) : L (d + 1) M_R_share 20 [vA 161, vI x1, vI x2, vI x3] [] σ Q :=
  L_iload_n dR_share_20 rfl (L_aload_n dR_share_21 rfl (L_getf fw_R_253 rfl dR_share_22 ⟨ob_161, L_icmp_gt dR_share_25 (by decide) ⟨fun c1 => L_aload_n dR_share_52 rfl (L_iload_n dR_share_53 rfl (L_i2l dR_share_54 (L_iload_n dR_share_55 rfl (L_i2l dR_share_56 (L_callVI rfl cv_R_fraction (As := [vJ x2, vJ x1]) rfl (tk9 107 rfl rfl) rfl (Nat.le_of_ble_eq_true rfl) dR_share_57 ⟨ob_161, Tri.mono (h.1 c1) (fun r2 σ2 q2 => L_zreturn rfl dR_share_60 q2)⟩))))), fun c1 => L_iload_n dR_share_28 rfl (L_aload_n dR_share_29 rfl (L_iload_n dR_share_30 rfl (L_iconst dR_share_31 in_m1 (L_callVI rfl cv_R_countSpans (As := [vI x3, vI (-1)]) rfl (tk9 63 rfl rfl) rfl (Nat.le_of_ble_eq_true rfl) dR_share_32 ⟨ob_161, Tri.mono (h.2 c1) (fun r3 σ3 q3 => L_iadd dR_share_35 (L_istore_n dR_share_36 (by decide) (L_iload_n dR_share_37 rfl (L_aload_n dR_share_38 rfl (L_iload_n dR_share_39 rfl (L_iconst dR_share_40 in_0 (L_callVI rfl cv_R_countSpans (As := [vI x3, vI 0]) rfl (tk9 63 rfl rfl) rfl (Nat.le_of_ble_eq_true rfl) dR_share_41 ⟨ob_161, Tri.mono q3 (fun r4 σ4 q4 => L_iadd dR_share_44 (L_istore_n dR_share_45 (by decide) (L_iinc dR_share_46 rfl (by decide) (L_goto dR_share_49 (by decide) q4))))⟩)))))))⟩))))⟩⟩))
theorem dR_isAbelian_0 : decode prog_14_method_114_code 0 = .ok (.aload_n 0, 1) := by decide +kernel
theorem dR_isAbelian_1 : decode prog_14_method_114_code 1 = .ok (.iconst 1, 1) := by decide +kernel
theorem dR_isAbelian_2 : decode prog_14_method_114_code 2 = .ok (.iconst 0, 1) := by decide +kernel
theorem dR_isAbelian_3 : decode prog_14_method_114_code 3 = .ok (.invokevirtual 419, 3) := by decide +kernel
theorem dR_isAbelian_6 : decode prog_14_method_114_code 6 = .ok (.ifCond .ne 7, 3) := by decide +kernel
theorem dR_isAbelian_9 : decode prog_14_method_114_code 9 = .ok (.iconst 1, 1) := by decide +kernel
theorem dR_isAbelian_10 : decode prog_14_method_114_code 10 = .ok (.goto 4, 3) := by decide +kernel
theorem dR_isAbelian_13 : decode prog_14_method_114_code 13 = .ok (.iconst 0, 1) := by decide +kernel
theorem dR_isAbelian_14 : decode prog_14_method_114_code 14 = .ok (.ireturn, 1) := by decide +kernel
theorem t_R_isAbelian {d : Nat} {σ : SG} {Q : Int → SG → Prop} (h : Tri d M_R_seriesOf [vA 161, vI 1, vI 0] σ (fun r1 σ1 => (r1 ≠ 0 → Q 0 σ1) ∧ (r1 = 0 → Q 1 σ1))) : Tri (d + 1) M_R_isAbelian [vA 161] σ Q :=
  Tri_intro rfl (Nat.le_of_ble_eq_true rfl) (ls := [vA 161]) rfl (fun hok => L_aload_n dR_isAbelian_0 rfl (L_iconst dR_isAbelian_1 in_1 (L_iconst dR_isAbelian_2 in_0 (L_callVI rfl cv_R_seriesOf (As := [vI 1, vI 0]) rfl (tk9 15 rfl rfl) rfl (Nat.le_of_ble_eq_true rfl) dR_isAbelian_3 ⟨ob_161, Tri.mono (h) (fun r1 σ1 q1 => L_if_ne dR_isAbelian_6 (by decide) ⟨fun c2 => L_iconst dR_isAbelian_13 in_0 (L_zreturn0 rfl dR_isAbelian_14 (q1.1 c2)), fun c2 => L_iconst dR_isAbelian_9 in_1 (L_goto dR_isAbelian_10 (by decide) (L_zreturn1 rfl dR_isAbelian_14 (q1.2 c2)))⟩)⟩))))
theorem dR_isSimple_0 : decode prog_14_method_115_code 0 = .ok (.aload_n 0, 1) := by decide +kernel
theorem dR_isSimple_1 : decode prog_14_method_115_code 1 = .ok (.invokevirtual 484, 3) := by decide +kernel
theorem dR_isSimple_4 : decode prog_14_method_115_code 4 = .ok (.ifCond .eq 5, 3) := by decide +kernel
theorem dR_isSimple_7 : decode prog_14_method_115_code 7 = .ok (.iconst 0, 1) := by decide +kernel
theorem dR_isSimple_8 : decode prog_14_method_115_code 8 = .ok (.ireturn, 1) := by decide +kernel
theorem dR_isSimple_9 : decode prog_14_method_115_code 9 = .ok (.iconst 1, 1) := by decide +kernel
theorem dR_isSimple_10 : decode prog_14_method_115_code 10 = .ok (.istore_n 1, 1) := by decide +kernel
theorem dR_isSimple_11 : decode prog_14_method_115_code 11 = .ok (.iload_n 1, 1) := by decide +kernel
theorem dR_isSimple_12 : decode prog_14_method_115_code 12 = .ok (.aload_n 0, 1) := by decide +kernel
theorem dR_isSimple_13 : decode prog_14_method_115_code 13 = .ok (.getfield 253, 3) := by decide +kernel
theorem dR_isSimple_16 : decode prog_14_method_115_code 16 = .ok (.if_icmp .ge 20, 3) := by decide +kernel
theorem dR_isSimple_19 : decode prog_14_method_115_code 19 = .ok (.aload_n 0, 1) := by decide +kernel
theorem dR_isSimple_20 : decode prog_14_method_115_code 20 = .ok (.iload_n 1, 1) := by decide +kernel
theorem dR_isSimple_21 : decode prog_14_method_115_code 21 = .ok (.iconst 1, 1) := by decide +kernel
theorem dR_isSimple_22 : decode prog_14_method_115_code 22 = .ok (.invokevirtual 477, 3) := by decide +kernel
theorem dR_isSimple_25 : decode prog_14_method_115_code 25 = .ok (.ifCond .le 5, 3) := by decide +kernel
theorem dR_isSimple_28 : decode prog_14_method_115_code 28 = .ok (.iconst 0, 1) := by decide +kernel
theorem dR_isSimple_29 : decode prog_14_method_115_code 29 = .ok (.ireturn, 1) := by decide +kernel
theorem dR_isSimple_30 : decode prog_14_method_115_code 30 = .ok (.iinc 1 1, 3) := by decide +kernel
theorem dR_isSimple_33 : decode prog_14_method_115_code 33 = .ok (.goto (-22), 3) := by decide +kernel
theorem dR_isSimple_36 : decode prog_14_method_115_code 36 = .ok (.iconst 1, 1) := by decide +kernel
theorem dR_isSimple_37 : decode prog_14_method_115_code 37 = .ok (.ireturn, 1) := by decide +kernel
theorem t_R_isSimple {d : Nat} {σ : SG} {Q : Int → SG → Prop} (h : Tri d M_R_isAbelian [vA 161] σ (fun r1 σ1 => (r1 = 0 → L (d + 1) M_R_isSimple 11 [vA 161, vI 1] [] σ1 Q) ∧ (r1 ≠ 0 → Q 0 σ1))) : Tri (d + 1) M_R_isSimple [vA 161] σ Q :=
  Tri_intro rfl (Nat.le_of_ble_eq_true rfl) (ls := [vA 161, vU]) rfl (fun hok => L_aload_n dR_isSimple_0 rfl (L_callVI rfl cv_R_isAbelian (As := []) rfl (tk9 123 rfl rfl) rfl (Nat.le_of_ble_eq_true rfl) dR_isSimple_1 ⟨ob_161, Tri.mono (h) (fun r1 σ1 q1 => L_if_eq dR_isSimple_4 (by decide) ⟨fun c2 => L_iconst dR_isSimple_9 in_1 (L_istore_n dR_isSimple_10 (by decide) (q1.1 c2)), fun c2 => L_iconst dR_isSimple_7 in_0 (L_zreturn0 rfl dR_isSimple_8 (q1.2 c2))⟩)⟩))
theorem s_R_isSimple_11 {d : Nat} {x1 : Int} {σ : SG} {Q : Int → SG → Prop} (h : (σ 161 27 ≤ x1 → Q 1 σ) ∧ (x1 < σ 161 27 → Tri d M_R_countSpans [vA 161, vI x1, vI 1] σ (fun r2 σ2 => (r2 ≤ 0 → L (d + 1) M_R_isSimple 11 [vA 161, vI (w32 (x1 + 1))] [] σ2 Q) ∧ (0 < r2 → Q 0 σ2)))) : L (d + 1) M_R_isSimple 11 [vA 161, vI x1] [] σ Q :=
  L_iload_n dR_isSimple_11 rfl (L_aload_n dR_isSimple_12 rfl (L_getf fw_R_253 rfl dR_isSimple_13 ⟨ob_161, L_icmp_ge dR_isSimple_16 (by decide) ⟨fun c1 => L_iconst dR_isSimple_36 in_1 (L_zreturn1 rfl dR_isSimple_37 (h.1 c1)), fun c1 => L_aload_n dR_isSimple_19 rfl (L_iload_n dR_isSimple_20 rfl (L_iconst dR_isSimple_21 in_1 (L_callVI rfl cv_R_countSpans (As := [vI x1, vI 1]) rfl (tk9 63 rfl rfl) rfl (Nat.le_of_ble_eq_true rfl) dR_isSimple_22 ⟨ob_161, Tri.mono (h.2 c1) (fun r2 σ2 q2 => L_if_le dR_isSimple_25 (by decide) ⟨fun c3 => L_iinc dR_isSimple_30 rfl (by decide) (L_goto dR_isSimple_33 (by decide) (q2.1 c3)), fun c3 => L_iconst dR_isSimple_28 in_0 (L_zreturn0 rfl dR_isSimple_29 (q2.2 c3))⟩)⟩)))⟩⟩))
theorem dR_isUnimodular_0 : decode prog_14_method_116_code 0 = .ok (.iconst 0, 1) := by decide +kernel
theorem dR_isUnimodular_1 : decode prog_14_method_116_code 1 = .ok (.istore_n 1, 1) := by decide +kernel
theorem dR_isUnimodular_2 : decode prog_14_method_116_code 2 = .ok (.iload_n 1, 1) := by decide +kernel
theorem dR_isUnimodular_3 : decode prog_14_method_116_code 3 = .ok (.aload_n 0, 1) := by decide +kernel
theorem dR_isUnimodular_4 : decode prog_14_method_116_code 4 = .ok (.getfield 253, 3) := by decide +kernel
theorem dR_isUnimodular_7 : decode prog_14_method_116_code 7 = .ok (.if_icmp .ge 48, 3) := by decide +kernel
theorem dR_isUnimodular_10 : decode prog_14_method_116_code 10 = .ok (.iconst 0, 1) := by decide +kernel
theorem dR_isUnimodular_11 : decode prog_14_method_116_code 11 = .ok (.istore_n 2, 1) := by decide +kernel
theorem dR_isUnimodular_12 : decode prog_14_method_116_code 12 = .ok (.iconst 0, 1) := by decide +kernel
theorem dR_isUnimodular_13 : decode prog_14_method_116_code 13 = .ok (.istore_n 3, 1) := by decide +kernel
theorem dR_isUnimodular_14 : decode prog_14_method_116_code 14 = .ok (.iload_n 3, 1) := by decide +kernel
theorem dR_isUnimodular_15 : decode prog_14_method_116_code 15 = .ok (.aload_n 0, 1) := by decide +kernel
theorem dR_isUnimodular_16 : decode prog_14_method_116_code 16 = .ok (.getfield 253, 3) := by decide +kernel
theorem dR_isUnimodular_19 : decode prog_14_method_116_code 19 = .ok (.if_icmp .ge 19, 3) := by decide +kernel
theorem dR_isUnimodular_22 : decode prog_14_method_116_code 22 = .ok (.iload_n 2, 1) := by decide +kernel
theorem dR_isUnimodular_23 : decode prog_14_method_116_code 23 = .ok (.aload_n 0, 1) := by decide +kernel
theorem dR_isUnimodular_24 : decode prog_14_method_116_code 24 = .ok (.iload_n 1, 1) := by decide +kernel
theorem dR_isUnimodular_25 : decode prog_14_method_116_code 25 = .ok (.iload_n 3, 1) := by decide +kernel
theorem dR_isUnimodular_26 : decode prog_14_method_116_code 26 = .ok (.iload_n 3, 1) := by decide +kernel
theorem dR_isUnimodular_27 : decode prog_14_method_116_code 27 = .ok (.invokevirtual 327, 3) := by decide +kernel
theorem dR_isUnimodular_30 : decode prog_14_method_116_code 30 = .ok (.iadd, 1) := by decide +kernel
theorem dR_isUnimodular_31 : decode prog_14_method_116_code 31 = .ok (.istore_n 2, 1) := by decide +kernel
theorem dR_isUnimodular_32 : decode prog_14_method_116_code 32 = .ok (.iinc 3 1, 3) := by decide +kernel
theorem dR_isUnimodular_35 : decode prog_14_method_116_code 35 = .ok (.goto (-21), 3) := by decide +kernel
theorem dR_isUnimodular_38 : decode prog_14_method_116_code 38 = .ok (.iload_n 2, 1) := by decide +kernel
theorem dR_isUnimodular_39 : decode prog_14_method_116_code 39 = .ok (.aload_n 0, 1) := by decide +kernel
theorem dR_isUnimodular_40 : decode prog_14_method_116_code 40 = .ok (.getfield 250, 3) := by decide +kernel
theorem dR_isUnimodular_43 : decode prog_14_method_116_code 43 = .ok (.irem, 1) := by decide +kernel
theorem dR_isUnimodular_44 : decode prog_14_method_116_code 44 = .ok (.ifCond .eq 5, 3) := by decide +kernel
theorem dR_isUnimodular_47 : decode prog_14_method_116_code 47 = .ok (.iconst 0, 1) := by decide +kernel
theorem dR_isUnimodular_48 : decode prog_14_method_116_code 48 = .ok (.ireturn, 1) := by decide +kernel
theorem dR_isUnimodular_49 : decode prog_14_method_116_code 49 = .ok (.iinc 1 1, 3) := by decide +kernel
theorem dR_isUnimodular_52 : decode prog_14_method_116_code 52 = .ok (.goto (-50), 3) := by decide +kernel
theorem dR_isUnimodular_55 : decode prog_14_method_116_code 55 = .ok (.iconst 1, 1) := by decide +kernel
theorem dR_isUnimodular_56 : decode prog_14_method_116_code 56 = .ok (.ireturn, 1) := by decide +kernel
theorem t_R_isUnimodular {d : Nat} {σ : SG} {Q : Int → SG → Prop} (h : L (d + 1) M_R_isUnimodular 2 [vA 161, vI 0, vU, vU] [] σ Q) : Tri (d + 1) M_R_isUnimodular [vA 161] σ Q :=
  Tri_intro rfl (Nat.le_of_ble_eq_true rfl) (ls := [vA 161, vU, vU, vU]) rfl (fun hok => L_iconst dR_isUnimodular_0 in_0 (L_istore_n dR_isUnimodular_1 (by decide) (h)))
theorem s_R_isUnimodular_2 {d : Nat} {x1 : Int} {σ : SG} {Q : Int → SG → Prop} (h : (σ 161 27 ≤ x1 → Q 1 σ) ∧ (x1 < σ 161 27 → L (d + 1) M_R_isUnimodular 14 [vA 161, vI x1, vI 0, vI 0] [] σ Q)) : L (d + 1) M_R_isUnimodular 2 [vA 161, vI x1, vU, vU] [] σ Q :=
  L_iload_n dR_isUnimodular_2 rfl (L_aload_n dR_isUnimodular_3 rfl (L_getf fw_R_253 rfl dR_isUnimodular_4 ⟨ob_161, L_icmp_ge dR_isUnimodular_7 (by decide) ⟨fun c1 => L_iconst dR_isUnimodular_55 in_1 (L_zreturn1 rfl dR_isUnimodular_56 (h.1 c1)), fun c1 => L_iconst dR_isUnimodular_10 in_0 (L_istore_n dR_isUnimodular_11 (by decide) (L_iconst dR_isUnimodular_12 in_0 (L_istore_n dR_isUnimodular_13 (by decide) (h.2 c1))))⟩⟩))
theorem s_R_isUnimodular_14 {d : Nat} {x1 x2 x3 : Int} {σ : SG} {Q : Int → SG → Prop} (h : (σ 161 27 ≤ x3 → σ 161 26 ≠ 0 ∧ (x2.tmod (σ 161 26) = 0 → L (d + 1) M_R_isUnimodular 2 [vA 161, vI (w32 (x1 + 1)), vU, vU] [] σ Q) ∧ (x2.tmod (σ 161 26) ≠ 0 → Q 0 σ)) ∧ (x3 < σ 161 27 → Tri d M_R_table [vA 161, vI x1, vI x3, vI x3] σ (fun r3 σ3 => L (d + 1) M_R_isUnimodular 14 [vA 161, vI x1, vI (w32 (x2 + r3)), vI (w32 (x3 + 1))] [] σ3 Q))) : L (d + 1) M_R_isUnimodular 14 [vA 161, vI x1, vI x2, vI x3] [] σ Q :=
  L_iload_n dR_isUnimodular_14 rfl (L_aload_n dR_isUnimodular_15 rfl (L_getf fw_R_253 rfl dR_isUnimodular_16 ⟨ob_161, L_icmp_ge dR_isUnimodular_19 (by decide) ⟨fun c1 => L_iload_n dR_isUnimodular_38 rfl (L_aload_n dR_isUnimodular_39 rfl (L_getf fw_R_250 rfl dR_isUnimodular_40 ⟨ob_161, L_irem dR_isUnimodular_43 ⟨(h.1 c1).1, L_if_eq dR_isUnimodular_44 (by decide) ⟨fun c2 => L_iinc dR_isUnimodular_49 rfl (by decide) (L_goto dR_isUnimodular_52 (by decide) (L_weak [true, true, false, false] ((h.1 c1).2.1 c2))), fun c2 => L_iconst dR_isUnimodular_47 in_0 (L_zreturn0 rfl dR_isUnimodular_48 ((h.1 c1).2.2 c2))⟩⟩⟩)), fun c1 => L_iload_n dR_isUnimodular_22 rfl (L_aload_n dR_isUnimodular_23 rfl (L_iload_n dR_isUnimodular_24 rfl (L_iload_n dR_isUnimodular_25 rfl (L_iload_n dR_isUnimodular_26 rfl (L_callVI rfl cv_R_table (As := [vI x1, vI x3, vI x3]) rfl (tk8 121 rfl rfl) rfl (Nat.le_of_ble_eq_true rfl) dR_isUnimodular_27 ⟨ob_161, Tri.mono (h.2 c1) (fun r3 σ3 q3 => L_iadd dR_isUnimodular_30 (L_istore_n dR_isUnimodular_31 (by decide) (L_iinc dR_isUnimodular_32 rfl (by decide) (L_goto dR_isUnimodular_35 (by decide) q3))))⟩)))))⟩⟩))
theorem dR_isSo_0 : decode prog_14_method_117_code 0 = .ok (.iload_n 1, 1) := by decide +kernel
theorem dR_isSo_1 : decode prog_14_method_117_code 1 = .ok (.tableswitch 104 0 4 #[35, 40, 60, 80, 99], 35) := by decide +kernel
theorem dR_isSo_36 : decode prog_14_method_117_code 36 = .ok (.aload_n 0, 1) := by decide +kernel
theorem dR_isSo_37 : decode prog_14_method_117_code 37 = .ok (.invokevirtual 484, 3) := by decide +kernel
theorem dR_isSo_40 : decode prog_14_method_117_code 40 = .ok (.ireturn, 1) := by decide +kernel
theorem dR_isSo_41 : decode prog_14_method_117_code 41 = .ok (.aload_n 0, 1) := by decide +kernel
theorem dR_isSo_42 : decode prog_14_method_117_code 42 = .ok (.aload_n 0, 1) := by decide +kernel
theorem dR_isSo_43 : decode prog_14_method_117_code 43 = .ok (.getfield 253, 3) := by decide +kernel
theorem dR_isSo_46 : decode prog_14_method_117_code 46 = .ok (.iconst 1, 1) := by decide +kernel
theorem dR_isSo_47 : decode prog_14_method_117_code 47 = .ok (.iadd, 1) := by decide +kernel
theorem dR_isSo_48 : decode prog_14_method_117_code 48 = .ok (.iconst 1, 1) := by decide +kernel
theorem dR_isSo_49 : decode prog_14_method_117_code 49 = .ok (.invokevirtual 419, 3) := by decide +kernel
theorem dR_isSo_52 : decode prog_14_method_117_code 52 = .ok (.ifCond .ne 7, 3) := by decide +kernel
theorem dR_isSo_55 : decode prog_14_method_117_code 55 = .ok (.iconst 1, 1) := by decide +kernel
theorem dR_isSo_56 : decode prog_14_method_117_code 56 = .ok (.goto 4, 3) := by decide +kernel
theorem dR_isSo_59 : decode prog_14_method_117_code 59 = .ok (.iconst 0, 1) := by decide +kernel
theorem dR_isSo_60 : decode prog_14_method_117_code 60 = .ok (.ireturn, 1) := by decide +kernel
theorem dR_isSo_61 : decode prog_14_method_117_code 61 = .ok (.aload_n 0, 1) := by decide +kernel
theorem dR_isSo_62 : decode prog_14_method_117_code 62 = .ok (.aload_n 0, 1) := by decide +kernel
theorem dR_isSo_63 : decode prog_14_method_117_code 63 = .ok (.getfield 253, 3) := by decide +kernel
theorem dR_isSo_66 : decode prog_14_method_117_code 66 = .ok (.iconst 1, 1) := by decide +kernel
theorem dR_isSo_67 : decode prog_14_method_117_code 67 = .ok (.iadd, 1) := by decide +kernel
theorem dR_isSo_68 : decode prog_14_method_117_code 68 = .ok (.iconst 0, 1) := by decide +kernel
theorem dR_isSo_69 : decode prog_14_method_117_code 69 = .ok (.invokevirtual 419, 3) := by decide +kernel
theorem dR_isSo_72 : decode prog_14_method_117_code 72 = .ok (.ifCond .ne 7, 3) := by decide +kernel
theorem dR_isSo_75 : decode prog_14_method_117_code 75 = .ok (.iconst 1, 1) := by decide +kernel
theorem dR_isSo_76 : decode prog_14_method_117_code 76 = .ok (.goto 4, 3) := by decide +kernel
theorem dR_isSo_79 : decode prog_14_method_117_code 79 = .ok (.iconst 0, 1) := by decide +kernel
theorem dR_isSo_80 : decode prog_14_method_117_code 80 = .ok (.ireturn, 1) := by decide +kernel
theorem dR_isSo_81 : decode prog_14_method_117_code 81 = .ok (.aload_n 0, 1) := by decide +kernel
theorem dR_isSo_82 : decode prog_14_method_117_code 82 = .ok (.iconst 1, 1) := by decide +kernel
theorem dR_isSo_83 : decode prog_14_method_117_code 83 = .ok (.iconst 0, 1) := by decide +kernel
theorem dR_isSo_84 : decode prog_14_method_117_code 84 = .ok (.invokevirtual 419, 3) := by decide +kernel
theorem dR_isSo_87 : decode prog_14_method_117_code 87 = .ok (.aload_n 0, 1) := by decide +kernel
theorem dR_isSo_88 : decode prog_14_method_117_code 88 = .ok (.getfield 253, 3) := by decide +kernel
theorem dR_isSo_91 : decode prog_14_method_117_code 91 = .ok (.if_icmp .ne 7, 3) := by decide +kernel
theorem dR_isSo_94 : decode prog_14_method_117_code 94 = .ok (.iconst 1, 1) := by decide +kernel
theorem dR_isSo_95 : decode prog_14_method_117_code 95 = .ok (.goto 4, 3) := by decide +kernel
theorem dR_isSo_98 : decode prog_14_method_117_code 98 = .ok (.iconst 0, 1) := by decide +kernel
theorem dR_isSo_99 : decode prog_14_method_117_code 99 = .ok (.ireturn, 1) := by decide +kernel
theorem dR_isSo_100 : decode prog_14_method_117_code 100 = .ok (.aload_n 0, 1) := by decide +kernel
theorem dR_isSo_101 : decode prog_14_method_117_code 101 = .ok (.invokevirtual 487, 3) := by decide +kernel
theorem dR_isSo_104 : decode prog_14_method_117_code 104 = .ok (.ireturn, 1) := by decide +kernel
theorem dR_isSo_105 : decode prog_14_method_117_code 105 = .ok (.aload_n 0, 1) := by decide +kernel
theorem dR_isSo_106 : decode prog_14_method_117_code 106 = .ok (.invokevirtual 490, 3) := by decide +kernel
theorem dR_isSo_109 : decode prog_14_method_117_code 109 = .ok (.ireturn, 1) := by decide +kernel
theorem t_R_isSo {d : Nat} {x1 : Int} {σ : SG} {Q : Int → SG → Prop} (h : inI x1 → (((x1 < 0 ∨ 4 < x1) → Tri d M_R_isUnimodular [vA 161] σ (fun r2 σ2 => (r2 = 0 ∨ r2 = 1) ∧ Q r2 σ2)) ∧ (x1 = 0 → Tri d M_R_isAbelian [vA 161] σ (fun r3 σ3 => (r3 = 0 ∨ r3 = 1) ∧ Q r3 σ3)) ∧ (x1 = 1 → Tri d M_R_seriesOf [vA 161, vI (w32 ((σ 161 27) + 1)), vI 1] σ (fun r4 σ4 => (r4 ≠ 0 → Q 0 σ4) ∧ (r4 = 0 → Q 1 σ4))) ∧ (x1 = 2 → Tri d M_R_seriesOf [vA 161, vI (w32 ((σ 161 27) + 1)), vI 0] σ (fun r6 σ6 => (r6 ≠ 0 → Q 0 σ6) ∧ (r6 = 0 → Q 1 σ6))) ∧ (x1 = 3 → Tri d M_R_seriesOf [vA 161, vI 1, vI 0] σ (fun r8 σ8 => (r8 ≠ σ8 161 27 → Q 0 σ8) ∧ (r8 = σ8 161 27 → Q 1 σ8))) ∧ (x1 = 4 → Tri d M_R_isSimple [vA 161] σ (fun r10 σ10 => (r10 = 0 ∨ r10 = 1) ∧ Q r10 σ10)))) : Tri (d + 1) M_R_isSo [vA 161, vI x1] σ Q :=
  Tri_intro rfl (Nat.le_of_ble_eq_true rfl) (ls := [vA 161, vI x1]) rfl (fun hok => L_iload_n dR_isSo_0 rfl (L_table dR_isSo_1 (by decide) ⟨fun c1 => L_aload_n dR_isSo_105 rfl (L_callVI rfl cv_R_isUnimodular (As := []) rfl (tk9 131 rfl rfl) rfl (Nat.le_of_ble_eq_true rfl) dR_isSo_106 ⟨ob_161, Tri.mono ((h (hok _ (List.mem_of_getElem? (i := 1) rfl))).1 c1) (fun r2 σ2 q2 => L_zreturn rfl dR_isSo_109 q2)⟩), fun k1 c1a c1b c1 => match k1, c1 with | 0, c1 => ⟨35, 36, rfl, by decide, L_aload_n dR_isSo_36 rfl (L_callVI rfl cv_R_isAbelian (As := []) rfl (tk9 123 rfl rfl) rfl (Nat.le_of_ble_eq_true rfl) dR_isSo_37 ⟨ob_161, Tri.mono ((h (hok _ (List.mem_of_getElem? (i := 1) rfl))).2.1 (by omega)) (fun r3 σ3 q3 => L_zreturn rfl dR_isSo_40 q3)⟩)⟩ | 1, c1 => ⟨40, 41, rfl, by decide, L_aload_n dR_isSo_41 rfl (L_aload_n dR_isSo_42 rfl (L_getf fw_R_253 rfl dR_isSo_43 ⟨ob_161, L_iconst dR_isSo_46 in_1 (L_iadd dR_isSo_47 (L_iconst dR_isSo_48 in_1 (L_callVI rfl cv_R_seriesOf (As := [vI (w32 ((σ 161 27) + 1)), vI 1]) rfl (tk9 15 rfl rfl) rfl (Nat.le_of_ble_eq_true rfl) dR_isSo_49 ⟨ob_161, Tri.mono ((h (hok _ (List.mem_of_getElem? (i := 1) rfl))).2.2.1 (by omega)) (fun r4 σ4 q4 => L_if_ne dR_isSo_52 (by decide) ⟨fun c5 => L_iconst dR_isSo_59 in_0 (L_zreturn0 rfl dR_isSo_60 (q4.1 c5)), fun c5 => L_iconst dR_isSo_55 in_1 (L_goto dR_isSo_56 (by decide) (L_zreturn1 rfl dR_isSo_60 (q4.2 c5)))⟩)⟩)))⟩))⟩ | 2, c1 => ⟨60, 61, rfl, by decide, L_aload_n dR_isSo_61 rfl (L_aload_n dR_isSo_62 rfl (L_getf fw_R_253 rfl dR_isSo_63 ⟨ob_161, L_iconst dR_isSo_66 in_1 (L_iadd dR_isSo_67 (L_iconst dR_isSo_68 in_0 (L_callVI rfl cv_R_seriesOf (As := [vI (w32 ((σ 161 27) + 1)), vI 0]) rfl (tk9 15 rfl rfl) rfl (Nat.le_of_ble_eq_true rfl) dR_isSo_69 ⟨ob_161, Tri.mono ((h (hok _ (List.mem_of_getElem? (i := 1) rfl))).2.2.2.1 (by omega)) (fun r6 σ6 q6 => L_if_ne dR_isSo_72 (by decide) ⟨fun c7 => L_iconst dR_isSo_79 in_0 (L_zreturn0 rfl dR_isSo_80 (q6.1 c7)), fun c7 => L_iconst dR_isSo_75 in_1 (L_goto dR_isSo_76 (by decide) (L_zreturn1 rfl dR_isSo_80 (q6.2 c7)))⟩)⟩)))⟩))⟩ | 3, c1 => ⟨80, 81, rfl, by decide, L_aload_n dR_isSo_81 rfl (L_iconst dR_isSo_82 in_1 (L_iconst dR_isSo_83 in_0 (L_callVI rfl cv_R_seriesOf (As := [vI 1, vI 0]) rfl (tk9 15 rfl rfl) rfl (Nat.le_of_ble_eq_true rfl) dR_isSo_84 ⟨ob_161, Tri.mono ((h (hok _ (List.mem_of_getElem? (i := 1) rfl))).2.2.2.2.1 (by omega)) (fun r8 σ8 q8 => L_aload_n dR_isSo_87 rfl (L_getf fw_R_253 rfl dR_isSo_88 ⟨ob_161, L_icmp_ne dR_isSo_91 (by decide) ⟨fun c9 => L_iconst dR_isSo_98 in_0 (L_zreturn0 rfl dR_isSo_99 (q8.1 c9)), fun c9 => L_iconst dR_isSo_94 in_1 (L_goto dR_isSo_95 (by decide) (L_zreturn1 rfl dR_isSo_99 (q8.2 c9)))⟩⟩))⟩)))⟩ | 4, c1 => ⟨99, 100, rfl, by decide, L_aload_n dR_isSo_100 rfl (L_callVI rfl cv_R_isSimple (As := []) rfl (tk9 127 rfl rfl) rfl (Nat.le_of_ble_eq_true rfl) dR_isSo_101 ⟨ob_161, Tri.mono ((h (hok _ (List.mem_of_getElem? (i := 1) rfl))).2.2.2.2.2 (by omega)) (fun r10 σ10 q10 => L_zreturn rfl dR_isSo_104 q10)⟩)⟩ | (n + 5), c1 => absurd c1b (by omega)⟩))
theorem dR_is_0 : decode prog_14_method_118_code 0 = .ok (.aload_n 0, 1) := by decide +kernel
theorem dR_is_1 : decode prog_14_method_118_code 1 = .ok (.iconst 0, 1) := by decide +kernel
theorem dR_is_2 : decode prog_14_method_118_code 2 = .ok (.putfield 132, 3) := by decide +kernel
theorem dR_is_5 : decode prog_14_method_118_code 5 = .ok (.aload_n 0, 1) := by decide +kernel
theorem dR_is_6 : decode prog_14_method_118_code 6 = .ok (.iconst 0, 1) := by decide +kernel
theorem dR_is_7 : decode prog_14_method_118_code 7 = .ok (.putfield 135, 3) := by decide +kernel
theorem dR_is_10 : decode prog_14_method_118_code 10 = .ok (.aload_n 0, 1) := by decide +kernel
theorem dR_is_11 : decode prog_14_method_118_code 11 = .ok (.invokevirtual 348, 3) := by decide +kernel
theorem dR_is_14 : decode prog_14_method_118_code 14 = .ok (.iload_n 1, 1) := by decide +kernel
theorem dR_is_15 : decode prog_14_method_118_code 15 = .ok (.i2l, 1) := by decide +kernel
theorem dR_is_16 : decode prog_14_method_118_code 16 = .ok (.lconst 0, 1) := by decide +kernel
theorem dR_is_17 : decode prog_14_method_118_code 17 = .ok (.ldc2_w 493, 3) := by decide +kernel
theorem dR_is_20 : decode prog_14_method_118_code 20 = .ok (.invokestatic 167, 3) := by decide +kernel
theorem dR_is_23 : decode prog_14_method_118_code 23 = .ok (.ifCond .ne 9, 3) := by decide +kernel
theorem dR_is_26 : decode prog_14_method_118_code 26 = .ok (.aload_n 0, 1) := by decide +kernel
theorem dR_is_27 : decode prog_14_method_118_code 27 = .ok (.iconst 5, 1) := by decide +kernel
theorem dR_is_28 : decode prog_14_method_118_code 28 = .ok (.invokevirtual 351, 3) := by decide +kernel
theorem dR_is_31 : decode prog_14_method_118_code 31 = .ok (.ireturn, 1) := by decide +kernel
theorem dR_is_32 : decode prog_14_method_118_code 32 = .ok (.aload_n 0, 1) := by decide +kernel
theorem dR_is_33 : decode prog_14_method_118_code 33 = .ok (.iload_n 1, 1) := by decide +kernel
theorem dR_is_34 : decode prog_14_method_118_code 34 = .ok (.invokevirtual 495, 3) := by decide +kernel
theorem dR_is_37 : decode prog_14_method_118_code 37 = .ok (.ifCond .eq 7, 3) := by decide +kernel
theorem dR_is_40 : decode prog_14_method_118_code 40 = .ok (.iconst 1, 1) := by decide +kernel
theorem dR_is_41 : decode prog_14_method_118_code 41 = .ok (.goto 4, 3) := by decide +kernel
theorem dR_is_44 : decode prog_14_method_118_code 44 = .ok (.iconst 0, 1) := by decide +kernel
theorem dR_is_45 : decode prog_14_method_118_code 45 = .ok (.ireturn, 1) := by decide +kernel
theorem t_R_is {d : Nat} {x1 : Int} {σ : SG} {Q : Int → SG → Prop} (h : inI x1 → ((∀ σ1, σ1 = up σ 161 1 0 → (∀ σ2, σ2 = up σ1 161 0 0 → Tri d M_R_askNow [vA 161] σ2 (fun r3 σ3 => Tri d M_R_isIn [vJ x1, vJ 0, vJ 5] σ3 (fun r4 σ4 => (r4 ≠ 0 → Tri d M_R_isSo [vA 161, vI x1] σ4 (fun r6 σ6 => (r6 = 0 → Q 0 σ6) ∧ (r6 ≠ 0 → Q 1 σ6))) ∧ (r4 = 0 → Tri d M_R_refuse [vA 161, vI 5] σ4 (fun r8 σ8 => Q r8 σ8)))))))) : Tri (d + 1) M_R_is [vA 161, vI x1] σ Q :=
  Tri_intro rfl (Nat.le_of_ble_eq_true rfl) (ls := [vA 161, vI x1]) rfl (fun hok => L_aload_n dR_is_0 rfl (L_iconst dR_is_1 in_0 (L_putfN fp_R_132 rfl rfl (fun _ => ⟨rfl, rfl⟩) dR_is_2 ⟨ob_161, fun σ1 e1 => L_aload_n dR_is_5 rfl (L_iconst dR_is_6 in_0 (L_putfN fp_R_135 rfl rfl (fun _ => ⟨rfl, rfl⟩) dR_is_7 ⟨ob_161, fun σ2 e2 => L_aload_n dR_is_10 rfl (L_callVV rfl cv_R_askNow (As := []) rfl (tk8 108 rfl rfl) rfl (Nat.le_of_ble_eq_true rfl) dR_is_11 ⟨ob_161, Tri.mono (((h (hok _ (List.mem_of_getElem? (i := 1) rfl))) σ1 e1) σ2 e2) (fun r3 σ3 q3 => L_iload_n dR_is_14 rfl (L_i2l dR_is_15 (L_lconst (x := 0) dR_is_16 rfl inJ_0 (L_ldc2 (x := 5) (tk9 118 rfl rfl) rfl inJ_5 dR_is_17 (L_callSI rfl cs_R_isIn (As := [vJ x1, vJ 0, vJ 5]) rfl (tk8 47 rfl rfl) rfl (Nat.le_of_ble_eq_true rfl) dR_is_20 (Tri.mono q3 (fun r4 σ4 q4 => L_if_ne dR_is_23 (by decide) ⟨fun c5 => L_aload_n dR_is_32 rfl (L_iload_n dR_is_33 rfl (L_callVI rfl cv_R_isSo (As := [vI x1]) rfl (tk9 119 rfl rfl) rfl (Nat.le_of_ble_eq_true rfl) dR_is_34 ⟨ob_161, Tri.mono (q4.1 c5) (fun r6 σ6 q6 => L_if_eq dR_is_37 (by decide) ⟨fun c7 => L_iconst dR_is_44 in_0 (L_ireturn rfl dR_is_45 (q6.1 c7)), fun c7 => L_iconst dR_is_40 in_1 (L_goto dR_is_41 (by decide) (L_ireturn rfl dR_is_45 (q6.2 c7)))⟩)⟩)), fun c5 => L_aload_n dR_is_26 rfl (L_iconst dR_is_27 in_5 (L_callVI rfl cv_R_refuse (As := [vI 5]) rfl (tk8 117 rfl rfl) rfl (Nat.le_of_ble_eq_true rfl) dR_is_28 ⟨ob_161, Tri.mono (q4.2 c5) (fun r8 σ8 q8 => L_ireturn rfl dR_is_31 q8)⟩))⟩)))))))⟩)⟩))⟩)))
theorem dR_radical_0 : decode prog_14_method_119_code 0 = .ok (.aload_n 0, 1) := by decide +kernel
theorem dR_radical_1 : decode prog_14_method_119_code 1 = .ok (.iconst 0, 1) := by decide +kernel
theorem dR_radical_2 : decode prog_14_method_119_code 2 = .ok (.putfield 132, 3) := by decide +kernel
theorem dR_radical_5 : decode prog_14_method_119_code 5 = .ok (.aload_n 0, 1) := by decide +kernel
theorem dR_radical_6 : decode prog_14_method_119_code 6 = .ok (.iconst 0, 1) := by decide +kernel
theorem dR_radical_7 : decode prog_14_method_119_code 7 = .ok (.putfield 135, 3) := by decide +kernel
theorem dR_radical_10 : decode prog_14_method_119_code 10 = .ok (.aload_n 0, 1) := by decide +kernel
theorem dR_radical_11 : decode prog_14_method_119_code 11 = .ok (.invokevirtual 348, 3) := by decide +kernel
theorem dR_radical_14 : decode prog_14_method_119_code 14 = .ok (.iload_n 1, 1) := by decide +kernel
theorem dR_radical_15 : decode prog_14_method_119_code 15 = .ok (.i2l, 1) := by decide +kernel
theorem dR_radical_16 : decode prog_14_method_119_code 16 = .ok (.lconst 0, 1) := by decide +kernel
theorem dR_radical_17 : decode prog_14_method_119_code 17 = .ok (.lconst 1, 1) := by decide +kernel
theorem dR_radical_18 : decode prog_14_method_119_code 18 = .ok (.invokestatic 167, 3) := by decide +kernel
theorem dR_radical_21 : decode prog_14_method_119_code 21 = .ok (.ifCond .ne 9, 3) := by decide +kernel
theorem dR_radical_24 : decode prog_14_method_119_code 24 = .ok (.aload_n 0, 1) := by decide +kernel
theorem dR_radical_25 : decode prog_14_method_119_code 25 = .ok (.iconst 5, 1) := by decide +kernel
theorem dR_radical_26 : decode prog_14_method_119_code 26 = .ok (.invokevirtual 351, 3) := by decide +kernel
theorem dR_radical_29 : decode prog_14_method_119_code 29 = .ok (.ireturn, 1) := by decide +kernel
theorem dR_radical_30 : decode prog_14_method_119_code 30 = .ok (.iconst 0, 1) := by decide +kernel
theorem dR_radical_31 : decode prog_14_method_119_code 31 = .ok (.istore_n 2, 1) := by decide +kernel
theorem dR_radical_32 : decode prog_14_method_119_code 32 = .ok (.iconst 0, 1) := by decide +kernel
theorem dR_radical_33 : decode prog_14_method_119_code 33 = .ok (.istore_n 3, 1) := by decide +kernel
theorem dR_radical_34 : decode prog_14_method_119_code 34 = .ok (.iload_n 3, 1) := by decide +kernel
theorem dR_radical_35 : decode prog_14_method_119_code 35 = .ok (.iconst 1, 1) := by decide +kernel
theorem dR_radical_36 : decode prog_14_method_119_code 36 = .ok (.aload_n 0, 1) := by decide +kernel
theorem dR_radical_37 : decode prog_14_method_119_code 37 = .ok (.getfield 253, 3) := by decide +kernel
theorem dR_radical_40 : decode prog_14_method_119_code 40 = .ok (.ishl, 1) := by decide +kernel
theorem dR_radical_41 : decode prog_14_method_119_code 41 = .ok (.if_icmp .ge 100, 3) := by decide +kernel
theorem dR_radical_44 : decode prog_14_method_119_code 44 = .ok (.aload_n 0, 1) := by decide +kernel
theorem dR_radical_45 : decode prog_14_method_119_code 45 = .ok (.iload_n 3, 1) := by decide +kernel
theorem dR_radical_46 : decode prog_14_method_119_code 46 = .ok (.invokevirtual 468, 3) := by decide +kernel
theorem dR_radical_49 : decode prog_14_method_119_code 49 = .ok (.aload_n 0, 1) := by decide +kernel
theorem dR_radical_50 : decode prog_14_method_119_code 50 = .ok (.getfield 442, 3) := by decide +kernel
theorem dR_radical_53 : decode prog_14_method_119_code 53 = .ok (.iload_n 2, 1) := by decide +kernel
theorem dR_radical_54 : decode prog_14_method_119_code 54 = .ok (.if_icmp .gt 6, 3) := by decide +kernel
theorem dR_radical_57 : decode prog_14_method_119_code 57 = .ok (.goto 78, 3) := by decide +kernel
theorem dR_radical_60 : decode prog_14_method_119_code 60 = .ok (.aload_n 0, 1) := by decide +kernel
theorem dR_radical_61 : decode prog_14_method_119_code 61 = .ok (.getfield 442, 3) := by decide +kernel
theorem dR_radical_64 : decode prog_14_method_119_code 64 = .ok (.istore 4, 2) := by decide +kernel
theorem dR_radical_66 : decode prog_14_method_119_code 66 = .ok (.aload_n 0, 1) := by decide +kernel
theorem dR_radical_67 : decode prog_14_method_119_code 67 = .ok (.aload_n 0, 1) := by decide +kernel
theorem dR_radical_68 : decode prog_14_method_119_code 68 = .ok (.getfield 445, 3) := by decide +kernel
theorem dR_radical_71 : decode prog_14_method_119_code 71 = .ok (.invokevirtual 320, 3) := by decide +kernel
theorem dR_radical_74 : decode prog_14_method_119_code 74 = .ok (.istore 5, 2) := by decide +kernel
theorem dR_radical_76 : decode prog_14_method_119_code 76 = .ok (.iconst 0, 1) := by decide +kernel
theorem dR_radical_77 : decode prog_14_method_119_code 77 = .ok (.istore 6, 2) := by decide +kernel
theorem dR_radical_79 : decode prog_14_method_119_code 79 = .ok (.iload 6, 2) := by decide +kernel
theorem dR_radical_81 : decode prog_14_method_119_code 81 = .ok (.iload 5, 2) := by decide +kernel
theorem dR_radical_83 : decode prog_14_method_119_code 83 = .ok (.if_icmp .ge 52, 3) := by decide +kernel
theorem dR_radical_86 : decode prog_14_method_119_code 86 = .ok (.iload 4, 2) := by decide +kernel
theorem dR_radical_88 : decode prog_14_method_119_code 88 = .ok (.iload_n 2, 1) := by decide +kernel
theorem dR_radical_89 : decode prog_14_method_119_code 89 = .ok (.if_icmp .le 46, 3) := by decide +kernel
theorem dR_radical_92 : decode prog_14_method_119_code 92 = .ok (.aload_n 0, 1) := by decide +kernel
theorem dR_radical_93 : decode prog_14_method_119_code 93 = .ok (.iload 6, 2) := by decide +kernel
theorem dR_radical_95 : decode prog_14_method_119_code 95 = .ok (.invokevirtual 471, 3) := by decide +kernel
theorem dR_radical_98 : decode prog_14_method_119_code 98 = .ok (.aload_n 0, 1) := by decide +kernel
theorem dR_radical_99 : decode prog_14_method_119_code 99 = .ok (.iload 4, 2) := by decide +kernel
theorem dR_radical_101 : decode prog_14_method_119_code 101 = .ok (.invokevirtual 452, 3) := by decide +kernel
theorem dR_radical_104 : decode prog_14_method_119_code 104 = .ok (.ifCond .eq 25, 3) := by decide +kernel
theorem dR_radical_107 : decode prog_14_method_119_code 107 = .ok (.aload_n 0, 1) := by decide +kernel
theorem dR_radical_108 : decode prog_14_method_119_code 108 = .ok (.iload 4, 2) := by decide +kernel
theorem dR_radical_110 : decode prog_14_method_119_code 110 = .ok (.iload_n 1, 1) := by decide +kernel
theorem dR_radical_111 : decode prog_14_method_119_code 111 = .ok (.iconst 1, 1) := by decide +kernel
theorem dR_radical_112 : decode prog_14_method_119_code 112 = .ok (.if_icmp .ne 7, 3) := by decide +kernel
theorem dR_radical_115 : decode prog_14_method_119_code 115 = .ok (.iconst 1, 1) := by decide +kernel
theorem dR_radical_116 : decode prog_14_method_119_code 116 = .ok (.goto 4, 3) := by decide +kernel
theorem dR_radical_119 : decode prog_14_method_119_code 119 = .ok (.iconst 0, 1) := by decide +kernel
theorem dR_radical_120 : decode prog_14_method_119_code 120 = .ok (.invokevirtual 461, 3) := by decide +kernel
theorem dR_radical_123 : decode prog_14_method_119_code 123 = .ok (.ifCond .eq 6, 3) := by decide +kernel
theorem dR_radical_126 : decode prog_14_method_119_code 126 = .ok (.iload 4, 2) := by decide +kernel
theorem dR_radical_128 : decode prog_14_method_119_code 128 = .ok (.istore_n 2, 1) := by decide +kernel
theorem dR_radical_129 : decode prog_14_method_119_code 129 = .ok (.iinc 6 1, 3) := by decide +kernel
theorem dR_radical_132 : decode prog_14_method_119_code 132 = .ok (.goto (-53), 3) := by decide +kernel
theorem dR_radical_135 : decode prog_14_method_119_code 135 = .ok (.iinc 3 1, 3) := by decide +kernel
theorem dR_radical_138 : decode prog_14_method_119_code 138 = .ok (.goto (-104), 3) := by decide +kernel
theorem dR_radical_141 : decode prog_14_method_119_code 141 = .ok (.iload_n 2, 1) := by decide +kernel
theorem dR_radical_142 : decode prog_14_method_119_code 142 = .ok (.ireturn, 1) := by decide +kernel
theorem t_R_radical {d : Nat} {x1 : Int} {σ : SG} {Q : Int → SG → Prop} (h : inI x1 → ((∀ σ1, σ1 = up σ 161 1 0 → (∀ σ2, σ2 = up σ1 161 0 0 → Tri d M_R_askNow [vA 161] σ2 (fun r3 σ3 => Tri d M_R_isIn [vJ x1, vJ 0, vJ 1] σ3 (fun r4 σ4 => (r4 ≠ 0 → L (d + 1) M_R_radical 34 [vA 161, vI x1, vI 0, vI 0, vU, vU, vU] [] σ4 Q) ∧ (r4 = 0 → Tri d M_R_refuse [vA 161, vI 5] σ4 (fun r6 σ6 => Q r6 σ6)))))))) : Tri (d + 1) M_R_radical [vA 161, vI x1] σ Q :=
  Tri_intro rfl (Nat.le_of_ble_eq_true rfl) (ls := [vA 161, vI x1, vU, vU, vU, vU, vU]) rfl (fun hok => L_aload_n dR_radical_0 rfl (L_iconst dR_radical_1 in_0 (L_putfN fp_R_132 rfl rfl (fun _ => ⟨rfl, rfl⟩) dR_radical_2 ⟨ob_161, fun σ1 e1 => L_aload_n dR_radical_5 rfl (L_iconst dR_radical_6 in_0 (L_putfN fp_R_135 rfl rfl (fun _ => ⟨rfl, rfl⟩) dR_radical_7 ⟨ob_161, fun σ2 e2 => L_aload_n dR_radical_10 rfl (L_callVV rfl cv_R_askNow (As := []) rfl (tk8 108 rfl rfl) rfl (Nat.le_of_ble_eq_true rfl) dR_radical_11 ⟨ob_161, Tri.mono (((h (hok _ (List.mem_of_getElem? (i := 1) rfl))) σ1 e1) σ2 e2) (fun r3 σ3 q3 => L_iload_n dR_radical_14 rfl (L_i2l dR_radical_15 (L_lconst (x := 0) dR_radical_16 rfl inJ_0 (L_lconst (x := 1) dR_radical_17 rfl inJ_1 (L_callSI rfl cs_R_isIn (As := [vJ x1, vJ 0, vJ 1]) rfl (tk8 47 rfl rfl) rfl (Nat.le_of_ble_eq_true rfl) dR_radical_18 (Tri.mono q3 (fun r4 σ4 q4 => L_if_ne dR_radical_21 (by decide) ⟨fun c5 => L_iconst dR_radical_30 in_0 (L_istore_n dR_radical_31 (by decide) (L_iconst dR_radical_32 in_0 (L_istore_n dR_radical_33 (by decide) (q4.1 c5)))), fun c5 => L_aload_n dR_radical_24 rfl (L_iconst dR_radical_25 in_5 (L_callVI rfl cv_R_refuse (As := [vI 5]) rfl (tk8 117 rfl rfl) rfl (Nat.le_of_ble_eq_true rfl) dR_radical_26 ⟨ob_161, Tri.mono (q4.2 c5) (fun r6 σ6 q6 => L_ireturn rfl dR_radical_29 q6)⟩))⟩)))))))⟩)⟩))⟩)))
theorem s_R_radical_34 {d : Nat} {x1 x2 x3 : Int} {σ : SG} {Q : Int → SG → Prop} (h : (shl32 1 (σ 161 27) ≤ x3 → Q x2 σ) ∧ (x3 < shl32 1 (σ 161 27) → Tri d M_R_lead [vA 161, vI x3] σ (fun r2 σ2 => (x2 < σ2 161 59 → Tri d M_R_powerOf [vA 161, vI (σ2 161 60)] σ2 (fun r4 σ4 => L (d + 1) M_R_radical 79 [vA 161, vI x1, vI x2, vI x3, vI (σ2 161 59), vI r4, vI 0] [] σ4 Q)) ∧ (σ2 161 59 ≤ x2 → L (d + 1) M_R_radical 34 [vA 161, vI x1, vI x2, vI (w32 (x3 + 1)), vU, vU, vU] [] σ2 Q)))) : L (d + 1) M_R_radical 34 [vA 161, vI x1, vI x2, vI x3, vU, vU, vU] [] σ Q :=
  L_iload_n dR_radical_34 rfl (L_iconst dR_radical_35 in_1 (L_aload_n dR_radical_36 rfl (L_getf fw_R_253 rfl dR_radical_37 ⟨ob_161, L_ishl dR_radical_40 (L_icmp_ge dR_radical_41 (by decide) ⟨fun c1 => L_iload_n dR_radical_141 rfl (L_ireturn rfl dR_radical_142 (h.1 c1)), fun c1 => L_aload_n dR_radical_44 rfl (L_iload_n dR_radical_45 rfl (L_callVV rfl cv_R_lead (As := [vI x3]) rfl (tk9 67 rfl rfl) rfl (Nat.le_of_ble_eq_true rfl) dR_radical_46 ⟨ob_161, Tri.mono (h.2 c1) (fun r2 σ2 q2 => L_aload_n dR_radical_49 rfl (L_getf fw_R_442 rfl dR_radical_50 ⟨ob_161, L_iload_n dR_radical_53 rfl (L_icmp_gt dR_radical_54 (by decide) ⟨fun c3 => L_aload_n dR_radical_60 rfl (L_getf fw_R_442 rfl dR_radical_61 ⟨ob_161, L_istore dR_radical_64 (by decide) (L_aload_n dR_radical_66 rfl (L_aload_n dR_radical_67 rfl (L_getf fw_R_445 rfl dR_radical_68 ⟨ob_161, L_callVI rfl cv_R_powerOf (As := [vI (σ2 161 60)]) rfl (tk8 149 rfl rfl) rfl (Nat.le_of_ble_eq_true rfl) dR_radical_71 ⟨ob_161, Tri.mono (q2.1 c3) (fun r4 σ4 q4 => L_istore dR_radical_74 (by decide) (L_iconst dR_radical_76 in_0 (L_istore dR_radical_77 (by decide) q4)))⟩⟩)))⟩), fun c3 => L_goto dR_radical_57 (by decide) (L_iinc dR_radical_135 rfl (by decide) (L_goto dR_radical_138 (by decide) (q2.2 c3)))⟩)⟩))⟩))⟩)⟩)))
theorem s_R_radical_79 {d : Nat} {x1 x2 x3 x4 x5 x6 : Int} {σ : SG} {Q : Int → SG → Prop} (h : (x5 ≤ x6 → L (d + 1) M_R_radical 34 [vA 161, vI x1, vI x2, vI (w32 (x3 + 1)), vU, vU, vU] [] σ Q) ∧ (x6 < x5 → (x4 ≤ x2 → L (d + 1) M_R_radical 34 [vA 161, vI x1, vI x2, vI (w32 (x3 + 1)), vU, vU, vU] [] σ Q) ∧ (x2 < x4 → Tri d M_R_spanBy [vA 161, vI x6] σ (fun r3 σ3 => Tri d M_R_isIdeal [vA 161, vI x4] σ3 (fun r4 σ4 => (r4 = 0 → L (d + 1) M_R_radical 79 [vA 161, vI x1, vI x2, vI x3, vI x4, vI x5, vI (w32 (x6 + 1))] [] σ4 Q) ∧ (r4 ≠ 0 → (x1 ≠ 1 → Tri d M_R_endsIn0 [vA 161, vI x4, vI 0] σ4 (fun r7 σ7 => (r7 = 0 → L (d + 1) M_R_radical 79 [vA 161, vI x1, vI x2, vI x3, vI x4, vI x5, vI (w32 (x6 + 1))] [] σ7 Q) ∧ (r7 ≠ 0 → L (d + 1) M_R_radical 79 [vA 161, vI x1, vI x4, vI x3, vI x4, vI x5, vI (w32 (x6 + 1))] [] σ7 Q))) ∧ (x1 = 1 → Tri d M_R_endsIn0 [vA 161, vI x4, vI 1] σ4 (fun r9 σ9 => (r9 = 0 → L (d + 1) M_R_radical 79 [vA 161, vI x1, vI x2, vI x3, vI x4, vI x5, vI (w32 (x6 + 1))] [] σ9 Q) ∧ (r9 ≠ 0 → L (d + 1) M_R_radical 79 [vA 161, vI x1, vI x4, vI x3, vI x4, vI x5, vI (w32 (x6 + 1))] [] σ9 Q))))))))) : L (d + 1) M_R_radical 79 [vA 161, vI x1, vI x2, vI x3, vI x4, vI x5, vI x6] [] σ Q :=
  L_iload dR_radical_79 rfl (L_iload dR_radical_81 rfl (L_icmp_ge dR_radical_83 (by decide) ⟨fun c1 => L_iinc dR_radical_135 rfl (by decide) (L_goto dR_radical_138 (by decide) (L_weak [true, true, true, true, false, false, false] (h.1 c1))), fun c1 => L_iload dR_radical_86 rfl (L_iload_n dR_radical_88 rfl (L_icmp_le dR_radical_89 (by decide) ⟨fun c2 => L_iinc dR_radical_135 rfl (by decide) (L_goto dR_radical_138 (by decide) (L_weak [true, true, true, true, false, false, false] ((h.2 c1).1 c2))), fun c2 => L_aload_n dR_radical_92 rfl (L_iload dR_radical_93 rfl (L_callVV rfl cv_R_spanBy (As := [vI x6]) rfl (tk9 71 rfl rfl) rfl (Nat.le_of_ble_eq_true rfl) dR_radical_95 ⟨ob_161, Tri.mono ((h.2 c1).2 c2) (fun r3 σ3 q3 => L_aload_n dR_radical_98 rfl (L_iload dR_radical_99 rfl (L_callVI rfl cv_R_isIdeal (As := [vI x4]) rfl (tk9 79 rfl rfl) rfl (Nat.le_of_ble_eq_true rfl) dR_radical_101 ⟨ob_161, Tri.mono q3 (fun r4 σ4 q4 => L_if_eq dR_radical_104 (by decide) ⟨fun c5 => L_iinc dR_radical_129 rfl (by decide) (L_goto dR_radical_132 (by decide) (q4.1 c5)), fun c5 => L_aload_n dR_radical_107 rfl (L_iload dR_radical_108 rfl (L_iload_n dR_radical_110 rfl (L_iconst dR_radical_111 in_1 (L_icmp_ne dR_radical_112 (by decide) ⟨fun c6 => L_iconst dR_radical_119 in_0 (L_callVI rfl cv_R_endsIn0 (As := [vI x4, vI 0]) rfl (tk9 95 rfl rfl) rfl (Nat.le_of_ble_eq_true rfl) dR_radical_120 ⟨ob_161, Tri.mono ((q4.2 c5).1 c6) (fun r7 σ7 q7 => L_if_eq dR_radical_123 (by decide) ⟨fun c8 => L_iinc dR_radical_129 rfl (by decide) (L_goto dR_radical_132 (by decide) (q7.1 c8)), fun c8 => L_iload dR_radical_126 rfl (L_istore_n dR_radical_128 (by decide) (L_iinc dR_radical_129 rfl (by decide) (L_goto dR_radical_132 (by decide) (q7.2 c8))))⟩)⟩), fun c6 => L_iconst dR_radical_115 in_1 (L_goto dR_radical_116 (by decide) (L_callVI rfl cv_R_endsIn0 (As := [vI x4, vI 1]) rfl (tk9 95 rfl rfl) rfl (Nat.le_of_ble_eq_true rfl) dR_radical_120 ⟨ob_161, Tri.mono ((q4.2 c5).2 c6) (fun r9 σ9 q9 => L_if_eq dR_radical_123 (by decide) ⟨fun c10 => L_iinc dR_radical_129 rfl (by decide) (L_goto dR_radical_132 (by decide) (q9.1 c10)), fun c10 => L_iload dR_radical_126 rfl (L_istore_n dR_radical_128 (by decide) (L_iinc dR_radical_129 rfl (by decide) (L_goto dR_radical_132 (by decide) (q9.2 c10))))⟩)⟩))⟩))))⟩)⟩)))⟩))⟩))⟩))
theorem dR_matrixOf_0 : decode prog_14_method_120_code 0 = .ok (.aload_n 0, 1) := by decide +kernel
theorem dR_matrixOf_1 : decode prog_14_method_120_code 1 = .ok (.iload_n 1, 1) := by decide +kernel
theorem dR_matrixOf_2 : decode prog_14_method_120_code 2 = .ok (.aload_n 0, 1) := by decide +kernel
theorem dR_matrixOf_3 : decode prog_14_method_120_code 3 = .ok (.getfield 62, 3) := by decide +kernel
theorem dR_matrixOf_6 : decode prog_14_method_120_code 6 = .ok (.iconst 0, 1) := by decide +kernel
theorem dR_matrixOf_7 : decode prog_14_method_120_code 7 = .ok (.invokevirtual 360, 3) := by decide +kernel
theorem dR_matrixOf_10 : decode prog_14_method_120_code 10 = .ok (.iconst 0, 1) := by decide +kernel
theorem dR_matrixOf_11 : decode prog_14_method_120_code 11 = .ok (.istore_n 2, 1) := by decide +kernel
theorem dR_matrixOf_12 : decode prog_14_method_120_code 12 = .ok (.iload_n 2, 1) := by decide +kernel
theorem dR_matrixOf_13 : decode prog_14_method_120_code 13 = .ok (.aload_n 0, 1) := by decide +kernel
theorem dR_matrixOf_14 : decode prog_14_method_120_code 14 = .ok (.getfield 253, 3) := by decide +kernel
theorem dR_matrixOf_17 : decode prog_14_method_120_code 17 = .ok (.if_icmp .ge 68, 3) := by decide +kernel
theorem dR_matrixOf_20 : decode prog_14_method_120_code 20 = .ok (.aload_n 0, 1) := by decide +kernel
theorem dR_matrixOf_21 : decode prog_14_method_120_code 21 = .ok (.iload_n 2, 1) := by decide +kernel
theorem dR_matrixOf_22 : decode prog_14_method_120_code 22 = .ok (.aload_n 0, 1) := by decide +kernel
theorem dR_matrixOf_23 : decode prog_14_method_120_code 23 = .ok (.getfield 65, 3) := by decide +kernel
theorem dR_matrixOf_26 : decode prog_14_method_120_code 26 = .ok (.invokevirtual 367, 3) := by decide +kernel
theorem dR_matrixOf_29 : decode prog_14_method_120_code 29 = .ok (.aload_n 0, 1) := by decide +kernel
theorem dR_matrixOf_30 : decode prog_14_method_120_code 30 = .ok (.aload_n 0, 1) := by decide +kernel
theorem dR_matrixOf_31 : decode prog_14_method_120_code 31 = .ok (.getfield 62, 3) := by decide +kernel
theorem dR_matrixOf_34 : decode prog_14_method_120_code 34 = .ok (.iconst 0, 1) := by decide +kernel
theorem dR_matrixOf_35 : decode prog_14_method_120_code 35 = .ok (.aload_n 0, 1) := by decide +kernel
theorem dR_matrixOf_36 : decode prog_14_method_120_code 36 = .ok (.getfield 65, 3) := by decide +kernel
theorem dR_matrixOf_39 : decode prog_14_method_120_code 39 = .ok (.iconst 0, 1) := by decide +kernel
theorem dR_matrixOf_40 : decode prog_14_method_120_code 40 = .ok (.aload_n 0, 1) := by decide +kernel
theorem dR_matrixOf_41 : decode prog_14_method_120_code 41 = .ok (.getfield 68, 3) := by decide +kernel
theorem dR_matrixOf_44 : decode prog_14_method_120_code 44 = .ok (.invokevirtual 340, 3) := by decide +kernel
theorem dR_matrixOf_47 : decode prog_14_method_120_code 47 = .ok (.iconst 0, 1) := by decide +kernel
theorem dR_matrixOf_48 : decode prog_14_method_120_code 48 = .ok (.istore_n 3, 1) := by decide +kernel
theorem dR_matrixOf_49 : decode prog_14_method_120_code 49 = .ok (.iload_n 3, 1) := by decide +kernel
theorem dR_matrixOf_50 : decode prog_14_method_120_code 50 = .ok (.aload_n 0, 1) := by decide +kernel
theorem dR_matrixOf_51 : decode prog_14_method_120_code 51 = .ok (.getfield 253, 3) := by decide +kernel
theorem dR_matrixOf_54 : decode prog_14_method_120_code 54 = .ok (.if_icmp .ge 25, 3) := by decide +kernel
theorem dR_matrixOf_57 : decode prog_14_method_120_code 57 = .ok (.aload_n 0, 1) := by decide +kernel
theorem dR_matrixOf_58 : decode prog_14_method_120_code 58 = .ok (.getfield 110, 3) := by decide +kernel
theorem dR_matrixOf_61 : decode prog_14_method_120_code 61 = .ok (.iconst 5, 1) := by decide +kernel
theorem dR_matrixOf_62 : decode prog_14_method_120_code 62 = .ok (.iload_n 2, 1) := by decide +kernel
theorem dR_matrixOf_63 : decode prog_14_method_120_code 63 = .ok (.imul, 1) := by decide +kernel
theorem dR_matrixOf_64 : decode prog_14_method_120_code 64 = .ok (.iload_n 3, 1) := by decide +kernel
theorem dR_matrixOf_65 : decode prog_14_method_120_code 65 = .ok (.iadd, 1) := by decide +kernel
theorem dR_matrixOf_66 : decode prog_14_method_120_code 66 = .ok (.aload_n 0, 1) := by decide +kernel
theorem dR_matrixOf_67 : decode prog_14_method_120_code 67 = .ok (.getfield 68, 3) := by decide +kernel
theorem dR_matrixOf_70 : decode prog_14_method_120_code 70 = .ok (.iload_n 3, 1) := by decide +kernel
theorem dR_matrixOf_71 : decode prog_14_method_120_code 71 = .ok (.iaload, 1) := by decide +kernel
theorem dR_matrixOf_72 : decode prog_14_method_120_code 72 = .ok (.iastore, 1) := by decide +kernel
theorem dR_matrixOf_73 : decode prog_14_method_120_code 73 = .ok (.iinc 3 1, 3) := by decide +kernel
theorem dR_matrixOf_76 : decode prog_14_method_120_code 76 = .ok (.goto (-27), 3) := by decide +kernel
theorem dR_matrixOf_79 : decode prog_14_method_120_code 79 = .ok (.iinc 2 1, 3) := by decide +kernel
theorem dR_matrixOf_82 : decode prog_14_method_120_code 82 = .ok (.goto (-70), 3) := by decide +kernel
theorem dR_matrixOf_85 : decode prog_14_method_120_code 85 = .ok (.return_, 1) := by decide +kernel
theorem t_R_matrixOf {d : Nat} {x1 : Int} {σ : SG} {Q : Int → SG → Prop} (h : inI x1 → (Tri d M_R_parts2 [vA 161, vI x1, vA 175, vI 0] σ (fun r1 σ1 => L (d + 1) M_R_matrixOf 12 [vA 161, vU, vI 0, vU] [] σ1 Q))) : Tri (d + 1) M_R_matrixOf [vA 161, vI x1] σ Q :=
  Tri_intro rfl (Nat.le_of_ble_eq_true rfl) (ls := [vA 161, vI x1, vU, vU]) rfl (fun hok => L_aload_n dR_matrixOf_0 rfl (L_iload_n dR_matrixOf_1 rfl (L_aload_n dR_matrixOf_2 rfl (L_getF (b := 175) fw_R_62 rfl rfl (by decide) dR_matrixOf_3 ⟨ob_161, L_iconst dR_matrixOf_6 in_0 (L_callVV rfl cv_R_parts2 (As := [vI x1, vA 175, vI 0]) rfl (tk8 153 rfl rfl) rfl (Nat.le_of_ble_eq_true rfl) dR_matrixOf_7 ⟨ob_161, Tri.mono ((h (hok _ (List.mem_of_getElem? (i := 1) rfl)))) (fun r1 σ1 q1 => L_iconst dR_matrixOf_10 in_0 (L_istore_n dR_matrixOf_11 (by decide) (L_weak [true, false, true, true] q1)))⟩)⟩))))
theorem s_R_matrixOf_12 {d : Nat} {x2 : Int} {σ : SG} {Q : Int → SG → Prop} (h : (σ 161 27 ≤ x2 → Q 0 σ) ∧ (x2 < σ 161 27 → Tri d M_R_unit [vA 161, vI x2, vA 176] σ (fun r2 σ2 => Tri d M_R_bracketOf [vA 161, vA 175, vI 0, vA 176, vI 0, vA 177] σ2 (fun r3 σ3 => L (d + 1) M_R_matrixOf 49 [vA 161, vU, vI x2, vI 0] [] σ3 Q)))) : L (d + 1) M_R_matrixOf 12 [vA 161, vU, vI x2, vU] [] σ Q :=
  L_iload_n dR_matrixOf_12 rfl (L_aload_n dR_matrixOf_13 rfl (L_getf fw_R_253 rfl dR_matrixOf_14 ⟨ob_161, L_icmp_ge dR_matrixOf_17 (by decide) ⟨fun c1 => L_return rfl dR_matrixOf_85 (h.1 c1), fun c1 => L_aload_n dR_matrixOf_20 rfl (L_iload_n dR_matrixOf_21 rfl (L_aload_n dR_matrixOf_22 rfl (L_getF (b := 176) fw_R_65 rfl rfl (by decide) dR_matrixOf_23 ⟨ob_161, L_callVV rfl cv_R_unit (As := [vI x2, vA 176]) rfl (tk8 181 rfl rfl) rfl (Nat.le_of_ble_eq_true rfl) dR_matrixOf_26 ⟨ob_161, Tri.mono (h.2 c1) (fun r2 σ2 q2 => L_aload_n dR_matrixOf_29 rfl (L_aload_n dR_matrixOf_30 rfl (L_getF (b := 175) fw_R_62 rfl rfl (by decide) dR_matrixOf_31 ⟨ob_161, L_iconst dR_matrixOf_34 in_0 (L_aload_n dR_matrixOf_35 rfl (L_getF (b := 176) fw_R_65 rfl rfl (by decide) dR_matrixOf_36 ⟨ob_161, L_iconst dR_matrixOf_39 in_0 (L_aload_n dR_matrixOf_40 rfl (L_getF (b := 177) fw_R_68 rfl rfl (by decide) dR_matrixOf_41 ⟨ob_161, L_callVV rfl cv_R_bracketOf (As := [vA 175, vI 0, vA 176, vI 0, vA 177]) rfl (tk8 157 rfl rfl) rfl (Nat.le_of_ble_eq_true rfl) dR_matrixOf_44 ⟨ob_161, Tri.mono q2 (fun r3 σ3 q3 => L_iconst dR_matrixOf_47 in_0 (L_istore_n dR_matrixOf_48 (by decide) q3))⟩⟩))⟩))⟩)))⟩⟩)))⟩⟩))
theorem s_R_matrixOf_49 {d : Nat} {x2 x3 : Int} {σ : SG} {Q : Int → SG → Prop} (h : (σ 161 27 ≤ x3 → L (d + 1) M_R_matrixOf 12 [vA 161, vU, vI (w32 (x2 + 1)), vU] [] σ Q) ∧ (x3 < σ 161 27 → (0 ≤ x3 ∧ x3 < 5) ∧ (0 ≤ w32 ((w32 (5 * x2)) + x3) ∧ w32 ((w32 (5 * x2)) + x3) < 25) ∧ (∀ σ2, σ2 = up σ 190 (w32 ((w32 (5 * x2)) + x3)) (σ 177 x3) → L (d + 1) M_R_matrixOf 49 [vA 161, vU, vI x2, vI (w32 (x3 + 1))] [] σ2 Q))) : L (d + 1) M_R_matrixOf 49 [vA 161, vU, vI x2, vI x3] [] σ Q :=
  L_iload_n dR_matrixOf_49 rfl (L_aload_n dR_matrixOf_50 rfl (L_getf fw_R_253 rfl dR_matrixOf_51 ⟨ob_161, L_icmp_ge dR_matrixOf_54 (by decide) ⟨fun c1 => L_iinc dR_matrixOf_79 rfl (by decide) (L_goto dR_matrixOf_82 (by decide) (L_weak [true, true, true, false] (h.1 c1))), fun c1 => L_aload_n dR_matrixOf_57 rfl (L_getF (b := 190) fw_R_110 rfl rfl (by decide) dR_matrixOf_58 ⟨ob_161, L_iconst dR_matrixOf_61 in_5 (L_iload_n dR_matrixOf_62 rfl (L_imul dR_matrixOf_63 (L_iload_n dR_matrixOf_64 rfl (L_iadd dR_matrixOf_65 (L_aload_n dR_matrixOf_66 rfl (L_getF (b := 177) fw_R_68 rfl rfl (by decide) dR_matrixOf_67 ⟨ob_161, L_iload_n dR_matrixOf_70 rfl (L_ialoadL kd_177 dR_matrixOf_71 ⟨(h.2 c1).1, L_iastoreL (by decide) kd_190 dR_matrixOf_72 ⟨(h.2 c1).2.1, fun σ2 e2 => L_iinc dR_matrixOf_73 rfl (by decide) (L_goto dR_matrixOf_76 (by decide) ((h.2 c1).2.2 σ2 e2))⟩⟩)⟩))))))⟩)⟩⟩))
theorem dR_times_0 : decode prog_14_method_121_code 0 = .ok (.iconst 0, 1) := by decide +kernel
theorem dR_times_1 : decode prog_14_method_121_code 1 = .ok (.istore 4, 2) := by decide +kernel
theorem dR_times_3 : decode prog_14_method_121_code 3 = .ok (.iload 4, 2) := by decide +kernel
theorem dR_times_5 : decode prog_14_method_121_code 5 = .ok (.aload_n 0, 1) := by decide +kernel
theorem dR_times_6 : decode prog_14_method_121_code 6 = .ok (.getfield 253, 3) := by decide +kernel
theorem dR_times_9 : decode prog_14_method_121_code 9 = .ok (.if_icmp .ge 88, 3) := by decide +kernel
theorem dR_times_12 : decode prog_14_method_121_code 12 = .ok (.iconst 0, 1) := by decide +kernel
theorem dR_times_13 : decode prog_14_method_121_code 13 = .ok (.istore 5, 2) := by decide +kernel
theorem dR_times_15 : decode prog_14_method_121_code 15 = .ok (.iload 5, 2) := by decide +kernel
theorem dR_times_17 : decode prog_14_method_121_code 17 = .ok (.aload_n 0, 1) := by decide +kernel
theorem dR_times_18 : decode prog_14_method_121_code 18 = .ok (.getfield 253, 3) := by decide +kernel
theorem dR_times_21 : decode prog_14_method_121_code 21 = .ok (.if_icmp .ge 70, 3) := by decide +kernel
theorem dR_times_24 : decode prog_14_method_121_code 24 = .ok (.iconst 0, 1) := by decide +kernel
theorem dR_times_25 : decode prog_14_method_121_code 25 = .ok (.istore 6, 2) := by decide +kernel
theorem dR_times_27 : decode prog_14_method_121_code 27 = .ok (.iconst 0, 1) := by decide +kernel
theorem dR_times_28 : decode prog_14_method_121_code 28 = .ok (.istore 7, 2) := by decide +kernel
theorem dR_times_30 : decode prog_14_method_121_code 30 = .ok (.iload 7, 2) := by decide +kernel
theorem dR_times_32 : decode prog_14_method_121_code 32 = .ok (.aload_n 0, 1) := by decide +kernel
theorem dR_times_33 : decode prog_14_method_121_code 33 = .ok (.getfield 253, 3) := by decide +kernel
theorem dR_times_36 : decode prog_14_method_121_code 36 = .ok (.if_icmp .ge 33, 3) := by decide +kernel
theorem dR_times_39 : decode prog_14_method_121_code 39 = .ok (.iload 6, 2) := by decide +kernel
theorem dR_times_41 : decode prog_14_method_121_code 41 = .ok (.aload_n 1, 1) := by decide +kernel
theorem dR_times_42 : decode prog_14_method_121_code 42 = .ok (.iconst 5, 1) := by decide +kernel
theorem dR_times_43 : decode prog_14_method_121_code 43 = .ok (.iload 4, 2) := by decide +kernel
theorem dR_times_45 : decode prog_14_method_121_code 45 = .ok (.imul, 1) := by decide +kernel
theorem dR_times_46 : decode prog_14_method_121_code 46 = .ok (.iload 7, 2) := by decide +kernel
theorem dR_times_48 : decode prog_14_method_121_code 48 = .ok (.iadd, 1) := by decide +kernel
theorem dR_times_49 : decode prog_14_method_121_code 49 = .ok (.iaload, 1) := by decide +kernel
theorem dR_times_50 : decode prog_14_method_121_code 50 = .ok (.aload_n 2, 1) := by decide +kernel
theorem dR_times_51 : decode prog_14_method_121_code 51 = .ok (.iconst 5, 1) := by decide +kernel
theorem dR_times_52 : decode prog_14_method_121_code 52 = .ok (.iload 7, 2) := by decide +kernel
theorem dR_times_54 : decode prog_14_method_121_code 54 = .ok (.imul, 1) := by decide +kernel
theorem dR_times_55 : decode prog_14_method_121_code 55 = .ok (.iload 5, 2) := by decide +kernel
theorem dR_times_57 : decode prog_14_method_121_code 57 = .ok (.iadd, 1) := by decide +kernel
theorem dR_times_58 : decode prog_14_method_121_code 58 = .ok (.iaload, 1) := by decide +kernel
theorem dR_times_59 : decode prog_14_method_121_code 59 = .ok (.imul, 1) := by decide +kernel
theorem dR_times_60 : decode prog_14_method_121_code 60 = .ok (.iadd, 1) := by decide +kernel
theorem dR_times_61 : decode prog_14_method_121_code 61 = .ok (.istore 6, 2) := by decide +kernel
theorem dR_times_63 : decode prog_14_method_121_code 63 = .ok (.iinc 7 1, 3) := by decide +kernel
theorem dR_times_66 : decode prog_14_method_121_code 66 = .ok (.goto (-36), 3) := by decide +kernel
theorem dR_times_69 : decode prog_14_method_121_code 69 = .ok (.aload_n 3, 1) := by decide +kernel
theorem dR_times_70 : decode prog_14_method_121_code 70 = .ok (.iconst 5, 1) := by decide +kernel
theorem dR_times_71 : decode prog_14_method_121_code 71 = .ok (.iload 4, 2) := by decide +kernel
theorem dR_times_73 : decode prog_14_method_121_code 73 = .ok (.imul, 1) := by decide +kernel
theorem dR_times_74 : decode prog_14_method_121_code 74 = .ok (.iload 5, 2) := by decide +kernel
theorem dR_times_76 : decode prog_14_method_121_code 76 = .ok (.iadd, 1) := by decide +kernel
theorem dR_times_77 : decode prog_14_method_121_code 77 = .ok (.iload 6, 2) := by decide +kernel
theorem dR_times_79 : decode prog_14_method_121_code 79 = .ok (.aload_n 0, 1) := by decide +kernel
theorem dR_times_80 : decode prog_14_method_121_code 80 = .ok (.getfield 250, 3) := by decide +kernel
theorem dR_times_83 : decode prog_14_method_121_code 83 = .ok (.irem, 1) := by decide +kernel
theorem dR_times_84 : decode prog_14_method_121_code 84 = .ok (.iastore, 1) := by decide +kernel
theorem dR_times_85 : decode prog_14_method_121_code 85 = .ok (.iinc 5 1, 3) := by decide +kernel
theorem dR_times_88 : decode prog_14_method_121_code 88 = .ok (.goto (-73), 3) := by decide +kernel
theorem dR_times_91 : decode prog_14_method_121_code 91 = .ok (.iinc 4 1, 3) := by decide +kernel
theorem dR_times_94 : decode prog_14_method_121_code 94 = .ok (.goto (-91), 3) := by decide +kernel
theorem dR_times_97 : decode prog_14_method_121_code 97 = .ok (.return_, 1) := by decide +kernel
theorem t_R_times {d : Nat} {x1 x2 x3 : Int} {σ : SG} {Q : Int → SG → Prop} (h : L (d + 1) M_R_times 3 [vA 161, vA x1, vA x2, vA x3, vI 0, vU, vU, vU] [] σ Q) : Tri (d + 1) M_R_times [vA 161, vA x1, vA x2, vA x3] σ Q :=
  Tri_intro rfl (Nat.le_of_ble_eq_true rfl) (ls := [vA 161, vA x1, vA x2, vA x3, vU, vU, vU, vU]) rfl (fun hok => L_iconst dR_times_0 in_0 (L_istore dR_times_1 (by decide) (h)))
theorem s_R_times_3 {d : Nat} {x1 x2 x3 x4 : Int} {σ : SG} {Q : Int → SG → Prop} (h : (σ 161 27 ≤ x4 → Q 0 σ) ∧ (x4 < σ 161 27 → L (d + 1) M_R_times 15 [vA 161, vA x1, vA x2, vA x3, vI x4, vI 0, vU, vU] [] σ Q)) : L (d + 1) M_R_times 3 [vA 161, vA x1, vA x2, vA x3, vI x4, vU, vU, vU] [] σ Q :=
  L_iload dR_times_3 rfl (L_aload_n dR_times_5 rfl (L_getf fw_R_253 rfl dR_times_6 ⟨ob_161, L_icmp_ge dR_times_9 (by decide) ⟨fun c1 => L_return rfl dR_times_97 (h.1 c1), fun c1 => L_iconst dR_times_12 in_0 (L_istore dR_times_13 (by decide) (h.2 c1))⟩⟩))
theorem s_R_times_15 {d : Nat} {x1 x2 x3 x4 x5 : Int} {σ : SG} {Q : Int → SG → Prop} (h : (σ 161 27 ≤ x5 → L (d + 1) M_R_times 3 [vA 161, vA x1, vA x2, vA x3, vI (w32 (x4 + 1)), vU, vU, vU] [] σ Q) ∧ (x5 < σ 161 27 → L (d + 1) M_R_times 30 [vA 161, vA x1, vA x2, vA x3, vI x4, vI x5, vI 0, vI 0] [] σ Q)) : L (d + 1) M_R_times 15 [vA 161, vA x1, vA x2, vA x3, vI x4, vI x5, vU, vU] [] σ Q :=
  L_iload dR_times_15 rfl (L_aload_n dR_times_17 rfl (L_getf fw_R_253 rfl dR_times_18 ⟨ob_161, L_icmp_ge dR_times_21 (by decide) ⟨fun c1 => L_iinc dR_times_91 rfl (by decide) (L_goto dR_times_94 (by decide) (L_weak [true, true, true, true, true, false, true, true] (h.1 c1))), fun c1 => L_iconst dR_times_24 in_0 (L_istore dR_times_25 (by decide) (L_iconst dR_times_27 in_0 (L_istore dR_times_28 (by decide) (h.2 c1))))⟩⟩))
theorem s_R_times_30 {d : Nat} {x1 x2 x3 x4 x5 x6 x7 : Int} {σ : SG} {Q : Int → SG → Prop} (h : (σ 161 27 ≤ x7 → σ 161 26 ≠ 0 ∧ wrok 100 x3 (w32 ((w32 (5 * x4)) + x5)) ∧ (∀ σ2, σ2 = up σ x3 (w32 ((w32 (5 * x4)) + x5)) (x6.tmod (σ 161 26)) → L (d + 1) M_R_times 15 [vA 161, vA x1, vA x2, vA x3, vI x4, vI (w32 (x5 + 1)), vU, vU] [] σ2 Q)) ∧ (x7 < σ 161 27 → rdok 100 x1 (w32 ((w32 (5 * x4)) + x7)) ∧ rdok 100 x2 (w32 ((w32 (5 * x7)) + x5)) ∧ L (d + 1) M_R_times 30 [vA 161, vA x1, vA x2, vA x3, vI x4, vI x5, vI (w32 (x6 + (w32 ((σ x1 (w32 ((w32 (5 * x4)) + x7))) * (σ x2 (w32 ((w32 (5 * x7)) + x5))))))), vI (w32 (x7 + 1))] [] σ Q)) : L (d + 1) M_R_times 30 [vA 161, vA x1, vA x2, vA x3, vI x4, vI x5, vI x6, vI x7] [] σ Q :=
  L_iload dR_times_30 rfl (L_aload_n dR_times_32 rfl (L_getf fw_R_253 rfl dR_times_33 ⟨ob_161, L_icmp_ge dR_times_36 (by decide) ⟨fun c1 => L_aload_n dR_times_69 rfl (L_iconst dR_times_70 in_5 (L_iload dR_times_71 rfl (L_imul dR_times_73 (L_iload dR_times_74 rfl (L_iadd dR_times_76 (L_iload dR_times_77 rfl (L_aload_n dR_times_79 rfl (L_getf fw_R_250 rfl dR_times_80 ⟨ob_161, L_irem dR_times_83 ⟨(h.1 c1).1, L_iastoreN dR_times_84 ⟨(h.1 c1).2.1, fun σ2 e2 => L_iinc dR_times_85 rfl (by decide) (L_goto dR_times_88 (by decide) (L_weak [true, true, true, true, true, true, false, false] ((h.1 c1).2.2 σ2 e2)))⟩⟩⟩)))))))), fun c1 => L_iload dR_times_39 rfl (L_aload_n dR_times_41 rfl (L_iconst dR_times_42 in_5 (L_iload dR_times_43 rfl (L_imul dR_times_45 (L_iload dR_times_46 rfl (L_iadd dR_times_48 (L_iaload dR_times_49 ⟨(h.2 c1).1, L_aload_n dR_times_50 rfl (L_iconst dR_times_51 in_5 (L_iload dR_times_52 rfl (L_imul dR_times_54 (L_iload dR_times_55 rfl (L_iadd dR_times_57 (L_iaload dR_times_58 ⟨(h.2 c1).2.1, L_imul dR_times_59 (L_iadd dR_times_60 (L_istore dR_times_61 (by decide) (L_iinc dR_times_63 rfl (by decide) (L_goto dR_times_66 (by decide) ((h.2 c1).2.2)))))⟩))))))⟩)))))))⟩⟩))
theorem dR_isZero_0 : decode prog_14_method_122_code 0 = .ok (.iconst 0, 1) := by decide +kernel
theorem dR_isZero_1 : decode prog_14_method_122_code 1 = .ok (.istore_n 2, 1) := by decide +kernel
theorem dR_isZero_2 : decode prog_14_method_122_code 2 = .ok (.iload_n 2, 1) := by decide +kernel
theorem dR_isZero_3 : decode prog_14_method_122_code 3 = .ok (.aload_n 0, 1) := by decide +kernel
theorem dR_isZero_4 : decode prog_14_method_122_code 4 = .ok (.getfield 253, 3) := by decide +kernel
theorem dR_isZero_7 : decode prog_14_method_122_code 7 = .ok (.if_icmp .ge 37, 3) := by decide +kernel
theorem dR_isZero_10 : decode prog_14_method_122_code 10 = .ok (.iconst 0, 1) := by decide +kernel
theorem dR_isZero_11 : decode prog_14_method_122_code 11 = .ok (.istore_n 3, 1) := by decide +kernel
theorem dR_isZero_12 : decode prog_14_method_122_code 12 = .ok (.iload_n 3, 1) := by decide +kernel
theorem dR_isZero_13 : decode prog_14_method_122_code 13 = .ok (.aload_n 0, 1) := by decide +kernel
theorem dR_isZero_14 : decode prog_14_method_122_code 14 = .ok (.getfield 253, 3) := by decide +kernel
theorem dR_isZero_17 : decode prog_14_method_122_code 17 = .ok (.if_icmp .ge 21, 3) := by decide +kernel
theorem dR_isZero_20 : decode prog_14_method_122_code 20 = .ok (.aload_n 1, 1) := by decide +kernel
theorem dR_isZero_21 : decode prog_14_method_122_code 21 = .ok (.iconst 5, 1) := by decide +kernel
theorem dR_isZero_22 : decode prog_14_method_122_code 22 = .ok (.iload_n 2, 1) := by decide +kernel
theorem dR_isZero_23 : decode prog_14_method_122_code 23 = .ok (.imul, 1) := by decide +kernel
theorem dR_isZero_24 : decode prog_14_method_122_code 24 = .ok (.iload_n 3, 1) := by decide +kernel
theorem dR_isZero_25 : decode prog_14_method_122_code 25 = .ok (.iadd, 1) := by decide +kernel
theorem dR_isZero_26 : decode prog_14_method_122_code 26 = .ok (.iaload, 1) := by decide +kernel
theorem dR_isZero_27 : decode prog_14_method_122_code 27 = .ok (.ifCond .eq 5, 3) := by decide +kernel
theorem dR_isZero_30 : decode prog_14_method_122_code 30 = .ok (.iconst 0, 1) := by decide +kernel
theorem dR_isZero_31 : decode prog_14_method_122_code 31 = .ok (.ireturn, 1) := by decide +kernel
theorem dR_isZero_32 : decode prog_14_method_122_code 32 = .ok (.iinc 3 1, 3) := by decide +kernel
theorem dR_isZero_35 : decode prog_14_method_122_code 35 = .ok (.goto (-23), 3) := by decide +kernel
theorem dR_isZero_38 : decode prog_14_method_122_code 38 = .ok (.iinc 2 1, 3) := by decide +kernel
theorem dR_isZero_41 : decode prog_14_method_122_code 41 = .ok (.goto (-39), 3) := by decide +kernel
theorem dR_isZero_44 : decode prog_14_method_122_code 44 = .ok (.iconst 1, 1) := by decide +kernel
theorem dR_isZero_45 : decode prog_14_method_122_code 45 = .ok (.ireturn, 1) := by decide +kernel
theorem t_R_isZero {d : Nat} {x1 : Int} {σ : SG} {Q : Int → SG → Prop} (h : L (d + 1) M_R_isZero 2 [vA 161, vA x1, vI 0, vU] [] σ Q) : Tri (d + 1) M_R_isZero [vA 161, vA x1] σ Q :=
  Tri_intro rfl (Nat.le_of_ble_eq_true rfl) (ls := [vA 161, vA x1, vU, vU]) rfl (fun hok => L_iconst dR_isZero_0 in_0 (L_istore_n dR_isZero_1 (by decide) (h)))
theorem s_R_isZero_2 {d : Nat} {x1 x2 : Int} {σ : SG} {Q : Int → SG → Prop} (h : (σ 161 27 ≤ x2 → Q 1 σ) ∧ (x2 < σ 161 27 → L (d + 1) M_R_isZero 12 [vA 161, vA x1, vI x2, vI 0] [] σ Q)) : L (d + 1) M_R_isZero 2 [vA 161, vA x1, vI x2, vU] [] σ Q :=
  L_iload_n dR_isZero_2 rfl (L_aload_n dR_isZero_3 rfl (L_getf fw_R_253 rfl dR_isZero_4 ⟨ob_161, L_icmp_ge dR_isZero_7 (by decide) ⟨fun c1 => L_iconst dR_isZero_44 in_1 (L_zreturn1 rfl dR_isZero_45 (h.1 c1)), fun c1 => L_iconst dR_isZero_10 in_0 (L_istore_n dR_isZero_11 (by decide) (h.2 c1))⟩⟩))
theorem s_R_isZero_12 {d : Nat} {x1 x2 x3 : Int} {σ : SG} {Q : Int → SG → Prop} (h : (σ 161 27 ≤ x3 → L (d + 1) M_R_isZero 2 [vA 161, vA x1, vI (w32 (x2 + 1)), vU] [] σ Q) ∧ (x3 < σ 161 27 → rdok 100 x1 (w32 ((w32 (5 * x2)) + x3)) ∧ (σ x1 (w32 ((w32 (5 * x2)) + x3)) = 0 → L (d + 1) M_R_isZero 12 [vA 161, vA x1, vI x2, vI (w32 (x3 + 1))] [] σ Q) ∧ (σ x1 (w32 ((w32 (5 * x2)) + x3)) ≠ 0 → Q 0 σ))) : L (d + 1) M_R_isZero 12 [vA 161, vA x1, vI x2, vI x3] [] σ Q :=
  L_iload_n dR_isZero_12 rfl (L_aload_n dR_isZero_13 rfl (L_getf fw_R_253 rfl dR_isZero_14 ⟨ob_161, L_icmp_ge dR_isZero_17 (by decide) ⟨fun c1 => L_iinc dR_isZero_38 rfl (by decide) (L_goto dR_isZero_41 (by decide) (L_weak [true, true, true, false] (h.1 c1))), fun c1 => L_aload_n dR_isZero_20 rfl (L_iconst dR_isZero_21 in_5 (L_iload_n dR_isZero_22 rfl (L_imul dR_isZero_23 (L_iload_n dR_isZero_24 rfl (L_iadd dR_isZero_25 (L_iaload dR_isZero_26 ⟨(h.2 c1).1, L_if_eq dR_isZero_27 (by decide) ⟨fun c2 => L_iinc dR_isZero_32 rfl (by decide) (L_goto dR_isZero_35 (by decide) ((h.2 c1).2.1 c2)), fun c2 => L_iconst dR_isZero_30 in_0 (L_zreturn0 rfl dR_isZero_31 ((h.2 c1).2.2 c2))⟩⟩))))))⟩⟩))
theorem dR_power_0 : decode prog_14_method_123_code 0 = .ok (.aload_n 0, 1) := by decide +kernel
theorem dR_power_1 : decode prog_14_method_123_code 1 = .ok (.iconst 0, 1) := by decide +kernel
theorem dR_power_2 : decode prog_14_method_123_code 2 = .ok (.putfield 132, 3) := by decide +kernel
theorem dR_power_5 : decode prog_14_method_123_code 5 = .ok (.aload_n 0, 1) := by decide +kernel
theorem dR_power_6 : decode prog_14_method_123_code 6 = .ok (.iconst 0, 1) := by decide +kernel
theorem dR_power_7 : decode prog_14_method_123_code 7 = .ok (.putfield 135, 3) := by decide +kernel
theorem dR_power_10 : decode prog_14_method_123_code 10 = .ok (.aload_n 0, 1) := by decide +kernel
theorem dR_power_11 : decode prog_14_method_123_code 11 = .ok (.invokevirtual 348, 3) := by decide +kernel
theorem dR_power_14 : decode prog_14_method_123_code 14 = .ok (.aload_n 0, 1) := by decide +kernel
theorem dR_power_15 : decode prog_14_method_123_code 15 = .ok (.iload_n 1, 1) := by decide +kernel
theorem dR_power_16 : decode prog_14_method_123_code 16 = .ok (.i2l, 1) := by decide +kernel
theorem dR_power_17 : decode prog_14_method_123_code 17 = .ok (.invokevirtual 357, 3) := by decide +kernel
theorem dR_power_20 : decode prog_14_method_123_code 20 = .ok (.ifCond .ne 9, 3) := by decide +kernel
theorem dR_power_23 : decode prog_14_method_123_code 23 = .ok (.aload_n 0, 1) := by decide +kernel
theorem dR_power_24 : decode prog_14_method_123_code 24 = .ok (.iconst 2, 1) := by decide +kernel
theorem dR_power_25 : decode prog_14_method_123_code 25 = .ok (.invokevirtual 351, 3) := by decide +kernel
theorem dR_power_28 : decode prog_14_method_123_code 28 = .ok (.ireturn, 1) := by decide +kernel
theorem dR_power_29 : decode prog_14_method_123_code 29 = .ok (.aload_n 0, 1) := by decide +kernel
theorem dR_power_30 : decode prog_14_method_123_code 30 = .ok (.iload_n 1, 1) := by decide +kernel
theorem dR_power_31 : decode prog_14_method_123_code 31 = .ok (.invokevirtual 498, 3) := by decide +kernel
theorem dR_power_34 : decode prog_14_method_123_code 34 = .ok (.aload_n 0, 1) := by decide +kernel
theorem dR_power_35 : decode prog_14_method_123_code 35 = .ok (.aload_n 0, 1) := by decide +kernel
theorem dR_power_36 : decode prog_14_method_123_code 36 = .ok (.getfield 110, 3) := by decide +kernel
theorem dR_power_39 : decode prog_14_method_123_code 39 = .ok (.aload_n 0, 1) := by decide +kernel
theorem dR_power_40 : decode prog_14_method_123_code 40 = .ok (.getfield 113, 3) := by decide +kernel
theorem dR_power_43 : decode prog_14_method_123_code 43 = .ok (.invokevirtual 394, 3) := by decide +kernel
theorem dR_power_46 : decode prog_14_method_123_code 46 = .ok (.iconst 1, 1) := by decide +kernel
theorem dR_power_47 : decode prog_14_method_123_code 47 = .ok (.istore_n 2, 1) := by decide +kernel
theorem dR_power_48 : decode prog_14_method_123_code 48 = .ok (.iload_n 2, 1) := by decide +kernel
theorem dR_power_49 : decode prog_14_method_123_code 49 = .ok (.aload_n 0, 1) := by decide +kernel
theorem dR_power_50 : decode prog_14_method_123_code 50 = .ok (.getfield 253, 3) := by decide +kernel
theorem dR_power_53 : decode prog_14_method_123_code 53 = .ok (.if_icmp .gt 50, 3) := by decide +kernel
theorem dR_power_56 : decode prog_14_method_123_code 56 = .ok (.aload_n 0, 1) := by decide +kernel
theorem dR_power_57 : decode prog_14_method_123_code 57 = .ok (.aload_n 0, 1) := by decide +kernel
theorem dR_power_58 : decode prog_14_method_123_code 58 = .ok (.getfield 113, 3) := by decide +kernel
theorem dR_power_61 : decode prog_14_method_123_code 61 = .ok (.invokevirtual 501, 3) := by decide +kernel
theorem dR_power_64 : decode prog_14_method_123_code 64 = .ok (.ifCond .eq 5, 3) := by decide +kernel
theorem dR_power_67 : decode prog_14_method_123_code 67 = .ok (.iload_n 2, 1) := by decide +kernel
theorem dR_power_68 : decode prog_14_method_123_code 68 = .ok (.ireturn, 1) := by decide +kernel
theorem dR_power_69 : decode prog_14_method_123_code 69 = .ok (.aload_n 0, 1) := by decide +kernel
theorem dR_power_70 : decode prog_14_method_123_code 70 = .ok (.aload_n 0, 1) := by decide +kernel
theorem dR_power_71 : decode prog_14_method_123_code 71 = .ok (.getfield 113, 3) := by decide +kernel
theorem dR_power_74 : decode prog_14_method_123_code 74 = .ok (.aload_n 0, 1) := by decide +kernel
theorem dR_power_75 : decode prog_14_method_123_code 75 = .ok (.getfield 110, 3) := by decide +kernel
theorem dR_power_78 : decode prog_14_method_123_code 78 = .ok (.aload_n 0, 1) := by decide +kernel
theorem dR_power_79 : decode prog_14_method_123_code 79 = .ok (.getfield 116, 3) := by decide +kernel
theorem dR_power_82 : decode prog_14_method_123_code 82 = .ok (.invokevirtual 505, 3) := by decide +kernel
theorem dR_power_85 : decode prog_14_method_123_code 85 = .ok (.aload_n 0, 1) := by decide +kernel
theorem dR_power_86 : decode prog_14_method_123_code 86 = .ok (.aload_n 0, 1) := by decide +kernel
theorem dR_power_87 : decode prog_14_method_123_code 87 = .ok (.getfield 116, 3) := by decide +kernel
theorem dR_power_90 : decode prog_14_method_123_code 90 = .ok (.aload_n 0, 1) := by decide +kernel
theorem dR_power_91 : decode prog_14_method_123_code 91 = .ok (.getfield 113, 3) := by decide +kernel
theorem dR_power_94 : decode prog_14_method_123_code 94 = .ok (.invokevirtual 394, 3) := by decide +kernel
theorem dR_power_97 : decode prog_14_method_123_code 97 = .ok (.iinc 2 1, 3) := by decide +kernel
theorem dR_power_100 : decode prog_14_method_123_code 100 = .ok (.goto (-52), 3) := by decide +kernel
theorem dR_power_103 : decode prog_14_method_123_code 103 = .ok (.aload_n 0, 1) := by decide +kernel
theorem dR_power_104 : decode prog_14_method_123_code 104 = .ok (.bipush 8, 2) := by decide +kernel
theorem dR_power_106 : decode prog_14_method_123_code 106 = .ok (.invokevirtual 351, 3) := by decide +kernel
theorem dR_power_109 : decode prog_14_method_123_code 109 = .ok (.ireturn, 1) := by decide +kernel
theorem t_R_power {d : Nat} {x1 : Int} {σ : SG} {Q : Int → SG → Prop} (h : inI x1 → ((∀ σ1, σ1 = up σ 161 1 0 → (∀ σ2, σ2 = up σ1 161 0 0 → Tri d M_R_askNow [vA 161] σ2 (fun r3 σ3 => Tri d M_R_isVector [vA 161, vJ x1] σ3 (fun r4 σ4 => (r4 ≠ 0 → Tri d M_R_matrixOf [vA 161, vI x1] σ4 (fun r6 σ6 => Tri d M_R_copySpan [vA 161, vA 190, vA 191] σ6 (fun r7 σ7 => L (d + 1) M_R_power 48 [vA 161, vU, vI 1] [] σ7 Q))) ∧ (r4 = 0 → Tri d M_R_refuse [vA 161, vI 2] σ4 (fun r8 σ8 => Q r8 σ8)))))))) : Tri (d + 1) M_R_power [vA 161, vI x1] σ Q :=
  Tri_intro rfl (Nat.le_of_ble_eq_true rfl) (ls := [vA 161, vI x1, vU]) rfl (fun hok => L_aload_n dR_power_0 rfl (L_iconst dR_power_1 in_0 (L_putfN fp_R_132 rfl rfl (fun _ => ⟨rfl, rfl⟩) dR_power_2 ⟨ob_161, fun σ1 e1 => L_aload_n dR_power_5 rfl (L_iconst dR_power_6 in_0 (L_putfN fp_R_135 rfl rfl (fun _ => ⟨rfl, rfl⟩) dR_power_7 ⟨ob_161, fun σ2 e2 => L_aload_n dR_power_10 rfl (L_callVV rfl cv_R_askNow (As := []) rfl (tk8 108 rfl rfl) rfl (Nat.le_of_ble_eq_true rfl) dR_power_11 ⟨ob_161, Tri.mono (((h (hok _ (List.mem_of_getElem? (i := 1) rfl))) σ1 e1) σ2 e2) (fun r3 σ3 q3 => L_aload_n dR_power_14 rfl (L_iload_n dR_power_15 rfl (L_i2l dR_power_16 (L_callVI rfl cv_R_isVector (As := [vJ x1]) rfl (tk8 141 rfl rfl) rfl (Nat.le_of_ble_eq_true rfl) dR_power_17 ⟨ob_161, Tri.mono q3 (fun r4 σ4 q4 => L_if_ne dR_power_20 (by decide) ⟨fun c5 => L_aload_n dR_power_29 rfl (L_iload_n dR_power_30 rfl (L_callVV rfl cv_R_matrixOf (As := [vI x1]) rfl (tk9 143 rfl rfl) rfl (Nat.le_of_ble_eq_true rfl) dR_power_31 ⟨ob_161, Tri.mono (q4.1 c5) (fun r6 σ6 q6 => L_aload_n dR_power_34 rfl (L_aload_n dR_power_35 rfl (L_getF (b := 190) fw_R_110 rfl rfl (by decide) dR_power_36 ⟨ob_161, L_aload_n dR_power_39 rfl (L_getF (b := 191) fw_R_113 rfl rfl (by decide) dR_power_40 ⟨ob_161, L_callVV rfl cv_R_copySpan (As := [vA 190, vA 191]) rfl (tk9 2 rfl rfl) rfl (Nat.le_of_ble_eq_true rfl) dR_power_43 ⟨ob_161, Tri.mono q6 (fun r7 σ7 q7 => L_iconst dR_power_46 in_1 (L_istore_n dR_power_47 (by decide) (L_weak [true, false, true] q7)))⟩⟩)⟩)))⟩)), fun c5 => L_aload_n dR_power_23 rfl (L_iconst dR_power_24 in_2 (L_callVI rfl cv_R_refuse (As := [vI 2]) rfl (tk8 117 rfl rfl) rfl (Nat.le_of_ble_eq_true rfl) dR_power_25 ⟨ob_161, Tri.mono (q4.2 c5) (fun r8 σ8 q8 => L_ireturn rfl dR_power_28 q8)⟩))⟩)⟩))))⟩)⟩))⟩)))
theorem s_R_power_48 {d : Nat} {x2 : Int} {σ : SG} {Q : Int → SG → Prop} (h : (σ 161 27 < x2 → Tri d M_R_refuse [vA 161, vI 8] σ (fun r2 σ2 => Q r2 σ2)) ∧ (x2 ≤ σ 161 27 → Tri d M_R_isZero [vA 161, vA 191] σ (fun r3 σ3 => (r3 = 0 → Tri d M_R_times [vA 161, vA 191, vA 190, vA 192] σ3 (fun r5 σ5 => Tri d M_R_copySpan [vA 161, vA 192, vA 191] σ5 (fun r6 σ6 => L (d + 1) M_R_power 48 [vA 161, vU, vI (w32 (x2 + 1))] [] σ6 Q))) ∧ (r3 ≠ 0 → Q x2 σ3)))) : L (d + 1) M_R_power 48 [vA 161, vU, vI x2] [] σ Q :=
  L_iload_n dR_power_48 rfl (L_aload_n dR_power_49 rfl (L_getf fw_R_253 rfl dR_power_50 ⟨ob_161, L_icmp_gt dR_power_53 (by decide) ⟨fun c1 => L_aload_n dR_power_103 rfl (L_bipush dR_power_104 bp_8 in_8 (L_callVI rfl cv_R_refuse (As := [vI 8]) rfl (tk8 117 rfl rfl) rfl (Nat.le_of_ble_eq_true rfl) dR_power_106 ⟨ob_161, Tri.mono (h.1 c1) (fun r2 σ2 q2 => L_ireturn rfl dR_power_109 q2)⟩)), fun c1 => L_aload_n dR_power_56 rfl (L_aload_n dR_power_57 rfl (L_getF (b := 191) fw_R_113 rfl rfl (by decide) dR_power_58 ⟨ob_161, L_callVI rfl cv_R_isZero (As := [vA 191]) rfl (tk9 147 rfl rfl) rfl (Nat.le_of_ble_eq_true rfl) dR_power_61 ⟨ob_161, Tri.mono (h.2 c1) (fun r3 σ3 q3 => L_if_eq dR_power_64 (by decide) ⟨fun c4 => L_aload_n dR_power_69 rfl (L_aload_n dR_power_70 rfl (L_getF (b := 191) fw_R_113 rfl rfl (by decide) dR_power_71 ⟨ob_161, L_aload_n dR_power_74 rfl (L_getF (b := 190) fw_R_110 rfl rfl (by decide) dR_power_75 ⟨ob_161, L_aload_n dR_power_78 rfl (L_getF (b := 192) fw_R_116 rfl rfl (by decide) dR_power_79 ⟨ob_161, L_callVV rfl cv_R_times (As := [vA 191, vA 190, vA 192]) rfl (tk9 151 rfl rfl) rfl (Nat.le_of_ble_eq_true rfl) dR_power_82 ⟨ob_161, Tri.mono (q3.1 c4) (fun r5 σ5 q5 => L_aload_n dR_power_85 rfl (L_aload_n dR_power_86 rfl (L_getF (b := 192) fw_R_116 rfl rfl (by decide) dR_power_87 ⟨ob_161, L_aload_n dR_power_90 rfl (L_getF (b := 191) fw_R_113 rfl rfl (by decide) dR_power_91 ⟨ob_161, L_callVV rfl cv_R_copySpan (As := [vA 192, vA 191]) rfl (tk9 2 rfl rfl) rfl (Nat.le_of_ble_eq_true rfl) dR_power_94 ⟨ob_161, Tri.mono q5 (fun r6 σ6 q6 => L_iinc dR_power_97 rfl (by decide) (L_goto dR_power_100 (by decide) q6))⟩⟩)⟩)))⟩⟩)⟩)⟩)), fun c4 => L_iload_n dR_power_67 rfl (L_ireturn rfl dR_power_68 (q3.2 c4))⟩)⟩⟩))⟩⟩))
theorem dR_derivationSize_0 : decode prog_14_method_124_code 0 = .ok (.aload_n 0, 1) := by decide +kernel
theorem dR_derivationSize_1 : decode prog_14_method_124_code 1 = .ok (.invokevirtual 430, 3) := by decide +kernel
theorem dR_derivationSize_4 : decode prog_14_method_124_code 4 = .ok (.iconst 0, 1) := by decide +kernel
theorem dR_derivationSize_5 : decode prog_14_method_124_code 5 = .ok (.istore_n 1, 1) := by decide +kernel
theorem dR_derivationSize_6 : decode prog_14_method_124_code 6 = .ok (.iload_n 1, 1) := by decide +kernel
theorem dR_derivationSize_7 : decode prog_14_method_124_code 7 = .ok (.aload_n 0, 1) := by decide +kernel
theorem dR_derivationSize_8 : decode prog_14_method_124_code 8 = .ok (.getfield 253, 3) := by decide +kernel
theorem dR_derivationSize_11 : decode prog_14_method_124_code 11 = .ok (.if_icmp .ge 242, 3) := by decide +kernel
theorem dR_derivationSize_14 : decode prog_14_method_124_code 14 = .ok (.iload_n 1, 1) := by decide +kernel
theorem dR_derivationSize_15 : decode prog_14_method_124_code 15 = .ok (.iconst 1, 1) := by decide +kernel
theorem dR_derivationSize_16 : decode prog_14_method_124_code 16 = .ok (.iadd, 1) := by decide +kernel
theorem dR_derivationSize_17 : decode prog_14_method_124_code 17 = .ok (.istore_n 2, 1) := by decide +kernel
theorem dR_derivationSize_18 : decode prog_14_method_124_code 18 = .ok (.iload_n 2, 1) := by decide +kernel
theorem dR_derivationSize_19 : decode prog_14_method_124_code 19 = .ok (.aload_n 0, 1) := by decide +kernel
theorem dR_derivationSize_20 : decode prog_14_method_124_code 20 = .ok (.getfield 253, 3) := by decide +kernel
theorem dR_derivationSize_23 : decode prog_14_method_124_code 23 = .ok (.if_icmp .ge 224, 3) := by decide +kernel
theorem dR_derivationSize_26 : decode prog_14_method_124_code 26 = .ok (.iconst 0, 1) := by decide +kernel
theorem dR_derivationSize_27 : decode prog_14_method_124_code 27 = .ok (.istore_n 3, 1) := by decide +kernel
theorem dR_derivationSize_28 : decode prog_14_method_124_code 28 = .ok (.iload_n 3, 1) := by decide +kernel
theorem dR_derivationSize_29 : decode prog_14_method_124_code 29 = .ok (.aload_n 0, 1) := by decide +kernel
theorem dR_derivationSize_30 : decode prog_14_method_124_code 30 = .ok (.getfield 253, 3) := by decide +kernel
theorem dR_derivationSize_33 : decode prog_14_method_124_code 33 = .ok (.if_icmp .ge 208, 3) := by decide +kernel
theorem dR_derivationSize_36 : decode prog_14_method_124_code 36 = .ok (.iconst 0, 1) := by decide +kernel
theorem dR_derivationSize_37 : decode prog_14_method_124_code 37 = .ok (.istore 4, 2) := by decide +kernel
theorem dR_derivationSize_39 : decode prog_14_method_124_code 39 = .ok (.iload 4, 2) := by decide +kernel
theorem dR_derivationSize_41 : decode prog_14_method_124_code 41 = .ok (.aload_n 0, 1) := by decide +kernel
theorem dR_derivationSize_42 : decode prog_14_method_124_code 42 = .ok (.getfield 253, 3) := by decide +kernel
theorem dR_derivationSize_45 : decode prog_14_method_124_code 45 = .ok (.aload_n 0, 1) := by decide +kernel
theorem dR_derivationSize_46 : decode prog_14_method_124_code 46 = .ok (.getfield 253, 3) := by decide +kernel
theorem dR_derivationSize_49 : decode prog_14_method_124_code 49 = .ok (.imul, 1) := by decide +kernel
theorem dR_derivationSize_50 : decode prog_14_method_124_code 50 = .ok (.if_icmp .ge 17, 3) := by decide +kernel
theorem dR_derivationSize_53 : decode prog_14_method_124_code 53 = .ok (.aload_n 0, 1) := by decide +kernel
theorem dR_derivationSize_54 : decode prog_14_method_124_code 54 = .ok (.getfield 77, 3) := by decide +kernel
theorem dR_derivationSize_57 : decode prog_14_method_124_code 57 = .ok (.iload 4, 2) := by decide +kernel
theorem dR_derivationSize_59 : decode prog_14_method_124_code 59 = .ok (.iconst 0, 1) := by decide +kernel
theorem dR_derivationSize_60 : decode prog_14_method_124_code 60 = .ok (.iastore, 1) := by decide +kernel
theorem dR_derivationSize_61 : decode prog_14_method_124_code 61 = .ok (.iinc 4 1, 3) := by decide +kernel
theorem dR_derivationSize_64 : decode prog_14_method_124_code 64 = .ok (.goto (-25), 3) := by decide +kernel
theorem dR_derivationSize_67 : decode prog_14_method_124_code 67 = .ok (.iconst 0, 1) := by decide +kernel
theorem dR_derivationSize_68 : decode prog_14_method_124_code 68 = .ok (.istore 4, 2) := by decide +kernel
theorem dR_derivationSize_70 : decode prog_14_method_124_code 70 = .ok (.iload 4, 2) := by decide +kernel
theorem dR_derivationSize_72 : decode prog_14_method_124_code 72 = .ok (.aload_n 0, 1) := by decide +kernel
theorem dR_derivationSize_73 : decode prog_14_method_124_code 73 = .ok (.getfield 253, 3) := by decide +kernel
theorem dR_derivationSize_76 : decode prog_14_method_124_code 76 = .ok (.if_icmp .ge 34, 3) := by decide +kernel
theorem dR_derivationSize_79 : decode prog_14_method_124_code 79 = .ok (.aload_n 0, 1) := by decide +kernel
theorem dR_derivationSize_80 : decode prog_14_method_124_code 80 = .ok (.getfield 77, 3) := by decide +kernel
theorem dR_derivationSize_83 : decode prog_14_method_124_code 83 = .ok (.iload 4, 2) := by decide +kernel
theorem dR_derivationSize_85 : decode prog_14_method_124_code 85 = .ok (.aload_n 0, 1) := by decide +kernel
theorem dR_derivationSize_86 : decode prog_14_method_124_code 86 = .ok (.getfield 253, 3) := by decide +kernel
theorem dR_derivationSize_89 : decode prog_14_method_124_code 89 = .ok (.imul, 1) := by decide +kernel
theorem dR_derivationSize_90 : decode prog_14_method_124_code 90 = .ok (.iload_n 3, 1) := by decide +kernel
theorem dR_derivationSize_91 : decode prog_14_method_124_code 91 = .ok (.iadd, 1) := by decide +kernel
theorem dR_derivationSize_92 : decode prog_14_method_124_code 92 = .ok (.dup2, 1) := by decide +kernel
theorem dR_derivationSize_93 : decode prog_14_method_124_code 93 = .ok (.iaload, 1) := by decide +kernel
theorem dR_derivationSize_94 : decode prog_14_method_124_code 94 = .ok (.aload_n 0, 1) := by decide +kernel
theorem dR_derivationSize_95 : decode prog_14_method_124_code 95 = .ok (.iload_n 1, 1) := by decide +kernel
theorem dR_derivationSize_96 : decode prog_14_method_124_code 96 = .ok (.iload_n 2, 1) := by decide +kernel
theorem dR_derivationSize_97 : decode prog_14_method_124_code 97 = .ok (.iload 4, 2) := by decide +kernel
theorem dR_derivationSize_99 : decode prog_14_method_124_code 99 = .ok (.invokevirtual 327, 3) := by decide +kernel
theorem dR_derivationSize_102 : decode prog_14_method_124_code 102 = .ok (.iadd, 1) := by decide +kernel
theorem dR_derivationSize_103 : decode prog_14_method_124_code 103 = .ok (.iastore, 1) := by decide +kernel
theorem dR_derivationSize_104 : decode prog_14_method_124_code 104 = .ok (.iinc 4 1, 3) := by decide +kernel
theorem dR_derivationSize_107 : decode prog_14_method_124_code 107 = .ok (.goto (-37), 3) := by decide +kernel
theorem dR_derivationSize_110 : decode prog_14_method_124_code 110 = .ok (.iconst 0, 1) := by decide +kernel
theorem dR_derivationSize_111 : decode prog_14_method_124_code 111 = .ok (.istore 4, 2) := by decide +kernel
theorem dR_derivationSize_113 : decode prog_14_method_124_code 113 = .ok (.iload 4, 2) := by decide +kernel
theorem dR_derivationSize_115 : decode prog_14_method_124_code 115 = .ok (.aload_n 0, 1) := by decide +kernel
theorem dR_derivationSize_116 : decode prog_14_method_124_code 116 = .ok (.getfield 253, 3) := by decide +kernel
theorem dR_derivationSize_119 : decode prog_14_method_124_code 119 = .ok (.if_icmp .ge 59, 3) := by decide +kernel
theorem dR_derivationSize_122 : decode prog_14_method_124_code 122 = .ok (.aload_n 0, 1) := by decide +kernel
theorem dR_derivationSize_123 : decode prog_14_method_124_code 123 = .ok (.getfield 77, 3) := by decide +kernel
theorem dR_derivationSize_126 : decode prog_14_method_124_code 126 = .ok (.iload_n 1, 1) := by decide +kernel
theorem dR_derivationSize_127 : decode prog_14_method_124_code 127 = .ok (.aload_n 0, 1) := by decide +kernel
theorem dR_derivationSize_128 : decode prog_14_method_124_code 128 = .ok (.getfield 253, 3) := by decide +kernel
theorem dR_derivationSize_131 : decode prog_14_method_124_code 131 = .ok (.imul, 1) := by decide +kernel
theorem dR_derivationSize_132 : decode prog_14_method_124_code 132 = .ok (.iload 4, 2) := by decide +kernel
theorem dR_derivationSize_134 : decode prog_14_method_124_code 134 = .ok (.iadd, 1) := by decide +kernel
theorem dR_derivationSize_135 : decode prog_14_method_124_code 135 = .ok (.dup2, 1) := by decide +kernel
theorem dR_derivationSize_136 : decode prog_14_method_124_code 136 = .ok (.iaload, 1) := by decide +kernel
theorem dR_derivationSize_137 : decode prog_14_method_124_code 137 = .ok (.aload_n 0, 1) := by decide +kernel
theorem dR_derivationSize_138 : decode prog_14_method_124_code 138 = .ok (.iload 4, 2) := by decide +kernel
theorem dR_derivationSize_140 : decode prog_14_method_124_code 140 = .ok (.iload_n 2, 1) := by decide +kernel
theorem dR_derivationSize_141 : decode prog_14_method_124_code 141 = .ok (.iload_n 3, 1) := by decide +kernel
theorem dR_derivationSize_142 : decode prog_14_method_124_code 142 = .ok (.invokevirtual 327, 3) := by decide +kernel
theorem dR_derivationSize_145 : decode prog_14_method_124_code 145 = .ok (.isub, 1) := by decide +kernel
theorem dR_derivationSize_146 : decode prog_14_method_124_code 146 = .ok (.iastore, 1) := by decide +kernel
theorem dR_derivationSize_147 : decode prog_14_method_124_code 147 = .ok (.aload_n 0, 1) := by decide +kernel
theorem dR_derivationSize_148 : decode prog_14_method_124_code 148 = .ok (.getfield 77, 3) := by decide +kernel
theorem dR_derivationSize_151 : decode prog_14_method_124_code 151 = .ok (.iload_n 2, 1) := by decide +kernel
theorem dR_derivationSize_152 : decode prog_14_method_124_code 152 = .ok (.aload_n 0, 1) := by decide +kernel
theorem dR_derivationSize_153 : decode prog_14_method_124_code 153 = .ok (.getfield 253, 3) := by decide +kernel
theorem dR_derivationSize_156 : decode prog_14_method_124_code 156 = .ok (.imul, 1) := by decide +kernel
theorem dR_derivationSize_157 : decode prog_14_method_124_code 157 = .ok (.iload 4, 2) := by decide +kernel
theorem dR_derivationSize_159 : decode prog_14_method_124_code 159 = .ok (.iadd, 1) := by decide +kernel
theorem dR_derivationSize_160 : decode prog_14_method_124_code 160 = .ok (.dup2, 1) := by decide +kernel
theorem dR_derivationSize_161 : decode prog_14_method_124_code 161 = .ok (.iaload, 1) := by decide +kernel
theorem dR_derivationSize_162 : decode prog_14_method_124_code 162 = .ok (.aload_n 0, 1) := by decide +kernel
theorem dR_derivationSize_163 : decode prog_14_method_124_code 163 = .ok (.iload_n 1, 1) := by decide +kernel
theorem dR_derivationSize_164 : decode prog_14_method_124_code 164 = .ok (.iload 4, 2) := by decide +kernel
theorem dR_derivationSize_166 : decode prog_14_method_124_code 166 = .ok (.iload_n 3, 1) := by decide +kernel
theorem dR_derivationSize_167 : decode prog_14_method_124_code 167 = .ok (.invokevirtual 327, 3) := by decide +kernel
theorem dR_derivationSize_170 : decode prog_14_method_124_code 170 = .ok (.isub, 1) := by decide +kernel
theorem dR_derivationSize_171 : decode prog_14_method_124_code 171 = .ok (.iastore, 1) := by decide +kernel
theorem dR_derivationSize_172 : decode prog_14_method_124_code 172 = .ok (.iinc 4 1, 3) := by decide +kernel
theorem dR_derivationSize_175 : decode prog_14_method_124_code 175 = .ok (.goto (-62), 3) := by decide +kernel
theorem dR_derivationSize_178 : decode prog_14_method_124_code 178 = .ok (.iconst 0, 1) := by decide +kernel
theorem dR_derivationSize_179 : decode prog_14_method_124_code 179 = .ok (.istore 4, 2) := by decide +kernel
theorem dR_derivationSize_181 : decode prog_14_method_124_code 181 = .ok (.iload 4, 2) := by decide +kernel
theorem dR_derivationSize_183 : decode prog_14_method_124_code 183 = .ok (.aload_n 0, 1) := by decide +kernel
theorem dR_derivationSize_184 : decode prog_14_method_124_code 184 = .ok (.getfield 253, 3) := by decide +kernel
theorem dR_derivationSize_187 : decode prog_14_method_124_code 187 = .ok (.aload_n 0, 1) := by decide +kernel
theorem dR_derivationSize_188 : decode prog_14_method_124_code 188 = .ok (.getfield 253, 3) := by decide +kernel
theorem dR_derivationSize_191 : decode prog_14_method_124_code 191 = .ok (.imul, 1) := by decide +kernel
theorem dR_derivationSize_192 : decode prog_14_method_124_code 192 = .ok (.if_icmp .ge 30, 3) := by decide +kernel
theorem dR_derivationSize_195 : decode prog_14_method_124_code 195 = .ok (.aload_n 0, 1) := by decide +kernel
theorem dR_derivationSize_196 : decode prog_14_method_124_code 196 = .ok (.getfield 77, 3) := by decide +kernel
theorem dR_derivationSize_199 : decode prog_14_method_124_code 199 = .ok (.iload 4, 2) := by decide +kernel
theorem dR_derivationSize_201 : decode prog_14_method_124_code 201 = .ok (.aload_n 0, 1) := by decide +kernel
theorem dR_derivationSize_202 : decode prog_14_method_124_code 202 = .ok (.getfield 77, 3) := by decide +kernel
theorem dR_derivationSize_205 : decode prog_14_method_124_code 205 = .ok (.iload 4, 2) := by decide +kernel
theorem dR_derivationSize_207 : decode prog_14_method_124_code 207 = .ok (.iaload, 1) := by decide +kernel
theorem dR_derivationSize_208 : decode prog_14_method_124_code 208 = .ok (.aload_n 0, 1) := by decide +kernel
theorem dR_derivationSize_209 : decode prog_14_method_124_code 209 = .ok (.getfield 250, 3) := by decide +kernel
theorem dR_derivationSize_212 : decode prog_14_method_124_code 212 = .ok (.invokestatic 264, 3) := by decide +kernel
theorem dR_derivationSize_215 : decode prog_14_method_124_code 215 = .ok (.iastore, 1) := by decide +kernel
theorem dR_derivationSize_216 : decode prog_14_method_124_code 216 = .ok (.iinc 4 1, 3) := by decide +kernel
theorem dR_derivationSize_219 : decode prog_14_method_124_code 219 = .ok (.goto (-38), 3) := by decide +kernel
theorem dR_derivationSize_222 : decode prog_14_method_124_code 222 = .ok (.aload_n 0, 1) := by decide +kernel
theorem dR_derivationSize_223 : decode prog_14_method_124_code 223 = .ok (.aload_n 0, 1) := by decide +kernel
theorem dR_derivationSize_224 : decode prog_14_method_124_code 224 = .ok (.getfield 253, 3) := by decide +kernel
theorem dR_derivationSize_227 : decode prog_14_method_124_code 227 = .ok (.aload_n 0, 1) := by decide +kernel
theorem dR_derivationSize_228 : decode prog_14_method_124_code 228 = .ok (.getfield 253, 3) := by decide +kernel
theorem dR_derivationSize_231 : decode prog_14_method_124_code 231 = .ok (.imul, 1) := by decide +kernel
theorem dR_derivationSize_232 : decode prog_14_method_124_code 232 = .ok (.invokevirtual 433, 3) := by decide +kernel
theorem dR_derivationSize_235 : decode prog_14_method_124_code 235 = .ok (.iinc 3 1, 3) := by decide +kernel
theorem dR_derivationSize_238 : decode prog_14_method_124_code 238 = .ok (.goto (-210), 3) := by decide +kernel
theorem dR_derivationSize_241 : decode prog_14_method_124_code 241 = .ok (.iinc 2 1, 3) := by decide +kernel
theorem dR_derivationSize_244 : decode prog_14_method_124_code 244 = .ok (.goto (-226), 3) := by decide +kernel
theorem dR_derivationSize_247 : decode prog_14_method_124_code 247 = .ok (.iinc 1 1, 3) := by decide +kernel
theorem dR_derivationSize_250 : decode prog_14_method_124_code 250 = .ok (.goto (-244), 3) := by decide +kernel
theorem dR_derivationSize_253 : decode prog_14_method_124_code 253 = .ok (.aload_n 0, 1) := by decide +kernel
theorem dR_derivationSize_254 : decode prog_14_method_124_code 254 = .ok (.getfield 253, 3) := by decide +kernel
theorem dR_derivationSize_257 : decode prog_14_method_124_code 257 = .ok (.aload_n 0, 1) := by decide +kernel
theorem dR_derivationSize_258 : decode prog_14_method_124_code 258 = .ok (.getfield 253, 3) := by decide +kernel
theorem dR_derivationSize_261 : decode prog_14_method_124_code 261 = .ok (.imul, 1) := by decide +kernel
theorem dR_derivationSize_262 : decode prog_14_method_124_code 262 = .ok (.aload_n 0, 1) := by decide +kernel
theorem dR_derivationSize_263 : decode prog_14_method_124_code 263 = .ok (.getfield 423, 3) := by decide +kernel
theorem dR_derivationSize_266 : decode prog_14_method_124_code 266 = .ok (.isub, 1) := by decide +kernel
theorem dR_derivationSize_267 : decode prog_14_method_124_code 267 = .ok (.ireturn, 1) := by decide +kernel
theorem t_R_derivationSize {d : Nat} {σ : SG} {Q : Int → SG → Prop} (h : Tri d M_R_noRows [vA 161] σ (fun r1 σ1 => L (d + 1) M_R_derivationSize 6 [vA 161, vI 0, vU, vU, vU] [] σ1 Q)) : Tri (d + 1) M_R_derivationSize [vA 161] σ Q :=
  Tri_intro rfl (Nat.le_of_ble_eq_true rfl) (ls := [vA 161, vU, vU, vU, vU]) rfl (fun hok => L_aload_n dR_derivationSize_0 rfl (L_callVV rfl cv_R_noRows (As := []) rfl (tk9 35 rfl rfl) rfl (Nat.le_of_ble_eq_true rfl) dR_derivationSize_1 ⟨ob_161, Tri.mono (h) (fun r1 σ1 q1 => L_iconst dR_derivationSize_4 in_0 (L_istore_n dR_derivationSize_5 (by decide) q1))⟩))
theorem s_R_derivationSize_6 {d : Nat} {x1 : Int} {σ : SG} {Q : Int → SG → Prop} (h : (σ 161 27 ≤ x1 → Q (w32 ((w32 ((σ 161 27) * (σ 161 27))) - (σ 161 39))) σ) ∧ (x1 < σ 161 27 → L (d + 1) M_R_derivationSize 18 [vA 161, vI x1, vI (w32 (x1 + 1)), vU, vU] [] σ Q)) : L (d + 1) M_R_derivationSize 6 [vA 161, vI x1, vU, vU, vU] [] σ Q :=
  L_iload_n dR_derivationSize_6 rfl (L_aload_n dR_derivationSize_7 rfl (L_getf fw_R_253 rfl dR_derivationSize_8 ⟨ob_161, L_icmp_ge dR_derivationSize_11 (by decide) ⟨fun c1 => L_aload_n dR_derivationSize_253 rfl (L_getf fw_R_253 rfl dR_derivationSize_254 ⟨ob_161, L_aload_n dR_derivationSize_257 rfl (L_getf fw_R_253 rfl dR_derivationSize_258 ⟨ob_161, L_imul dR_derivationSize_261 (L_aload_n dR_derivationSize_262 rfl (L_getf fw_R_423 rfl dR_derivationSize_263 ⟨ob_161, L_isub dR_derivationSize_266 (L_ireturn rfl dR_derivationSize_267 (h.1 c1))⟩))⟩)⟩), fun c1 => L_iload_n dR_derivationSize_14 rfl (L_iconst dR_derivationSize_15 in_1 (L_iadd dR_derivationSize_16 (L_istore_n dR_derivationSize_17 (by decide) (h.2 c1))))⟩⟩))
theorem s_R_derivationSize_18 {d : Nat} {x1 x2 : Int} {σ : SG} {Q : Int → SG → Prop} (h : (σ 161 27 ≤ x2 → L (d + 1) M_R_derivationSize 6 [vA 161, vI (w32 (x1 + 1)), vU, vU, vU] [] σ Q) ∧ (x2 < σ 161 27 → L (d + 1) M_R_derivationSize 28 [vA 161, vI x1, vI x2, vI 0, vU] [] σ Q)) : L (d + 1) M_R_derivationSize 18 [vA 161, vI x1, vI x2, vU, vU] [] σ Q :=
  L_iload_n dR_derivationSize_18 rfl (L_aload_n dR_derivationSize_19 rfl (L_getf fw_R_253 rfl dR_derivationSize_20 ⟨ob_161, L_icmp_ge dR_derivationSize_23 (by decide) ⟨fun c1 => L_iinc dR_derivationSize_247 rfl (by decide) (L_goto dR_derivationSize_250 (by decide) (L_weak [true, true, false, true, true] (h.1 c1))), fun c1 => L_iconst dR_derivationSize_26 in_0 (L_istore_n dR_derivationSize_27 (by decide) (h.2 c1))⟩⟩))
theorem s_R_derivationSize_28 {d : Nat} {x1 x2 x3 : Int} {σ : SG} {Q : Int → SG → Prop} (h : (σ 161 27 ≤ x3 → L (d + 1) M_R_derivationSize 18 [vA 161, vI x1, vI (w32 (x2 + 1)), vU, vU] [] σ Q) ∧ (x3 < σ 161 27 → L (d + 1) M_R_derivationSize 39 [vA 161, vI x1, vI x2, vI x3, vI 0] [] σ Q)) : L (d + 1) M_R_derivationSize 28 [vA 161, vI x1, vI x2, vI x3, vU] [] σ Q :=
  L_iload_n dR_derivationSize_28 rfl (L_aload_n dR_derivationSize_29 rfl (L_getf fw_R_253 rfl dR_derivationSize_30 ⟨ob_161, L_icmp_ge dR_derivationSize_33 (by decide) ⟨fun c1 => L_iinc dR_derivationSize_241 rfl (by decide) (L_goto dR_derivationSize_244 (by decide) (L_weak [true, true, true, false, true] (h.1 c1))), fun c1 => L_iconst dR_derivationSize_36 in_0 (L_istore dR_derivationSize_37 (by decide) (h.2 c1))⟩⟩))
theorem s_R_derivationSize_39 {d : Nat} {x1 x2 x3 x4 : Int} {σ : SG} {Q : Int → SG → Prop} (h : (w32 ((σ 161 27) * (σ 161 27)) ≤ x4 → L (d + 1) M_R_derivationSize 70 [vA 161, vI x1, vI x2, vI x3, vI 0] [] σ Q) ∧ (x4 < w32 ((σ 161 27) * (σ 161 27)) → (0 ≤ x4 ∧ x4 < 30) ∧ (∀ σ2, σ2 = up σ 180 x4 0 → L (d + 1) M_R_derivationSize 39 [vA 161, vI x1, vI x2, vI x3, vI (w32 (x4 + 1))] [] σ2 Q))) : L (d + 1) M_R_derivationSize 39 [vA 161, vI x1, vI x2, vI x3, vI x4] [] σ Q :=
  L_iload dR_derivationSize_39 rfl (L_aload_n dR_derivationSize_41 rfl (L_getf fw_R_253 rfl dR_derivationSize_42 ⟨ob_161, L_aload_n dR_derivationSize_45 rfl (L_getf fw_R_253 rfl dR_derivationSize_46 ⟨ob_161, L_imul dR_derivationSize_49 (L_icmp_ge dR_derivationSize_50 (by decide) ⟨fun c1 => L_iconst dR_derivationSize_67 in_0 (L_istore dR_derivationSize_68 (by decide) (h.1 c1)), fun c1 => L_aload_n dR_derivationSize_53 rfl (L_getF (b := 180) fw_R_77 rfl rfl (by decide) dR_derivationSize_54 ⟨ob_161, L_iload dR_derivationSize_57 rfl (L_iconst dR_derivationSize_59 in_0 (L_iastoreL (by decide) kd_180 dR_derivationSize_60 ⟨(h.2 c1).1, fun σ2 e2 => L_iinc dR_derivationSize_61 rfl (by decide) (L_goto dR_derivationSize_64 (by decide) ((h.2 c1).2 σ2 e2))⟩))⟩)⟩)⟩)⟩))
theorem s_R_derivationSize_70 {d : Nat} {x1 x2 x3 x4 : Int} {σ : SG} {Q : Int → SG → Prop} (h : (σ 161 27 ≤ x4 → L (d + 1) M_R_derivationSize 113 [vA 161, vI x1, vI x2, vI x3, vI 0] [] σ Q) ∧ (x4 < σ 161 27 → (0 ≤ w32 ((w32 (x4 * (σ 161 27))) + x3) ∧ w32 ((w32 (x4 * (σ 161 27))) + x3) < 30) ∧ Tri d M_R_table [vA 161, vI x1, vI x2, vI x4] σ (fun r2 σ2 => (0 ≤ w32 ((w32 (x4 * (σ 161 27))) + x3) ∧ w32 ((w32 (x4 * (σ 161 27))) + x3) < 30) ∧ (∀ σ3, σ3 = up σ2 180 (w32 ((w32 (x4 * (σ 161 27))) + x3)) (w32 ((σ 180 (w32 ((w32 (x4 * (σ 161 27))) + x3))) + r2)) → L (d + 1) M_R_derivationSize 70 [vA 161, vI x1, vI x2, vI x3, vI (w32 (x4 + 1))] [] σ3 Q)))) : L (d + 1) M_R_derivationSize 70 [vA 161, vI x1, vI x2, vI x3, vI x4] [] σ Q :=
  L_iload dR_derivationSize_70 rfl (L_aload_n dR_derivationSize_72 rfl (L_getf fw_R_253 rfl dR_derivationSize_73 ⟨ob_161, L_icmp_ge dR_derivationSize_76 (by decide) ⟨fun c1 => L_iconst dR_derivationSize_110 in_0 (L_istore dR_derivationSize_111 (by decide) (h.1 c1)), fun c1 => L_aload_n dR_derivationSize_79 rfl (L_getF (b := 180) fw_R_77 rfl rfl (by decide) dR_derivationSize_80 ⟨ob_161, L_iload dR_derivationSize_83 rfl (L_aload_n dR_derivationSize_85 rfl (L_getf fw_R_253 rfl dR_derivationSize_86 ⟨ob_161, L_imul dR_derivationSize_89 (L_iload_n dR_derivationSize_90 rfl (L_iadd dR_derivationSize_91 (L_dup2 dR_derivationSize_92 n01 n21 (L_ialoadL kd_180 dR_derivationSize_93 ⟨(h.2 c1).1, L_aload_n dR_derivationSize_94 rfl (L_iload_n dR_derivationSize_95 rfl (L_iload_n dR_derivationSize_96 rfl (L_iload dR_derivationSize_97 rfl (L_callVI rfl cv_R_table (As := [vI x1, vI x2, vI x4]) rfl (tk8 121 rfl rfl) rfl (Nat.le_of_ble_eq_true rfl) dR_derivationSize_99 ⟨ob_161, Tri.mono ((h.2 c1).2) (fun r2 σ2 q2 => L_iadd dR_derivationSize_102 (L_iastoreL (by decide) kd_180 dR_derivationSize_103 ⟨q2.1, fun σ3 e3 => L_iinc dR_derivationSize_104 rfl (by decide) (L_goto dR_derivationSize_107 (by decide) (q2.2 σ3 e3))⟩))⟩))))⟩))))⟩))⟩)⟩⟩))
theorem s_R_derivationSize_113 {d : Nat} {x1 x2 x3 x4 : Int} {σ : SG} {Q : Int → SG → Prop} (h : (σ 161 27 ≤ x4 → L (d + 1) M_R_derivationSize 181 [vA 161, vI x1, vI x2, vI x3, vI 0] [] σ Q) ∧ (x4 < σ 161 27 → (0 ≤ w32 ((w32 (x1 * (σ 161 27))) + x4) ∧ w32 ((w32 (x1 * (σ 161 27))) + x4) < 30) ∧ Tri d M_R_table [vA 161, vI x4, vI x2, vI x3] σ (fun r2 σ2 => (0 ≤ w32 ((w32 (x1 * (σ 161 27))) + x4) ∧ w32 ((w32 (x1 * (σ 161 27))) + x4) < 30) ∧ (∀ σ3, σ3 = up σ2 180 (w32 ((w32 (x1 * (σ 161 27))) + x4)) (w32 ((σ 180 (w32 ((w32 (x1 * (σ 161 27))) + x4))) - r2)) → (0 ≤ w32 ((w32 (x2 * (σ3 161 27))) + x4) ∧ w32 ((w32 (x2 * (σ3 161 27))) + x4) < 30) ∧ Tri d M_R_table [vA 161, vI x1, vI x4, vI x3] σ3 (fun r4 σ4 => (0 ≤ w32 ((w32 (x2 * (σ3 161 27))) + x4) ∧ w32 ((w32 (x2 * (σ3 161 27))) + x4) < 30) ∧ (∀ σ5, σ5 = up σ4 180 (w32 ((w32 (x2 * (σ3 161 27))) + x4)) (w32 ((σ3 180 (w32 ((w32 (x2 * (σ3 161 27))) + x4))) - r4)) → L (d + 1) M_R_derivationSize 113 [vA 161, vI x1, vI x2, vI x3, vI (w32 (x4 + 1))] [] σ5 Q)))))) : L (d + 1) M_R_derivationSize 113 [vA 161, vI x1, vI x2, vI x3, vI x4] [] σ Q :=
  L_iload dR_derivationSize_113 rfl (L_aload_n dR_derivationSize_115 rfl (L_getf fw_R_253 rfl dR_derivationSize_116 ⟨ob_161, L_icmp_ge dR_derivationSize_119 (by decide) ⟨fun c1 => L_iconst dR_derivationSize_178 in_0 (L_istore dR_derivationSize_179 (by decide) (h.1 c1)), fun c1 => L_aload_n dR_derivationSize_122 rfl (L_getF (b := 180) fw_R_77 rfl rfl (by decide) dR_derivationSize_123 ⟨ob_161, L_iload_n dR_derivationSize_126 rfl (L_aload_n dR_derivationSize_127 rfl (L_getf fw_R_253 rfl dR_derivationSize_128 ⟨ob_161, L_imul dR_derivationSize_131 (L_iload dR_derivationSize_132 rfl (L_iadd dR_derivationSize_134 (L_dup2 dR_derivationSize_135 n01 n21 (L_ialoadL kd_180 dR_derivationSize_136 ⟨(h.2 c1).1, L_aload_n dR_derivationSize_137 rfl (L_iload dR_derivationSize_138 rfl (L_iload_n dR_derivationSize_140 rfl (L_iload_n dR_derivationSize_141 rfl (L_callVI rfl cv_R_table (As := [vI x4, vI x2, vI x3]) rfl (tk8 121 rfl rfl) rfl (Nat.le_of_ble_eq_true rfl) dR_derivationSize_142 ⟨ob_161, Tri.mono ((h.2 c1).2) (fun r2 σ2 q2 => L_isub dR_derivationSize_145 (L_iastoreL (by decide) kd_180 dR_derivationSize_146 ⟨q2.1, fun σ3 e3 => L_aload_n dR_derivationSize_147 rfl (L_getF (b := 180) fw_R_77 rfl rfl (by decide) dR_derivationSize_148 ⟨ob_161, L_iload_n dR_derivationSize_151 rfl (L_aload_n dR_derivationSize_152 rfl (L_getf fw_R_253 rfl dR_derivationSize_153 ⟨ob_161, L_imul dR_derivationSize_156 (L_iload dR_derivationSize_157 rfl (L_iadd dR_derivationSize_159 (L_dup2 dR_derivationSize_160 n01 n21 (L_ialoadL kd_180 dR_derivationSize_161 ⟨(q2.2 σ3 e3).1, L_aload_n dR_derivationSize_162 rfl (L_iload_n dR_derivationSize_163 rfl (L_iload dR_derivationSize_164 rfl (L_iload_n dR_derivationSize_166 rfl (L_callVI rfl cv_R_table (As := [vI x1, vI x4, vI x3]) rfl (tk8 121 rfl rfl) rfl (Nat.le_of_ble_eq_true rfl) dR_derivationSize_167 ⟨ob_161, Tri.mono ((q2.2 σ3 e3).2) (fun r4 σ4 q4 => L_isub dR_derivationSize_170 (L_iastoreL (by decide) kd_180 dR_derivationSize_171 ⟨q4.1, fun σ5 e5 => L_iinc dR_derivationSize_172 rfl (by decide) (L_goto dR_derivationSize_175 (by decide) (q4.2 σ5 e5))⟩))⟩))))⟩))))⟩))⟩)⟩))⟩))))⟩))))⟩))⟩)⟩⟩))
theorem s_R_derivationSize_181 {d : Nat} {x1 x2 x3 x4 : Int} {σ : SG} {Q : Int → SG → Prop} (h : (w32 ((σ 161 27) * (σ 161 27)) ≤ x4 → Tri d M_R_addEquation [vA 161, vI (w32 ((σ 161 27) * (σ 161 27)))] σ (fun r2 σ2 => L (d + 1) M_R_derivationSize 28 [vA 161, vI x1, vI x2, vI (w32 (x3 + 1)), vU] [] σ2 Q)) ∧ (x4 < w32 ((σ 161 27) * (σ 161 27)) → (0 ≤ x4 ∧ x4 < 30) ∧ Tri d M_R_left [vI (σ 180 x4), vI (σ 161 26)] σ (fun r3 σ3 => (0 ≤ x4 ∧ x4 < 30) ∧ (∀ σ4, σ4 = up σ3 180 x4 r3 → L (d + 1) M_R_derivationSize 181 [vA 161, vI x1, vI x2, vI x3, vI (w32 (x4 + 1))] [] σ4 Q)))) : L (d + 1) M_R_derivationSize 181 [vA 161, vI x1, vI x2, vI x3, vI x4] [] σ Q :=
  L_iload dR_derivationSize_181 rfl (L_aload_n dR_derivationSize_183 rfl (L_getf fw_R_253 rfl dR_derivationSize_184 ⟨ob_161, L_aload_n dR_derivationSize_187 rfl (L_getf fw_R_253 rfl dR_derivationSize_188 ⟨ob_161, L_imul dR_derivationSize_191 (L_icmp_ge dR_derivationSize_192 (by decide) ⟨fun c1 => L_aload_n dR_derivationSize_222 rfl (L_aload_n dR_derivationSize_223 rfl (L_getf fw_R_253 rfl dR_derivationSize_224 ⟨ob_161, L_aload_n dR_derivationSize_227 rfl (L_getf fw_R_253 rfl dR_derivationSize_228 ⟨ob_161, L_imul dR_derivationSize_231 (L_callVV rfl cv_R_addEquation (As := [vI (w32 ((σ 161 27) * (σ 161 27)))]) rfl (tk9 39 rfl rfl) rfl (Nat.le_of_ble_eq_true rfl) dR_derivationSize_232 ⟨ob_161, Tri.mono (h.1 c1) (fun r2 σ2 q2 => L_iinc dR_derivationSize_235 rfl (by decide) (L_goto dR_derivationSize_238 (by decide) (L_weak [true, true, true, true, false] q2)))⟩)⟩)⟩)), fun c1 => L_aload_n dR_derivationSize_195 rfl (L_getF (b := 180) fw_R_77 rfl rfl (by decide) dR_derivationSize_196 ⟨ob_161, L_iload dR_derivationSize_199 rfl (L_aload_n dR_derivationSize_201 rfl (L_getF (b := 180) fw_R_77 rfl rfl (by decide) dR_derivationSize_202 ⟨ob_161, L_iload dR_derivationSize_205 rfl (L_ialoadL kd_180 dR_derivationSize_207 ⟨(h.2 c1).1, L_aload_n dR_derivationSize_208 rfl (L_getf fw_R_250 rfl dR_derivationSize_209 ⟨ob_161, L_callSI rfl cs_R_left (As := [vI (σ 180 x4), vI (σ 161 26)]) rfl (tk8 93 rfl rfl) rfl (Nat.le_of_ble_eq_true rfl) dR_derivationSize_212 (Tri.mono ((h.2 c1).2) (fun r3 σ3 q3 => L_iastoreL (by decide) kd_180 dR_derivationSize_215 ⟨q3.1, fun σ4 e4 => L_iinc dR_derivationSize_216 rfl (by decide) (L_goto dR_derivationSize_219 (by decide) (q3.2 σ4 e4))⟩))⟩)⟩)⟩))⟩)⟩)⟩)⟩))
theorem dR_derivations_0 : decode prog_14_method_125_code 0 = .ok (.aload_n 0, 1) := by decide +kernel
theorem dR_derivations_1 : decode prog_14_method_125_code 1 = .ok (.iconst 0, 1) := by decide +kernel
theorem dR_derivations_2 : decode prog_14_method_125_code 2 = .ok (.putfield 132, 3) := by decide +kernel
theorem dR_derivations_5 : decode prog_14_method_125_code 5 = .ok (.aload_n 0, 1) := by decide +kernel
theorem dR_derivations_6 : decode prog_14_method_125_code 6 = .ok (.iconst 0, 1) := by decide +kernel
theorem dR_derivations_7 : decode prog_14_method_125_code 7 = .ok (.putfield 135, 3) := by decide +kernel
theorem dR_derivations_10 : decode prog_14_method_125_code 10 = .ok (.aload_n 0, 1) := by decide +kernel
theorem dR_derivations_11 : decode prog_14_method_125_code 11 = .ok (.invokevirtual 348, 3) := by decide +kernel
theorem dR_derivations_14 : decode prog_14_method_125_code 14 = .ok (.iload_n 1, 1) := by decide +kernel
theorem dR_derivations_15 : decode prog_14_method_125_code 15 = .ok (.i2l, 1) := by decide +kernel
theorem dR_derivations_16 : decode prog_14_method_125_code 16 = .ok (.lconst 0, 1) := by decide +kernel
theorem dR_derivations_17 : decode prog_14_method_125_code 17 = .ok (.ldc2_w 382, 3) := by decide +kernel
theorem dR_derivations_20 : decode prog_14_method_125_code 20 = .ok (.invokestatic 167, 3) := by decide +kernel
theorem dR_derivations_23 : decode prog_14_method_125_code 23 = .ok (.ifCond .ne 9, 3) := by decide +kernel
theorem dR_derivations_26 : decode prog_14_method_125_code 26 = .ok (.aload_n 0, 1) := by decide +kernel
theorem dR_derivations_27 : decode prog_14_method_125_code 27 = .ok (.iconst 5, 1) := by decide +kernel
theorem dR_derivations_28 : decode prog_14_method_125_code 28 = .ok (.invokevirtual 351, 3) := by decide +kernel
theorem dR_derivations_31 : decode prog_14_method_125_code 31 = .ok (.ireturn, 1) := by decide +kernel
theorem dR_derivations_32 : decode prog_14_method_125_code 32 = .ok (.aload_n 0, 1) := by decide +kernel
theorem dR_derivations_33 : decode prog_14_method_125_code 33 = .ok (.invokevirtual 509, 3) := by decide +kernel
theorem dR_derivations_36 : decode prog_14_method_125_code 36 = .ok (.istore_n 2, 1) := by decide +kernel
theorem dR_derivations_37 : decode prog_14_method_125_code 37 = .ok (.aload_n 0, 1) := by decide +kernel
theorem dR_derivations_38 : decode prog_14_method_125_code 38 = .ok (.getfield 253, 3) := by decide +kernel
theorem dR_derivations_41 : decode prog_14_method_125_code 41 = .ok (.aload_n 0, 1) := by decide +kernel
theorem dR_derivations_42 : decode prog_14_method_125_code 42 = .ok (.invokevirtual 436, 3) := by decide +kernel
theorem dR_derivations_45 : decode prog_14_method_125_code 45 = .ok (.isub, 1) := by decide +kernel
theorem dR_derivations_46 : decode prog_14_method_125_code 46 = .ok (.istore_n 3, 1) := by decide +kernel
theorem dR_derivations_47 : decode prog_14_method_125_code 47 = .ok (.iload_n 1, 1) := by decide +kernel
theorem dR_derivations_48 : decode prog_14_method_125_code 48 = .ok (.ifCond .ne 7, 3) := by decide +kernel
theorem dR_derivations_51 : decode prog_14_method_125_code 51 = .ok (.iload_n 2, 1) := by decide +kernel
theorem dR_derivations_52 : decode prog_14_method_125_code 52 = .ok (.goto 15, 3) := by decide +kernel
theorem dR_derivations_55 : decode prog_14_method_125_code 55 = .ok (.iload_n 1, 1) := by decide +kernel
theorem dR_derivations_56 : decode prog_14_method_125_code 56 = .ok (.iconst 1, 1) := by decide +kernel
theorem dR_derivations_57 : decode prog_14_method_125_code 57 = .ok (.if_icmp .ne 7, 3) := by decide +kernel
theorem dR_derivations_60 : decode prog_14_method_125_code 60 = .ok (.iload_n 3, 1) := by decide +kernel
theorem dR_derivations_61 : decode prog_14_method_125_code 61 = .ok (.goto 6, 3) := by decide +kernel
theorem dR_derivations_64 : decode prog_14_method_125_code 64 = .ok (.iload_n 2, 1) := by decide +kernel
theorem dR_derivations_65 : decode prog_14_method_125_code 65 = .ok (.iload_n 3, 1) := by decide +kernel
theorem dR_derivations_66 : decode prog_14_method_125_code 66 = .ok (.isub, 1) := by decide +kernel
theorem dR_derivations_67 : decode prog_14_method_125_code 67 = .ok (.ireturn, 1) := by decide +kernel
theorem t_R_derivations {d : Nat} {x1 : Int} {σ : SG} {Q : Int → SG → Prop} (h : inI x1 → ((∀ σ1, σ1 = up σ 161 1 0 → (∀ σ2, σ2 = up σ1 161 0 0 → Tri d M_R_askNow [vA 161] σ2 (fun r3 σ3 => Tri d M_R_isIn [vJ x1, vJ 0, vJ 2] σ3 (fun r4 σ4 => (r4 ≠ 0 → Tri d M_R_derivationSize [vA 161] σ4 (fun r6 σ6 => Tri d M_R_centreSize [vA 161] σ6 (fun r7 σ7 => (x1 ≠ 0 → (x1 ≠ 1 → Q (w32 (r6 - (w32 ((σ6 161 27) - r7)))) σ7) ∧ (x1 = 1 → Q (w32 ((σ6 161 27) - r7)) σ7)) ∧ (x1 = 0 → Q r6 σ7)))) ∧ (r4 = 0 → Tri d M_R_refuse [vA 161, vI 5] σ4 (fun r10 σ10 => Q r10 σ10)))))))) : Tri (d + 1) M_R_derivations [vA 161, vI x1] σ Q :=
  Tri_intro rfl (Nat.le_of_ble_eq_true rfl) (ls := [vA 161, vI x1, vU, vU]) rfl (fun hok => L_aload_n dR_derivations_0 rfl (L_iconst dR_derivations_1 in_0 (L_putfN fp_R_132 rfl rfl (fun _ => ⟨rfl, rfl⟩) dR_derivations_2 ⟨ob_161, fun σ1 e1 => L_aload_n dR_derivations_5 rfl (L_iconst dR_derivations_6 in_0 (L_putfN fp_R_135 rfl rfl (fun _ => ⟨rfl, rfl⟩) dR_derivations_7 ⟨ob_161, fun σ2 e2 => L_aload_n dR_derivations_10 rfl (L_callVV rfl cv_R_askNow (As := []) rfl (tk8 108 rfl rfl) rfl (Nat.le_of_ble_eq_true rfl) dR_derivations_11 ⟨ob_161, Tri.mono (((h (hok _ (List.mem_of_getElem? (i := 1) rfl))) σ1 e1) σ2 e2) (fun r3 σ3 q3 => L_iload_n dR_derivations_14 rfl (L_i2l dR_derivations_15 (L_lconst (x := 0) dR_derivations_16 rfl inJ_0 (L_ldc2 (x := 2) (tk8 193 rfl rfl) rfl inJ_2 dR_derivations_17 (L_callSI rfl cs_R_isIn (As := [vJ x1, vJ 0, vJ 2]) rfl (tk8 47 rfl rfl) rfl (Nat.le_of_ble_eq_true rfl) dR_derivations_20 (Tri.mono q3 (fun r4 σ4 q4 => L_if_ne dR_derivations_23 (by decide) ⟨fun c5 => L_aload_n dR_derivations_32 rfl (L_callVI rfl cv_R_derivationSize (As := []) rfl (tk9 159 rfl rfl) rfl (Nat.le_of_ble_eq_true rfl) dR_derivations_33 ⟨ob_161, Tri.mono (q4.1 c5) (fun r6 σ6 q6 => L_istore_n dR_derivations_36 (by decide) (L_aload_n dR_derivations_37 rfl (L_getf fw_R_253 rfl dR_derivations_38 ⟨ob_161, L_aload_n dR_derivations_41 rfl (L_callVI rfl cv_R_centreSize (As := []) rfl (tk9 31 rfl rfl) rfl (Nat.le_of_ble_eq_true rfl) dR_derivations_42 ⟨ob_161, Tri.mono q6 (fun r7 σ7 q7 => L_isub dR_derivations_45 (L_istore_n dR_derivations_46 (by decide) (L_iload_n dR_derivations_47 rfl (L_if_ne dR_derivations_48 (by decide) ⟨fun c8 => L_iload_n dR_derivations_55 rfl (L_iconst dR_derivations_56 in_1 (L_icmp_ne dR_derivations_57 (by decide) ⟨fun c9 => L_iload_n dR_derivations_64 rfl (L_iload_n dR_derivations_65 rfl (L_isub dR_derivations_66 (L_ireturn rfl dR_derivations_67 ((q7.1 c8).1 c9)))), fun c9 => L_iload_n dR_derivations_60 rfl (L_goto dR_derivations_61 (by decide) (L_ireturn rfl dR_derivations_67 ((q7.1 c8).2 c9)))⟩)), fun c8 => L_iload_n dR_derivations_51 rfl (L_goto dR_derivations_52 (by decide) (L_ireturn rfl dR_derivations_67 (q7.2 c8)))⟩))))⟩)⟩)))⟩), fun c5 => L_aload_n dR_derivations_26 rfl (L_iconst dR_derivations_27 in_5 (L_callVI rfl cv_R_refuse (As := [vI 5]) rfl (tk8 117 rfl rfl) rfl (Nat.le_of_ble_eq_true rfl) dR_derivations_28 ⟨ob_161, Tri.mono (q4.2 c5) (fun r10 σ10 q10 => L_ireturn rfl dR_derivations_31 q10)⟩))⟩)))))))⟩)⟩))⟩)))
theorem dR_formRank_0 : decode prog_14_method_126_code 0 = .ok (.aload_n 0, 1) := by decide +kernel
theorem dR_formRank_1 : decode prog_14_method_126_code 1 = .ok (.invokevirtual 430, 3) := by decide +kernel
theorem dR_formRank_4 : decode prog_14_method_126_code 4 = .ok (.iconst 0, 1) := by decide +kernel
theorem dR_formRank_5 : decode prog_14_method_126_code 5 = .ok (.istore_n 1, 1) := by decide +kernel
theorem dR_formRank_6 : decode prog_14_method_126_code 6 = .ok (.iload_n 1, 1) := by decide +kernel
theorem dR_formRank_7 : decode prog_14_method_126_code 7 = .ok (.aload_n 0, 1) := by decide +kernel
theorem dR_formRank_8 : decode prog_14_method_126_code 8 = .ok (.getfield 253, 3) := by decide +kernel
theorem dR_formRank_11 : decode prog_14_method_126_code 11 = .ok (.if_icmp .ge 105, 3) := by decide +kernel
theorem dR_formRank_14 : decode prog_14_method_126_code 14 = .ok (.iconst 0, 1) := by decide +kernel
theorem dR_formRank_15 : decode prog_14_method_126_code 15 = .ok (.istore_n 2, 1) := by decide +kernel
theorem dR_formRank_16 : decode prog_14_method_126_code 16 = .ok (.iload_n 2, 1) := by decide +kernel
theorem dR_formRank_17 : decode prog_14_method_126_code 17 = .ok (.aload_n 0, 1) := by decide +kernel
theorem dR_formRank_18 : decode prog_14_method_126_code 18 = .ok (.getfield 253, 3) := by decide +kernel
theorem dR_formRank_21 : decode prog_14_method_126_code 21 = .ok (.if_icmp .ge 81, 3) := by decide +kernel
theorem dR_formRank_24 : decode prog_14_method_126_code 24 = .ok (.iconst 0, 1) := by decide +kernel
theorem dR_formRank_25 : decode prog_14_method_126_code 25 = .ok (.istore_n 3, 1) := by decide +kernel
theorem dR_formRank_26 : decode prog_14_method_126_code 26 = .ok (.iconst 0, 1) := by decide +kernel
theorem dR_formRank_27 : decode prog_14_method_126_code 27 = .ok (.istore 4, 2) := by decide +kernel
theorem dR_formRank_29 : decode prog_14_method_126_code 29 = .ok (.iload 4, 2) := by decide +kernel
theorem dR_formRank_31 : decode prog_14_method_126_code 31 = .ok (.aload_n 0, 1) := by decide +kernel
theorem dR_formRank_32 : decode prog_14_method_126_code 32 = .ok (.getfield 253, 3) := by decide +kernel
theorem dR_formRank_35 : decode prog_14_method_126_code 35 = .ok (.if_icmp .ge 49, 3) := by decide +kernel
theorem dR_formRank_38 : decode prog_14_method_126_code 38 = .ok (.iconst 0, 1) := by decide +kernel
theorem dR_formRank_39 : decode prog_14_method_126_code 39 = .ok (.istore 5, 2) := by decide +kernel
theorem dR_formRank_41 : decode prog_14_method_126_code 41 = .ok (.iload 5, 2) := by decide +kernel
theorem dR_formRank_43 : decode prog_14_method_126_code 43 = .ok (.aload_n 0, 1) := by decide +kernel
theorem dR_formRank_44 : decode prog_14_method_126_code 44 = .ok (.getfield 253, 3) := by decide +kernel
theorem dR_formRank_47 : decode prog_14_method_126_code 47 = .ok (.if_icmp .ge 31, 3) := by decide +kernel
theorem dR_formRank_50 : decode prog_14_method_126_code 50 = .ok (.iload_n 3, 1) := by decide +kernel
theorem dR_formRank_51 : decode prog_14_method_126_code 51 = .ok (.aload_n 0, 1) := by decide +kernel
theorem dR_formRank_52 : decode prog_14_method_126_code 52 = .ok (.iload_n 2, 1) := by decide +kernel
theorem dR_formRank_53 : decode prog_14_method_126_code 53 = .ok (.iload 4, 2) := by decide +kernel
theorem dR_formRank_55 : decode prog_14_method_126_code 55 = .ok (.iload 5, 2) := by decide +kernel
theorem dR_formRank_57 : decode prog_14_method_126_code 57 = .ok (.invokevirtual 327, 3) := by decide +kernel
theorem dR_formRank_60 : decode prog_14_method_126_code 60 = .ok (.aload_n 0, 1) := by decide +kernel
theorem dR_formRank_61 : decode prog_14_method_126_code 61 = .ok (.iload_n 1, 1) := by decide +kernel
theorem dR_formRank_62 : decode prog_14_method_126_code 62 = .ok (.iload 5, 2) := by decide +kernel
theorem dR_formRank_64 : decode prog_14_method_126_code 64 = .ok (.iload 4, 2) := by decide +kernel
theorem dR_formRank_66 : decode prog_14_method_126_code 66 = .ok (.invokevirtual 327, 3) := by decide +kernel
theorem dR_formRank_69 : decode prog_14_method_126_code 69 = .ok (.imul, 1) := by decide +kernel
theorem dR_formRank_70 : decode prog_14_method_126_code 70 = .ok (.iadd, 1) := by decide +kernel
theorem dR_formRank_71 : decode prog_14_method_126_code 71 = .ok (.istore_n 3, 1) := by decide +kernel
theorem dR_formRank_72 : decode prog_14_method_126_code 72 = .ok (.iinc 5 1, 3) := by decide +kernel
theorem dR_formRank_75 : decode prog_14_method_126_code 75 = .ok (.goto (-34), 3) := by decide +kernel
theorem dR_formRank_78 : decode prog_14_method_126_code 78 = .ok (.iinc 4 1, 3) := by decide +kernel
theorem dR_formRank_81 : decode prog_14_method_126_code 81 = .ok (.goto (-52), 3) := by decide +kernel
theorem dR_formRank_84 : decode prog_14_method_126_code 84 = .ok (.aload_n 0, 1) := by decide +kernel
theorem dR_formRank_85 : decode prog_14_method_126_code 85 = .ok (.getfield 77, 3) := by decide +kernel
theorem dR_formRank_88 : decode prog_14_method_126_code 88 = .ok (.iload_n 2, 1) := by decide +kernel
theorem dR_formRank_89 : decode prog_14_method_126_code 89 = .ok (.iload_n 3, 1) := by decide +kernel
theorem dR_formRank_90 : decode prog_14_method_126_code 90 = .ok (.aload_n 0, 1) := by decide +kernel
theorem dR_formRank_91 : decode prog_14_method_126_code 91 = .ok (.getfield 250, 3) := by decide +kernel
theorem dR_formRank_94 : decode prog_14_method_126_code 94 = .ok (.irem, 1) := by decide +kernel
theorem dR_formRank_95 : decode prog_14_method_126_code 95 = .ok (.iastore, 1) := by decide +kernel
theorem dR_formRank_96 : decode prog_14_method_126_code 96 = .ok (.iinc 2 1, 3) := by decide +kernel
theorem dR_formRank_99 : decode prog_14_method_126_code 99 = .ok (.goto (-83), 3) := by decide +kernel
theorem dR_formRank_102 : decode prog_14_method_126_code 102 = .ok (.aload_n 0, 1) := by decide +kernel
theorem dR_formRank_103 : decode prog_14_method_126_code 103 = .ok (.aload_n 0, 1) := by decide +kernel
theorem dR_formRank_104 : decode prog_14_method_126_code 104 = .ok (.getfield 253, 3) := by decide +kernel
theorem dR_formRank_107 : decode prog_14_method_126_code 107 = .ok (.invokevirtual 433, 3) := by decide +kernel
theorem dR_formRank_110 : decode prog_14_method_126_code 110 = .ok (.iinc 1 1, 3) := by decide +kernel
theorem dR_formRank_113 : decode prog_14_method_126_code 113 = .ok (.goto (-107), 3) := by decide +kernel
theorem dR_formRank_116 : decode prog_14_method_126_code 116 = .ok (.aload_n 0, 1) := by decide +kernel
theorem dR_formRank_117 : decode prog_14_method_126_code 117 = .ok (.getfield 423, 3) := by decide +kernel
theorem dR_formRank_120 : decode prog_14_method_126_code 120 = .ok (.ireturn, 1) := by decide +kernel
theorem t_R_formRank {d : Nat} {σ : SG} {Q : Int → SG → Prop} (h : Tri d M_R_noRows [vA 161] σ (fun r1 σ1 => L (d + 1) M_R_formRank 6 [vA 161, vI 0, vU, vU, vU, vU] [] σ1 Q)) : Tri (d + 1) M_R_formRank [vA 161] σ Q :=
  Tri_intro rfl (Nat.le_of_ble_eq_true rfl) (ls := [vA 161, vU, vU, vU, vU, vU]) rfl (fun hok => L_aload_n dR_formRank_0 rfl (L_callVV rfl cv_R_noRows (As := []) rfl (tk9 35 rfl rfl) rfl (Nat.le_of_ble_eq_true rfl) dR_formRank_1 ⟨ob_161, Tri.mono (h) (fun r1 σ1 q1 => L_iconst dR_formRank_4 in_0 (L_istore_n dR_formRank_5 (by decide) q1))⟩))
theorem s_R_formRank_6 {d : Nat} {x1 : Int} {σ : SG} {Q : Int → SG → Prop} (h : (σ 161 27 ≤ x1 → Q (σ 161 39) σ) ∧ (x1 < σ 161 27 → L (d + 1) M_R_formRank 16 [vA 161, vI x1, vI 0, vU, vU, vU] [] σ Q)) : L (d + 1) M_R_formRank 6 [vA 161, vI x1, vU, vU, vU, vU] [] σ Q :=
  L_iload_n dR_formRank_6 rfl (L_aload_n dR_formRank_7 rfl (L_getf fw_R_253 rfl dR_formRank_8 ⟨ob_161, L_icmp_ge dR_formRank_11 (by decide) ⟨fun c1 => L_aload_n dR_formRank_116 rfl (L_getf fw_R_423 rfl dR_formRank_117 ⟨ob_161, L_ireturn rfl dR_formRank_120 (h.1 c1)⟩), fun c1 => L_iconst dR_formRank_14 in_0 (L_istore_n dR_formRank_15 (by decide) (h.2 c1))⟩⟩))
theorem s_R_formRank_16 {d : Nat} {x1 x2 : Int} {σ : SG} {Q : Int → SG → Prop} (h : (σ 161 27 ≤ x2 → Tri d M_R_addEquation [vA 161, vI (σ 161 27)] σ (fun r2 σ2 => L (d + 1) M_R_formRank 6 [vA 161, vI (w32 (x1 + 1)), vU, vU, vU, vU] [] σ2 Q)) ∧ (x2 < σ 161 27 → L (d + 1) M_R_formRank 29 [vA 161, vI x1, vI x2, vI 0, vI 0, vU] [] σ Q)) : L (d + 1) M_R_formRank 16 [vA 161, vI x1, vI x2, vU, vU, vU] [] σ Q :=
  L_iload_n dR_formRank_16 rfl (L_aload_n dR_formRank_17 rfl (L_getf fw_R_253 rfl dR_formRank_18 ⟨ob_161, L_icmp_ge dR_formRank_21 (by decide) ⟨fun c1 => L_aload_n dR_formRank_102 rfl (L_aload_n dR_formRank_103 rfl (L_getf fw_R_253 rfl dR_formRank_104 ⟨ob_161, L_callVV rfl cv_R_addEquation (As := [vI (σ 161 27)]) rfl (tk9 39 rfl rfl) rfl (Nat.le_of_ble_eq_true rfl) dR_formRank_107 ⟨ob_161, Tri.mono (h.1 c1) (fun r2 σ2 q2 => L_iinc dR_formRank_110 rfl (by decide) (L_goto dR_formRank_113 (by decide) (L_weak [true, true, false, true, true, true] q2)))⟩⟩)), fun c1 => L_iconst dR_formRank_24 in_0 (L_istore_n dR_formRank_25 (by decide) (L_iconst dR_formRank_26 in_0 (L_istore dR_formRank_27 (by decide) (h.2 c1))))⟩⟩))
theorem s_R_formRank_29 {d : Nat} {x1 x2 x3 x4 : Int} {σ : SG} {Q : Int → SG → Prop} (h : (σ 161 27 ≤ x4 → σ 161 26 ≠ 0 ∧ (0 ≤ x2 ∧ x2 < 30) ∧ (∀ σ2, σ2 = up σ 180 x2 (x3.tmod (σ 161 26)) → L (d + 1) M_R_formRank 16 [vA 161, vI x1, vI (w32 (x2 + 1)), vU, vU, vU] [] σ2 Q)) ∧ (x4 < σ 161 27 → L (d + 1) M_R_formRank 41 [vA 161, vI x1, vI x2, vI x3, vI x4, vI 0] [] σ Q)) : L (d + 1) M_R_formRank 29 [vA 161, vI x1, vI x2, vI x3, vI x4, vU] [] σ Q :=
  L_iload dR_formRank_29 rfl (L_aload_n dR_formRank_31 rfl (L_getf fw_R_253 rfl dR_formRank_32 ⟨ob_161, L_icmp_ge dR_formRank_35 (by decide) ⟨fun c1 => L_aload_n dR_formRank_84 rfl (L_getF (b := 180) fw_R_77 rfl rfl (by decide) dR_formRank_85 ⟨ob_161, L_iload_n dR_formRank_88 rfl (L_iload_n dR_formRank_89 rfl (L_aload_n dR_formRank_90 rfl (L_getf fw_R_250 rfl dR_formRank_91 ⟨ob_161, L_irem dR_formRank_94 ⟨(h.1 c1).1, L_iastoreL (by decide) kd_180 dR_formRank_95 ⟨(h.1 c1).2.1, fun σ2 e2 => L_iinc dR_formRank_96 rfl (by decide) (L_goto dR_formRank_99 (by decide) (L_weak [true, true, true, false, false, true] ((h.1 c1).2.2 σ2 e2)))⟩⟩⟩)))⟩), fun c1 => L_iconst dR_formRank_38 in_0 (L_istore dR_formRank_39 (by decide) (h.2 c1))⟩⟩))
theorem s_R_formRank_41 {d : Nat} {x1 x2 x3 x4 x5 : Int} {σ : SG} {Q : Int → SG → Prop} (h : (σ 161 27 ≤ x5 → L (d + 1) M_R_formRank 29 [vA 161, vI x1, vI x2, vI x3, vI (w32 (x4 + 1)), vU] [] σ Q) ∧ (x5 < σ 161 27 → Tri d M_R_table [vA 161, vI x2, vI x4, vI x5] σ (fun r2 σ2 => Tri d M_R_table [vA 161, vI x1, vI x5, vI x4] σ2 (fun r3 σ3 => L (d + 1) M_R_formRank 41 [vA 161, vI x1, vI x2, vI (w32 (x3 + (w32 (r2 * r3)))), vI x4, vI (w32 (x5 + 1))] [] σ3 Q)))) : L (d + 1) M_R_formRank 41 [vA 161, vI x1, vI x2, vI x3, vI x4, vI x5] [] σ Q :=
  L_iload dR_formRank_41 rfl (L_aload_n dR_formRank_43 rfl (L_getf fw_R_253 rfl dR_formRank_44 ⟨ob_161, L_icmp_ge dR_formRank_47 (by decide) ⟨fun c1 => L_iinc dR_formRank_78 rfl (by decide) (L_goto dR_formRank_81 (by decide) (L_weak [true, true, true, true, true, false] (h.1 c1))), fun c1 => L_iload_n dR_formRank_50 rfl (L_aload_n dR_formRank_51 rfl (L_iload_n dR_formRank_52 rfl (L_iload dR_formRank_53 rfl (L_iload dR_formRank_55 rfl (L_callVI rfl cv_R_table (As := [vI x2, vI x4, vI x5]) rfl (tk8 121 rfl rfl) rfl (Nat.le_of_ble_eq_true rfl) dR_formRank_57 ⟨ob_161, Tri.mono (h.2 c1) (fun r2 σ2 q2 => L_aload_n dR_formRank_60 rfl (L_iload_n dR_formRank_61 rfl (L_iload dR_formRank_62 rfl (L_iload dR_formRank_64 rfl (L_callVI rfl cv_R_table (As := [vI x1, vI x5, vI x4]) rfl (tk8 121 rfl rfl) rfl (Nat.le_of_ble_eq_true rfl) dR_formRank_66 ⟨ob_161, Tri.mono q2 (fun r3 σ3 q3 => L_imul dR_formRank_69 (L_iadd dR_formRank_70 (L_istore_n dR_formRank_71 (by decide) (L_iinc dR_formRank_72 rfl (by decide) (L_goto dR_formRank_75 (by decide) q3)))))⟩)))))⟩)))))⟩⟩))
theorem dR_form_0 : decode prog_14_method_127_code 0 = .ok (.aload_n 0, 1) := by decide +kernel
theorem dR_form_1 : decode prog_14_method_127_code 1 = .ok (.iconst 0, 1) := by decide +kernel
theorem dR_form_2 : decode prog_14_method_127_code 2 = .ok (.putfield 132, 3) := by decide +kernel
theorem dR_form_5 : decode prog_14_method_127_code 5 = .ok (.aload_n 0, 1) := by decide +kernel
theorem dR_form_6 : decode prog_14_method_127_code 6 = .ok (.iconst 0, 1) := by decide +kernel
theorem dR_form_7 : decode prog_14_method_127_code 7 = .ok (.putfield 135, 3) := by decide +kernel
theorem dR_form_10 : decode prog_14_method_127_code 10 = .ok (.aload_n 0, 1) := by decide +kernel
theorem dR_form_11 : decode prog_14_method_127_code 11 = .ok (.invokevirtual 348, 3) := by decide +kernel
theorem dR_form_14 : decode prog_14_method_127_code 14 = .ok (.aload_n 0, 1) := by decide +kernel
theorem dR_form_15 : decode prog_14_method_127_code 15 = .ok (.invokevirtual 512, 3) := by decide +kernel
theorem dR_form_18 : decode prog_14_method_127_code 18 = .ok (.ireturn, 1) := by decide +kernel
theorem t_R_form {d : Nat} {σ : SG} {Q : Int → SG → Prop} (h : (∀ σ1, σ1 = up σ 161 1 0 → (∀ σ2, σ2 = up σ1 161 0 0 → Tri d M_R_askNow [vA 161] σ2 (fun r3 σ3 => Tri d M_R_formRank [vA 161] σ3 (fun r4 σ4 => Q r4 σ4))))) : Tri (d + 1) M_R_form [vA 161] σ Q :=
  Tri_intro rfl (Nat.le_of_ble_eq_true rfl) (ls := [vA 161]) rfl (fun hok => L_aload_n dR_form_0 rfl (L_iconst dR_form_1 in_0 (L_putfN fp_R_132 rfl rfl (fun _ => ⟨rfl, rfl⟩) dR_form_2 ⟨ob_161, fun σ1 e1 => L_aload_n dR_form_5 rfl (L_iconst dR_form_6 in_0 (L_putfN fp_R_135 rfl rfl (fun _ => ⟨rfl, rfl⟩) dR_form_7 ⟨ob_161, fun σ2 e2 => L_aload_n dR_form_10 rfl (L_callVV rfl cv_R_askNow (As := []) rfl (tk8 108 rfl rfl) rfl (Nat.le_of_ble_eq_true rfl) dR_form_11 ⟨ob_161, Tri.mono ((h σ1 e1) σ2 e2) (fun r3 σ3 q3 => L_aload_n dR_form_14 rfl (L_callVI rfl cv_R_formRank (As := []) rfl (tk9 167 rfl rfl) rfl (Nat.le_of_ble_eq_true rfl) dR_form_15 ⟨ob_161, Tri.mono q3 (fun r4 σ4 q4 => L_ireturn rfl dR_form_18 q4)⟩))⟩)⟩))⟩)))
theorem dR_bits_0 : decode prog_14_method_128_code 0 = .ok (.iconst 0, 1) := by decide +kernel
theorem dR_bits_1 : decode prog_14_method_128_code 1 = .ok (.istore_n 1, 1) := by decide +kernel
theorem dR_bits_2 : decode prog_14_method_128_code 2 = .ok (.iconst 0, 1) := by decide +kernel
theorem dR_bits_3 : decode prog_14_method_128_code 3 = .ok (.istore_n 2, 1) := by decide +kernel
theorem dR_bits_4 : decode prog_14_method_128_code 4 = .ok (.iload_n 2, 1) := by decide +kernel
theorem dR_bits_5 : decode prog_14_method_128_code 5 = .ok (.iconst 5, 1) := by decide +kernel
theorem dR_bits_6 : decode prog_14_method_128_code 6 = .ok (.if_icmp .ge 17, 3) := by decide +kernel
theorem dR_bits_9 : decode prog_14_method_128_code 9 = .ok (.iload_n 1, 1) := by decide +kernel
theorem dR_bits_10 : decode prog_14_method_128_code 10 = .ok (.iload_n 0, 1) := by decide +kernel
theorem dR_bits_11 : decode prog_14_method_128_code 11 = .ok (.iload_n 2, 1) := by decide +kernel
theorem dR_bits_12 : decode prog_14_method_128_code 12 = .ok (.ishr, 1) := by decide +kernel
theorem dR_bits_13 : decode prog_14_method_128_code 13 = .ok (.iconst 1, 1) := by decide +kernel
theorem dR_bits_14 : decode prog_14_method_128_code 14 = .ok (.iand, 1) := by decide +kernel
theorem dR_bits_15 : decode prog_14_method_128_code 15 = .ok (.iadd, 1) := by decide +kernel
theorem dR_bits_16 : decode prog_14_method_128_code 16 = .ok (.istore_n 1, 1) := by decide +kernel
theorem dR_bits_17 : decode prog_14_method_128_code 17 = .ok (.iinc 2 1, 3) := by decide +kernel
theorem dR_bits_20 : decode prog_14_method_128_code 20 = .ok (.goto (-16), 3) := by decide +kernel
theorem dR_bits_23 : decode prog_14_method_128_code 23 = .ok (.iload_n 1, 1) := by decide +kernel
theorem dR_bits_24 : decode prog_14_method_128_code 24 = .ok (.ireturn, 1) := by decide +kernel
theorem t_R_bits {d : Nat} {x0 : Int} {σ : SG} {Q : Int → SG → Prop} (h : inI x0 → (L (d + 1) M_R_bits 4 [vI x0, vI 0, vI 0] [] σ Q)) : Tri (d + 1) M_R_bits [vI x0] σ Q :=
  Tri_intro rfl (Nat.le_of_ble_eq_true rfl) (ls := [vI x0, vU, vU]) rfl (fun hok => L_iconst dR_bits_0 in_0 (L_istore_n dR_bits_1 (by decide) (L_iconst dR_bits_2 in_0 (L_istore_n dR_bits_3 (by decide) ((h (hok _ (List.mem_of_getElem? (i := 0) rfl))))))))
theorem s_R_bits_4 {d : Nat} {x0 x1 x2 : Int} {σ : SG} {Q : Int → SG → Prop} (h : (5 ≤ x2 → Q x1 σ) ∧ (x2 < 5 → L (d + 1) M_R_bits 4 [vI x0, vI (w32 (x1 + (and32 (shr32 x0 x2) 1))), vI (w32 (x2 + 1))] [] σ Q)) : L (d + 1) M_R_bits 4 [vI x0, vI x1, vI x2] [] σ Q :=
  L_iload_n dR_bits_4 rfl (L_iconst dR_bits_5 in_5 (L_icmp_ge dR_bits_6 (by decide) ⟨fun c1 => L_iload_n dR_bits_23 rfl (L_ireturn rfl dR_bits_24 (h.1 c1)), fun c1 => L_iload_n dR_bits_9 rfl (L_iload_n dR_bits_10 rfl (L_iload_n dR_bits_11 rfl (L_ishr dR_bits_12 (L_iconst dR_bits_13 in_1 (L_iand dR_bits_14 (L_iadd dR_bits_15 (L_istore_n dR_bits_16 (by decide) (L_iinc dR_bits_17 rfl (by decide) (L_goto dR_bits_20 (by decide) (h.2 c1))))))))))⟩))
theorem dR_numberOfSet_0 : decode prog_14_method_129_code 0 = .ok (.iconst 0, 1) := by decide +kernel
theorem dR_numberOfSet_1 : decode prog_14_method_129_code 1 = .ok (.istore_n 2, 1) := by decide +kernel
theorem dR_numberOfSet_2 : decode prog_14_method_129_code 2 = .ok (.iconst 0, 1) := by decide +kernel
theorem dR_numberOfSet_3 : decode prog_14_method_129_code 3 = .ok (.istore_n 3, 1) := by decide +kernel
theorem dR_numberOfSet_4 : decode prog_14_method_129_code 4 = .ok (.iload_n 3, 1) := by decide +kernel
theorem dR_numberOfSet_5 : decode prog_14_method_129_code 5 = .ok (.iload_n 1, 1) := by decide +kernel
theorem dR_numberOfSet_6 : decode prog_14_method_129_code 6 = .ok (.if_icmp .ge 28, 3) := by decide +kernel
theorem dR_numberOfSet_9 : decode prog_14_method_129_code 9 = .ok (.iload_n 2, 1) := by decide +kernel
theorem dR_numberOfSet_10 : decode prog_14_method_129_code 10 = .ok (.iload_n 3, 1) := by decide +kernel
theorem dR_numberOfSet_11 : decode prog_14_method_129_code 11 = .ok (.invokestatic 515, 3) := by decide +kernel
theorem dR_numberOfSet_14 : decode prog_14_method_129_code 14 = .ok (.iload_n 1, 1) := by decide +kernel
theorem dR_numberOfSet_15 : decode prog_14_method_129_code 15 = .ok (.invokestatic 515, 3) := by decide +kernel
theorem dR_numberOfSet_18 : decode prog_14_method_129_code 18 = .ok (.if_icmp .ne 7, 3) := by decide +kernel
theorem dR_numberOfSet_21 : decode prog_14_method_129_code 21 = .ok (.iconst 1, 1) := by decide +kernel
theorem dR_numberOfSet_22 : decode prog_14_method_129_code 22 = .ok (.goto 4, 3) := by decide +kernel
theorem dR_numberOfSet_25 : decode prog_14_method_129_code 25 = .ok (.iconst 0, 1) := by decide +kernel
theorem dR_numberOfSet_26 : decode prog_14_method_129_code 26 = .ok (.iadd, 1) := by decide +kernel
theorem dR_numberOfSet_27 : decode prog_14_method_129_code 27 = .ok (.istore_n 2, 1) := by decide +kernel
theorem dR_numberOfSet_28 : decode prog_14_method_129_code 28 = .ok (.iinc 3 1, 3) := by decide +kernel
theorem dR_numberOfSet_31 : decode prog_14_method_129_code 31 = .ok (.goto (-27), 3) := by decide +kernel
theorem dR_numberOfSet_34 : decode prog_14_method_129_code 34 = .ok (.iload_n 2, 1) := by decide +kernel
theorem dR_numberOfSet_35 : decode prog_14_method_129_code 35 = .ok (.ireturn, 1) := by decide +kernel
theorem t_R_numberOfSet {d : Nat} {x1 : Int} {σ : SG} {Q : Int → SG → Prop} (h : inI x1 → (L (d + 1) M_R_numberOfSet 4 [vU, vI x1, vI 0, vI 0] [] σ Q)) : Tri (d + 1) M_R_numberOfSet [vA 161, vI x1] σ Q :=
  Tri_intro rfl (Nat.le_of_ble_eq_true rfl) (ls := [vA 161, vI x1, vU, vU]) rfl (fun hok => L_iconst dR_numberOfSet_0 in_0 (L_istore_n dR_numberOfSet_1 (by decide) (L_iconst dR_numberOfSet_2 in_0 (L_istore_n dR_numberOfSet_3 (by decide) (L_weak [false, true, true, true] ((h (hok _ (List.mem_of_getElem? (i := 1) rfl)))))))))
theorem s_R_numberOfSet_4 {d : Nat} {x1 x2 x3 : Int} {σ : SG} {Q : Int → SG → Prop} (h : (x1 ≤ x3 → Q x2 σ) ∧ (x3 < x1 → Tri d M_R_bits [vI x3] σ (fun r2 σ2 => Tri d M_R_bits [vI x1] σ2 (fun r3 σ3 => (r2 ≠ r3 → L (d + 1) M_R_numberOfSet 4 [vU, vI x1, vI (w32 (x2 + 0)), vI (w32 (x3 + 1))] [] σ3 Q) ∧ (r2 = r3 → L (d + 1) M_R_numberOfSet 4 [vU, vI x1, vI (w32 (x2 + 1)), vI (w32 (x3 + 1))] [] σ3 Q))))) : L (d + 1) M_R_numberOfSet 4 [vU, vI x1, vI x2, vI x3] [] σ Q :=
  L_iload_n dR_numberOfSet_4 rfl (L_iload_n dR_numberOfSet_5 rfl (L_icmp_ge dR_numberOfSet_6 (by decide) ⟨fun c1 => L_iload_n dR_numberOfSet_34 rfl (L_ireturn rfl dR_numberOfSet_35 (h.1 c1)), fun c1 => L_iload_n dR_numberOfSet_9 rfl (L_iload_n dR_numberOfSet_10 rfl (L_callSI rfl cs_R_bits (As := [vI x3]) rfl (tk9 183 rfl rfl) rfl (Nat.le_of_ble_eq_true rfl) dR_numberOfSet_11 (Tri.mono (h.2 c1) (fun r2 σ2 q2 => L_iload_n dR_numberOfSet_14 rfl (L_callSI rfl cs_R_bits (As := [vI x1]) rfl (tk9 183 rfl rfl) rfl (Nat.le_of_ble_eq_true rfl) dR_numberOfSet_15 (Tri.mono q2 (fun r3 σ3 q3 => L_icmp_ne dR_numberOfSet_18 (by decide) ⟨fun c4 => L_iconst dR_numberOfSet_25 in_0 (L_iadd dR_numberOfSet_26 (L_istore_n dR_numberOfSet_27 (by decide) (L_iinc dR_numberOfSet_28 rfl (by decide) (L_goto dR_numberOfSet_31 (by decide) (q3.1 c4))))), fun c4 => L_iconst dR_numberOfSet_21 in_1 (L_goto dR_numberOfSet_22 (by decide) (L_iadd dR_numberOfSet_26 (L_istore_n dR_numberOfSet_27 (by decide) (L_iinc dR_numberOfSet_28 rfl (by decide) (L_goto dR_numberOfSet_31 (by decide) (q3.2 c4))))))⟩)))))))⟩))
theorem dR_setsOf_0 : decode prog_14_method_130_code 0 = .ok (.iconst 0, 1) := by decide +kernel
theorem dR_setsOf_1 : decode prog_14_method_130_code 1 = .ok (.istore_n 2, 1) := by decide +kernel
theorem dR_setsOf_2 : decode prog_14_method_130_code 2 = .ok (.iconst 0, 1) := by decide +kernel
theorem dR_setsOf_3 : decode prog_14_method_130_code 3 = .ok (.istore_n 3, 1) := by decide +kernel
theorem dR_setsOf_4 : decode prog_14_method_130_code 4 = .ok (.iload_n 3, 1) := by decide +kernel
theorem dR_setsOf_5 : decode prog_14_method_130_code 5 = .ok (.iconst 1, 1) := by decide +kernel
theorem dR_setsOf_6 : decode prog_14_method_130_code 6 = .ok (.aload_n 0, 1) := by decide +kernel
theorem dR_setsOf_7 : decode prog_14_method_130_code 7 = .ok (.getfield 253, 3) := by decide +kernel
theorem dR_setsOf_10 : decode prog_14_method_130_code 10 = .ok (.ishl, 1) := by decide +kernel
theorem dR_setsOf_11 : decode prog_14_method_130_code 11 = .ok (.if_icmp .ge 25, 3) := by decide +kernel
theorem dR_setsOf_14 : decode prog_14_method_130_code 14 = .ok (.iload_n 2, 1) := by decide +kernel
theorem dR_setsOf_15 : decode prog_14_method_130_code 15 = .ok (.iload_n 3, 1) := by decide +kernel
theorem dR_setsOf_16 : decode prog_14_method_130_code 16 = .ok (.invokestatic 515, 3) := by decide +kernel
theorem dR_setsOf_19 : decode prog_14_method_130_code 19 = .ok (.iload_n 1, 1) := by decide +kernel
theorem dR_setsOf_20 : decode prog_14_method_130_code 20 = .ok (.if_icmp .ne 7, 3) := by decide +kernel
theorem dR_setsOf_23 : decode prog_14_method_130_code 23 = .ok (.iconst 1, 1) := by decide +kernel
theorem dR_setsOf_24 : decode prog_14_method_130_code 24 = .ok (.goto 4, 3) := by decide +kernel
theorem dR_setsOf_27 : decode prog_14_method_130_code 27 = .ok (.iconst 0, 1) := by decide +kernel
theorem dR_setsOf_28 : decode prog_14_method_130_code 28 = .ok (.iadd, 1) := by decide +kernel
theorem dR_setsOf_29 : decode prog_14_method_130_code 29 = .ok (.istore_n 2, 1) := by decide +kernel
theorem dR_setsOf_30 : decode prog_14_method_130_code 30 = .ok (.iinc 3 1, 3) := by decide +kernel
theorem dR_setsOf_33 : decode prog_14_method_130_code 33 = .ok (.goto (-29), 3) := by decide +kernel
theorem dR_setsOf_36 : decode prog_14_method_130_code 36 = .ok (.iload_n 2, 1) := by decide +kernel
theorem dR_setsOf_37 : decode prog_14_method_130_code 37 = .ok (.ireturn, 1) := by decide +kernel
theorem t_R_setsOf {d : Nat} {x1 : Int} {σ : SG} {Q : Int → SG → Prop} (h : inI x1 → (L (d + 1) M_R_setsOf 4 [vA 161, vI x1, vI 0, vI 0] [] σ Q)) : Tri (d + 1) M_R_setsOf [vA 161, vI x1] σ Q :=
  Tri_intro rfl (Nat.le_of_ble_eq_true rfl) (ls := [vA 161, vI x1, vU, vU]) rfl (fun hok => L_iconst dR_setsOf_0 in_0 (L_istore_n dR_setsOf_1 (by decide) (L_iconst dR_setsOf_2 in_0 (L_istore_n dR_setsOf_3 (by decide) ((h (hok _ (List.mem_of_getElem? (i := 1) rfl))))))))
theorem s_R_setsOf_4 {d : Nat} {x1 x2 x3 : Int} {σ : SG} {Q : Int → SG → Prop} (h : (shl32 1 (σ 161 27) ≤ x3 → Q x2 σ) ∧ (x3 < shl32 1 (σ 161 27) → Tri d M_R_bits [vI x3] σ (fun r2 σ2 => (r2 ≠ x1 → L (d + 1) M_R_setsOf 4 [vA 161, vI x1, vI (w32 (x2 + 0)), vI (w32 (x3 + 1))] [] σ2 Q) ∧ (r2 = x1 → L (d + 1) M_R_setsOf 4 [vA 161, vI x1, vI (w32 (x2 + 1)), vI (w32 (x3 + 1))] [] σ2 Q)))) : L (d + 1) M_R_setsOf 4 [vA 161, vI x1, vI x2, vI x3] [] σ Q :=
  L_iload_n dR_setsOf_4 rfl (L_iconst dR_setsOf_5 in_1 (L_aload_n dR_setsOf_6 rfl (L_getf fw_R_253 rfl dR_setsOf_7 ⟨ob_161, L_ishl dR_setsOf_10 (L_icmp_ge dR_setsOf_11 (by decide) ⟨fun c1 => L_iload_n dR_setsOf_36 rfl (L_ireturn rfl dR_setsOf_37 (h.1 c1)), fun c1 => L_iload_n dR_setsOf_14 rfl (L_iload_n dR_setsOf_15 rfl (L_callSI rfl cs_R_bits (As := [vI x3]) rfl (tk9 183 rfl rfl) rfl (Nat.le_of_ble_eq_true rfl) dR_setsOf_16 (Tri.mono (h.2 c1) (fun r2 σ2 q2 => L_iload_n dR_setsOf_19 rfl (L_icmp_ne dR_setsOf_20 (by decide) ⟨fun c3 => L_iconst dR_setsOf_27 in_0 (L_iadd dR_setsOf_28 (L_istore_n dR_setsOf_29 (by decide) (L_iinc dR_setsOf_30 rfl (by decide) (L_goto dR_setsOf_33 (by decide) (q2.1 c3))))), fun c3 => L_iconst dR_setsOf_23 in_1 (L_goto dR_setsOf_24 (by decide) (L_iadd dR_setsOf_28 (L_istore_n dR_setsOf_29 (by decide) (L_iinc dR_setsOf_30 rfl (by decide) (L_goto dR_setsOf_33 (by decide) (q2.2 c3))))))⟩)))))⟩)⟩)))
theorem dR_rowOfD_0 : decode prog_14_method_131_code 0 = .ok (.iconst 0, 1) := by decide +kernel
theorem dR_rowOfD_1 : decode prog_14_method_131_code 1 = .ok (.istore_n 3, 1) := by decide +kernel
theorem dR_rowOfD_2 : decode prog_14_method_131_code 2 = .ok (.iload_n 3, 1) := by decide +kernel
theorem dR_rowOfD_3 : decode prog_14_method_131_code 3 = .ok (.iload_n 2, 1) := by decide +kernel
theorem dR_rowOfD_4 : decode prog_14_method_131_code 4 = .ok (.if_icmp .ge 16, 3) := by decide +kernel
theorem dR_rowOfD_7 : decode prog_14_method_131_code 7 = .ok (.aload_n 0, 1) := by decide +kernel
theorem dR_rowOfD_8 : decode prog_14_method_131_code 8 = .ok (.getfield 77, 3) := by decide +kernel
theorem dR_rowOfD_11 : decode prog_14_method_131_code 11 = .ok (.iload_n 3, 1) := by decide +kernel
theorem dR_rowOfD_12 : decode prog_14_method_131_code 12 = .ok (.iconst 0, 1) := by decide +kernel
theorem dR_rowOfD_13 : decode prog_14_method_131_code 13 = .ok (.iastore, 1) := by decide +kernel
theorem dR_rowOfD_14 : decode prog_14_method_131_code 14 = .ok (.iinc 3 1, 3) := by decide +kernel
theorem dR_rowOfD_17 : decode prog_14_method_131_code 17 = .ok (.goto (-15), 3) := by decide +kernel
theorem dR_rowOfD_20 : decode prog_14_method_131_code 20 = .ok (.iconst 0, 1) := by decide +kernel
theorem dR_rowOfD_21 : decode prog_14_method_131_code 21 = .ok (.istore_n 3, 1) := by decide +kernel
theorem dR_rowOfD_22 : decode prog_14_method_131_code 22 = .ok (.iload_n 3, 1) := by decide +kernel
theorem dR_rowOfD_23 : decode prog_14_method_131_code 23 = .ok (.aload_n 0, 1) := by decide +kernel
theorem dR_rowOfD_24 : decode prog_14_method_131_code 24 = .ok (.getfield 253, 3) := by decide +kernel
theorem dR_rowOfD_27 : decode prog_14_method_131_code 27 = .ok (.if_icmp .ge 199, 3) := by decide +kernel
theorem dR_rowOfD_30 : decode prog_14_method_131_code 30 = .ok (.iload_n 3, 1) := by decide +kernel
theorem dR_rowOfD_31 : decode prog_14_method_131_code 31 = .ok (.iconst 1, 1) := by decide +kernel
theorem dR_rowOfD_32 : decode prog_14_method_131_code 32 = .ok (.iadd, 1) := by decide +kernel
theorem dR_rowOfD_33 : decode prog_14_method_131_code 33 = .ok (.istore 4, 2) := by decide +kernel
theorem dR_rowOfD_35 : decode prog_14_method_131_code 35 = .ok (.iload 4, 2) := by decide +kernel
theorem dR_rowOfD_37 : decode prog_14_method_131_code 37 = .ok (.aload_n 0, 1) := by decide +kernel
theorem dR_rowOfD_38 : decode prog_14_method_131_code 38 = .ok (.getfield 253, 3) := by decide +kernel
theorem dR_rowOfD_41 : decode prog_14_method_131_code 41 = .ok (.if_icmp .ge 179, 3) := by decide +kernel
theorem dR_rowOfD_44 : decode prog_14_method_131_code 44 = .ok (.iload_n 1, 1) := by decide +kernel
theorem dR_rowOfD_45 : decode prog_14_method_131_code 45 = .ok (.iload_n 3, 1) := by decide +kernel
theorem dR_rowOfD_46 : decode prog_14_method_131_code 46 = .ok (.ishr, 1) := by decide +kernel
theorem dR_rowOfD_47 : decode prog_14_method_131_code 47 = .ok (.iconst 1, 1) := by decide +kernel
theorem dR_rowOfD_48 : decode prog_14_method_131_code 48 = .ok (.iand, 1) := by decide +kernel
theorem dR_rowOfD_49 : decode prog_14_method_131_code 49 = .ok (.ifCond .eq 165, 3) := by decide +kernel
theorem dR_rowOfD_52 : decode prog_14_method_131_code 52 = .ok (.iload_n 1, 1) := by decide +kernel
theorem dR_rowOfD_53 : decode prog_14_method_131_code 53 = .ok (.iload 4, 2) := by decide +kernel
theorem dR_rowOfD_55 : decode prog_14_method_131_code 55 = .ok (.ishr, 1) := by decide +kernel
theorem dR_rowOfD_56 : decode prog_14_method_131_code 56 = .ok (.iconst 1, 1) := by decide +kernel
theorem dR_rowOfD_57 : decode prog_14_method_131_code 57 = .ok (.iand, 1) := by decide +kernel
theorem dR_rowOfD_58 : decode prog_14_method_131_code 58 = .ok (.ifCond .ne 6, 3) := by decide +kernel
theorem dR_rowOfD_61 : decode prog_14_method_131_code 61 = .ok (.goto 153, 3) := by decide +kernel
theorem dR_rowOfD_64 : decode prog_14_method_131_code 64 = .ok (.iload_n 1, 1) := by decide +kernel
theorem dR_rowOfD_65 : decode prog_14_method_131_code 65 = .ok (.iconst 1, 1) := by decide +kernel
theorem dR_rowOfD_66 : decode prog_14_method_131_code 66 = .ok (.iload_n 3, 1) := by decide +kernel
theorem dR_rowOfD_67 : decode prog_14_method_131_code 67 = .ok (.ishl, 1) := by decide +kernel
theorem dR_rowOfD_68 : decode prog_14_method_131_code 68 = .ok (.iconst 1, 1) := by decide +kernel
theorem dR_rowOfD_69 : decode prog_14_method_131_code 69 = .ok (.isub, 1) := by decide +kernel
theorem dR_rowOfD_70 : decode prog_14_method_131_code 70 = .ok (.iand, 1) := by decide +kernel
theorem dR_rowOfD_71 : decode prog_14_method_131_code 71 = .ok (.invokestatic 515, 3) := by decide +kernel
theorem dR_rowOfD_74 : decode prog_14_method_131_code 74 = .ok (.istore 5, 2) := by decide +kernel
theorem dR_rowOfD_76 : decode prog_14_method_131_code 76 = .ok (.iload_n 1, 1) := by decide +kernel
theorem dR_rowOfD_77 : decode prog_14_method_131_code 77 = .ok (.iconst 1, 1) := by decide +kernel
theorem dR_rowOfD_78 : decode prog_14_method_131_code 78 = .ok (.iload 4, 2) := by decide +kernel
theorem dR_rowOfD_80 : decode prog_14_method_131_code 80 = .ok (.ishl, 1) := by decide +kernel
theorem dR_rowOfD_81 : decode prog_14_method_131_code 81 = .ok (.iconst 1, 1) := by decide +kernel
theorem dR_rowOfD_82 : decode prog_14_method_131_code 82 = .ok (.isub, 1) := by decide +kernel
theorem dR_rowOfD_83 : decode prog_14_method_131_code 83 = .ok (.iand, 1) := by decide +kernel
theorem dR_rowOfD_84 : decode prog_14_method_131_code 84 = .ok (.invokestatic 515, 3) := by decide +kernel
theorem dR_rowOfD_87 : decode prog_14_method_131_code 87 = .ok (.istore 6, 2) := by decide +kernel
theorem dR_rowOfD_89 : decode prog_14_method_131_code 89 = .ok (.iload_n 1, 1) := by decide +kernel
theorem dR_rowOfD_90 : decode prog_14_method_131_code 90 = .ok (.iconst 1, 1) := by decide +kernel
theorem dR_rowOfD_91 : decode prog_14_method_131_code 91 = .ok (.iload_n 3, 1) := by decide +kernel
theorem dR_rowOfD_92 : decode prog_14_method_131_code 92 = .ok (.ishl, 1) := by decide +kernel
theorem dR_rowOfD_93 : decode prog_14_method_131_code 93 = .ok (.iconst (-1), 1) := by decide +kernel
theorem dR_rowOfD_94 : decode prog_14_method_131_code 94 = .ok (.ixor, 1) := by decide +kernel
theorem dR_rowOfD_95 : decode prog_14_method_131_code 95 = .ok (.iand, 1) := by decide +kernel
theorem dR_rowOfD_96 : decode prog_14_method_131_code 96 = .ok (.iconst 1, 1) := by decide +kernel
theorem dR_rowOfD_97 : decode prog_14_method_131_code 97 = .ok (.iload 4, 2) := by decide +kernel
theorem dR_rowOfD_99 : decode prog_14_method_131_code 99 = .ok (.ishl, 1) := by decide +kernel
theorem dR_rowOfD_100 : decode prog_14_method_131_code 100 = .ok (.iconst (-1), 1) := by decide +kernel
theorem dR_rowOfD_101 : decode prog_14_method_131_code 101 = .ok (.ixor, 1) := by decide +kernel
theorem dR_rowOfD_102 : decode prog_14_method_131_code 102 = .ok (.iand, 1) := by decide +kernel
theorem dR_rowOfD_103 : decode prog_14_method_131_code 103 = .ok (.istore 7, 2) := by decide +kernel
theorem dR_rowOfD_105 : decode prog_14_method_131_code 105 = .ok (.iconst 0, 1) := by decide +kernel
theorem dR_rowOfD_106 : decode prog_14_method_131_code 106 = .ok (.istore 8, 2) := by decide +kernel
theorem dR_rowOfD_108 : decode prog_14_method_131_code 108 = .ok (.iload 8, 2) := by decide +kernel
theorem dR_rowOfD_110 : decode prog_14_method_131_code 110 = .ok (.aload_n 0, 1) := by decide +kernel
theorem dR_rowOfD_111 : decode prog_14_method_131_code 111 = .ok (.getfield 253, 3) := by decide +kernel
theorem dR_rowOfD_114 : decode prog_14_method_131_code 114 = .ok (.if_icmp .ge 100, 3) := by decide +kernel
theorem dR_rowOfD_117 : decode prog_14_method_131_code 117 = .ok (.iload 7, 2) := by decide +kernel
theorem dR_rowOfD_119 : decode prog_14_method_131_code 119 = .ok (.iload 8, 2) := by decide +kernel
theorem dR_rowOfD_121 : decode prog_14_method_131_code 121 = .ok (.ishr, 1) := by decide +kernel
theorem dR_rowOfD_122 : decode prog_14_method_131_code 122 = .ok (.iconst 1, 1) := by decide +kernel
theorem dR_rowOfD_123 : decode prog_14_method_131_code 123 = .ok (.iand, 1) := by decide +kernel
theorem dR_rowOfD_124 : decode prog_14_method_131_code 124 = .ok (.iconst 1, 1) := by decide +kernel
theorem dR_rowOfD_125 : decode prog_14_method_131_code 125 = .ok (.if_icmp .ne 6, 3) := by decide +kernel
theorem dR_rowOfD_128 : decode prog_14_method_131_code 128 = .ok (.goto 80, 3) := by decide +kernel
theorem dR_rowOfD_131 : decode prog_14_method_131_code 131 = .ok (.iload 5, 2) := by decide +kernel
theorem dR_rowOfD_133 : decode prog_14_method_131_code 133 = .ok (.iload 6, 2) := by decide +kernel
theorem dR_rowOfD_135 : decode prog_14_method_131_code 135 = .ok (.iadd, 1) := by decide +kernel
theorem dR_rowOfD_136 : decode prog_14_method_131_code 136 = .ok (.iload 7, 2) := by decide +kernel
theorem dR_rowOfD_138 : decode prog_14_method_131_code 138 = .ok (.iconst 1, 1) := by decide +kernel
theorem dR_rowOfD_139 : decode prog_14_method_131_code 139 = .ok (.iload 8, 2) := by decide +kernel
theorem dR_rowOfD_141 : decode prog_14_method_131_code 141 = .ok (.ishl, 1) := by decide +kernel
theorem dR_rowOfD_142 : decode prog_14_method_131_code 142 = .ok (.iconst 1, 1) := by decide +kernel
theorem dR_rowOfD_143 : decode prog_14_method_131_code 143 = .ok (.isub, 1) := by decide +kernel
theorem dR_rowOfD_144 : decode prog_14_method_131_code 144 = .ok (.iand, 1) := by decide +kernel
theorem dR_rowOfD_145 : decode prog_14_method_131_code 145 = .ok (.invokestatic 515, 3) := by decide +kernel
theorem dR_rowOfD_148 : decode prog_14_method_131_code 148 = .ok (.iadd, 1) := by decide +kernel
theorem dR_rowOfD_149 : decode prog_14_method_131_code 149 = .ok (.istore 9, 2) := by decide +kernel
theorem dR_rowOfD_151 : decode prog_14_method_131_code 151 = .ok (.aload_n 0, 1) := by decide +kernel
theorem dR_rowOfD_152 : decode prog_14_method_131_code 152 = .ok (.iload 7, 2) := by decide +kernel
theorem dR_rowOfD_154 : decode prog_14_method_131_code 154 = .ok (.iconst 1, 1) := by decide +kernel
theorem dR_rowOfD_155 : decode prog_14_method_131_code 155 = .ok (.iload 8, 2) := by decide +kernel
theorem dR_rowOfD_157 : decode prog_14_method_131_code 157 = .ok (.ishl, 1) := by decide +kernel
theorem dR_rowOfD_158 : decode prog_14_method_131_code 158 = .ok (.ior, 1) := by decide +kernel
theorem dR_rowOfD_159 : decode prog_14_method_131_code 159 = .ok (.invokevirtual 518, 3) := by decide +kernel
theorem dR_rowOfD_162 : decode prog_14_method_131_code 162 = .ok (.istore 10, 2) := by decide +kernel
theorem dR_rowOfD_164 : decode prog_14_method_131_code 164 = .ok (.aload_n 0, 1) := by decide +kernel
theorem dR_rowOfD_165 : decode prog_14_method_131_code 165 = .ok (.getfield 77, 3) := by decide +kernel
theorem dR_rowOfD_168 : decode prog_14_method_131_code 168 = .ok (.iload 10, 2) := by decide +kernel
theorem dR_rowOfD_170 : decode prog_14_method_131_code 170 = .ok (.aload_n 0, 1) := by decide +kernel
theorem dR_rowOfD_171 : decode prog_14_method_131_code 171 = .ok (.getfield 77, 3) := by decide +kernel
theorem dR_rowOfD_174 : decode prog_14_method_131_code 174 = .ok (.iload 10, 2) := by decide +kernel
theorem dR_rowOfD_176 : decode prog_14_method_131_code 176 = .ok (.iaload, 1) := by decide +kernel
theorem dR_rowOfD_177 : decode prog_14_method_131_code 177 = .ok (.iload 9, 2) := by decide +kernel
theorem dR_rowOfD_179 : decode prog_14_method_131_code 179 = .ok (.iconst 2, 1) := by decide +kernel
theorem dR_rowOfD_180 : decode prog_14_method_131_code 180 = .ok (.irem, 1) := by decide +kernel
theorem dR_rowOfD_181 : decode prog_14_method_131_code 181 = .ok (.ifCond .ne 7, 3) := by decide +kernel
theorem dR_rowOfD_184 : decode prog_14_method_131_code 184 = .ok (.iconst 1, 1) := by decide +kernel
theorem dR_rowOfD_185 : decode prog_14_method_131_code 185 = .ok (.goto 4, 3) := by decide +kernel
theorem dR_rowOfD_188 : decode prog_14_method_131_code 188 = .ok (.iconst (-1), 1) := by decide +kernel
theorem dR_rowOfD_189 : decode prog_14_method_131_code 189 = .ok (.aload_n 0, 1) := by decide +kernel
theorem dR_rowOfD_190 : decode prog_14_method_131_code 190 = .ok (.iload_n 3, 1) := by decide +kernel
theorem dR_rowOfD_191 : decode prog_14_method_131_code 191 = .ok (.iload 4, 2) := by decide +kernel
theorem dR_rowOfD_193 : decode prog_14_method_131_code 193 = .ok (.iload 8, 2) := by decide +kernel
theorem dR_rowOfD_195 : decode prog_14_method_131_code 195 = .ok (.invokevirtual 327, 3) := by decide +kernel
theorem dR_rowOfD_198 : decode prog_14_method_131_code 198 = .ok (.imul, 1) := by decide +kernel
theorem dR_rowOfD_199 : decode prog_14_method_131_code 199 = .ok (.iadd, 1) := by decide +kernel
theorem dR_rowOfD_200 : decode prog_14_method_131_code 200 = .ok (.aload_n 0, 1) := by decide +kernel
theorem dR_rowOfD_201 : decode prog_14_method_131_code 201 = .ok (.getfield 250, 3) := by decide +kernel
theorem dR_rowOfD_204 : decode prog_14_method_131_code 204 = .ok (.invokestatic 264, 3) := by decide +kernel
theorem dR_rowOfD_207 : decode prog_14_method_131_code 207 = .ok (.iastore, 1) := by decide +kernel
theorem dR_rowOfD_208 : decode prog_14_method_131_code 208 = .ok (.iinc 8 1, 3) := by decide +kernel
theorem dR_rowOfD_211 : decode prog_14_method_131_code 211 = .ok (.goto (-103), 3) := by decide +kernel
theorem dR_rowOfD_214 : decode prog_14_method_131_code 214 = .ok (.iinc 4 1, 3) := by decide +kernel
theorem dR_rowOfD_217 : decode prog_14_method_131_code 217 = .ok (.goto (-182), 3) := by decide +kernel
theorem dR_rowOfD_220 : decode prog_14_method_131_code 220 = .ok (.iinc 3 1, 3) := by decide +kernel
theorem dR_rowOfD_223 : decode prog_14_method_131_code 223 = .ok (.goto (-201), 3) := by decide +kernel
theorem dR_rowOfD_226 : decode prog_14_method_131_code 226 = .ok (.return_, 1) := by decide +kernel
theorem t_R_rowOfD {d : Nat} {x1 x2 : Int} {σ : SG} {Q : Int → SG → Prop} (h : inI x1 → inI x2 → (L (d + 1) M_R_rowOfD 2 [vA 161, vI x1, vI x2, vI 0, vU, vU, vU, vU, vU, vU, vU] [] σ Q)) : Tri (d + 1) M_R_rowOfD [vA 161, vI x1, vI x2] σ Q :=
  Tri_intro rfl (Nat.le_of_ble_eq_true rfl) (ls := [vA 161, vI x1, vI x2, vU, vU, vU, vU, vU, vU, vU, vU]) rfl (fun hok => L_iconst dR_rowOfD_0 in_0 (L_istore_n dR_rowOfD_1 (by decide) ((h (hok _ (List.mem_of_getElem? (i := 1) rfl)) (hok _ (List.mem_of_getElem? (i := 2) rfl))))))
theorem s_R_rowOfD_2 {d : Nat} {x1 x2 x3 : Int} {σ : SG} {Q : Int → SG → Prop} (h : (x2 ≤ x3 → L (d + 1) M_R_rowOfD 22 [vA 161, vI x1, vU, vI 0, vU, vU, vU, vU, vU, vU, vU] [] σ Q) ∧ (x3 < x2 → (0 ≤ x3 ∧ x3 < 30) ∧ (∀ σ2, σ2 = up σ 180 x3 0 → L (d + 1) M_R_rowOfD 2 [vA 161, vI x1, vI x2, vI (w32 (x3 + 1)), vU, vU, vU, vU, vU, vU, vU] [] σ2 Q))) : L (d + 1) M_R_rowOfD 2 [vA 161, vI x1, vI x2, vI x3, vU, vU, vU, vU, vU, vU, vU] [] σ Q :=
  L_iload_n dR_rowOfD_2 rfl (L_iload_n dR_rowOfD_3 rfl (L_icmp_ge dR_rowOfD_4 (by decide) ⟨fun c1 => L_iconst dR_rowOfD_20 in_0 (L_istore_n dR_rowOfD_21 (by decide) (L_weak [true, true, false, true, true, true, true, true, true, true, true] (h.1 c1))), fun c1 => L_aload_n dR_rowOfD_7 rfl (L_getF (b := 180) fw_R_77 rfl rfl (by decide) dR_rowOfD_8 ⟨ob_161, L_iload_n dR_rowOfD_11 rfl (L_iconst dR_rowOfD_12 in_0 (L_iastoreL (by decide) kd_180 dR_rowOfD_13 ⟨(h.2 c1).1, fun σ2 e2 => L_iinc dR_rowOfD_14 rfl (by decide) (L_goto dR_rowOfD_17 (by decide) ((h.2 c1).2 σ2 e2))⟩))⟩)⟩))
theorem s_R_rowOfD_22 {d : Nat} {x1 x3 : Int} {σ : SG} {Q : Int → SG → Prop} (h : (σ 161 27 ≤ x3 → Q 0 σ) ∧ (x3 < σ 161 27 → L (d + 1) M_R_rowOfD 35 [vA 161, vI x1, vU, vI x3, vI (w32 (x3 + 1)), vU, vU, vU, vU, vU, vU] [] σ Q)) : L (d + 1) M_R_rowOfD 22 [vA 161, vI x1, vU, vI x3, vU, vU, vU, vU, vU, vU, vU] [] σ Q :=
  L_iload_n dR_rowOfD_22 rfl (L_aload_n dR_rowOfD_23 rfl (L_getf fw_R_253 rfl dR_rowOfD_24 ⟨ob_161, L_icmp_ge dR_rowOfD_27 (by decide) ⟨fun c1 => L_return rfl dR_rowOfD_226 (h.1 c1), fun c1 => L_iload_n dR_rowOfD_30 rfl (L_iconst dR_rowOfD_31 in_1 (L_iadd dR_rowOfD_32 (L_istore dR_rowOfD_33 (by decide) (h.2 c1))))⟩⟩))
theorem s_R_rowOfD_35 {d : Nat} {x1 x3 x4 : Int} {σ : SG} {Q : Int → SG → Prop} (h : (σ 161 27 ≤ x4 → L (d + 1) M_R_rowOfD 22 [vA 161, vI x1, vU, vI (w32 (x3 + 1)), vU, vU, vU, vU, vU, vU, vU] [] σ Q) ∧ (x4 < σ 161 27 → (and32 (shr32 x1 x3) 1 = 0 → L (d + 1) M_R_rowOfD 35 [vA 161, vI x1, vU, vI x3, vI (w32 (x4 + 1)), vU, vU, vU, vU, vU, vU] [] σ Q) ∧ (and32 (shr32 x1 x3) 1 ≠ 0 → (and32 (shr32 x1 x4) 1 ≠ 0 → Tri d M_R_bits [vI (and32 x1 (w32 ((shl32 1 x3) - 1)))] σ (fun r4 σ4 => Tri d M_R_bits [vI (and32 x1 (w32 ((shl32 1 x4) - 1)))] σ4 (fun r5 σ5 => L (d + 1) M_R_rowOfD 108 [vA 161, vI x1, vU, vI x3, vI x4, vI r4, vI r5, vI (and32 (and32 x1 (xor32 (shl32 1 x3) (-1))) (xor32 (shl32 1 x4) (-1))), vI 0, vU, vU] [] σ5 Q))) ∧ (and32 (shr32 x1 x4) 1 = 0 → L (d + 1) M_R_rowOfD 35 [vA 161, vI x1, vU, vI x3, vI (w32 (x4 + 1)), vU, vU, vU, vU, vU, vU] [] σ Q)))) : L (d + 1) M_R_rowOfD 35 [vA 161, vI x1, vU, vI x3, vI x4, vU, vU, vU, vU, vU, vU] [] σ Q :=
  L_iload dR_rowOfD_35 rfl (L_aload_n dR_rowOfD_37 rfl (L_getf fw_R_253 rfl dR_rowOfD_38 ⟨ob_161, L_icmp_ge dR_rowOfD_41 (by decide) ⟨fun c1 => L_iinc dR_rowOfD_220 rfl (by decide) (L_goto dR_rowOfD_223 (by decide) (L_weak [true, true, true, true, false, true, true, true, true, true, true] (h.1 c1))), fun c1 => L_iload_n dR_rowOfD_44 rfl (L_iload_n dR_rowOfD_45 rfl (L_ishr dR_rowOfD_46 (L_iconst dR_rowOfD_47 in_1 (L_iand dR_rowOfD_48 (L_if_eq dR_rowOfD_49 (by decide) ⟨fun c2 => L_iinc dR_rowOfD_214 rfl (by decide) (L_goto dR_rowOfD_217 (by decide) ((h.2 c1).1 c2)), fun c2 => L_iload_n dR_rowOfD_52 rfl (L_iload dR_rowOfD_53 rfl (L_ishr dR_rowOfD_55 (L_iconst dR_rowOfD_56 in_1 (L_iand dR_rowOfD_57 (L_if_ne dR_rowOfD_58 (by decide) ⟨fun c3 => L_iload_n dR_rowOfD_64 rfl (L_iconst dR_rowOfD_65 in_1 (L_iload_n dR_rowOfD_66 rfl (L_ishl dR_rowOfD_67 (L_iconst dR_rowOfD_68 in_1 (L_isub dR_rowOfD_69 (L_iand dR_rowOfD_70 (L_callSI rfl cs_R_bits (As := [vI (and32 x1 (w32 ((shl32 1 x3) - 1)))]) rfl (tk9 183 rfl rfl) rfl (Nat.le_of_ble_eq_true rfl) dR_rowOfD_71 (Tri.mono (((h.2 c1).2 c2).1 c3) (fun r4 σ4 q4 => L_istore dR_rowOfD_74 (by decide) (L_iload_n dR_rowOfD_76 rfl (L_iconst dR_rowOfD_77 in_1 (L_iload dR_rowOfD_78 rfl (L_ishl dR_rowOfD_80 (L_iconst dR_rowOfD_81 in_1 (L_isub dR_rowOfD_82 (L_iand dR_rowOfD_83 (L_callSI rfl cs_R_bits (As := [vI (and32 x1 (w32 ((shl32 1 x4) - 1)))]) rfl (tk9 183 rfl rfl) rfl (Nat.le_of_ble_eq_true rfl) dR_rowOfD_84 (Tri.mono q4 (fun r5 σ5 q5 => L_istore dR_rowOfD_87 (by decide) (L_iload_n dR_rowOfD_89 rfl (L_iconst dR_rowOfD_90 in_1 (L_iload_n dR_rowOfD_91 rfl (L_ishl dR_rowOfD_92 (L_iconst dR_rowOfD_93 in_m1 (L_ixor dR_rowOfD_94 (L_iand dR_rowOfD_95 (L_iconst dR_rowOfD_96 in_1 (L_iload dR_rowOfD_97 rfl (L_ishl dR_rowOfD_99 (L_iconst dR_rowOfD_100 in_m1 (L_ixor dR_rowOfD_101 (L_iand dR_rowOfD_102 (L_istore dR_rowOfD_103 (by decide) (L_iconst dR_rowOfD_105 in_0 (L_istore dR_rowOfD_106 (by decide) q5))))))))))))))))))))))))))))))))))), fun c3 => L_goto dR_rowOfD_61 (by decide) (L_iinc dR_rowOfD_214 rfl (by decide) (L_goto dR_rowOfD_217 (by decide) (((h.2 c1).2 c2).2 c3)))⟩)))))⟩)))))⟩⟩))
theorem s_R_rowOfD_108 {d : Nat} {x1 x3 x4 x5 x6 x7 x8 : Int} {σ : SG} {Q : Int → SG → Prop} (h : (σ 161 27 ≤ x8 → L (d + 1) M_R_rowOfD 35 [vA 161, vI x1, vU, vI x3, vI (w32 (x4 + 1)), vU, vU, vU, vU, vU, vU] [] σ Q) ∧ (x8 < σ 161 27 → (and32 (shr32 x7 x8) 1 ≠ 1 → Tri d M_R_bits [vI (and32 x7 (w32 ((shl32 1 x8) - 1)))] σ (fun r3 σ3 => Tri d M_R_numberOfSet [vA 161, vI (or32 x7 (shl32 1 x8))] σ3 (fun r4 σ4 => (0 ≤ r4 ∧ r4 < 30) ∧ ((w32 ((w32 (x5 + x6)) + r3)).tmod 2 ≠ 0 → Tri d M_R_table [vA 161, vI x3, vI x4, vI x8] σ4 (fun r6 σ6 => Tri d M_R_left [vI (w32 ((σ4 180 r4) + (w32 ((-1) * r6)))), vI (σ6 161 26)] σ6 (fun r7 σ7 => (0 ≤ r4 ∧ r4 < 30) ∧ (∀ σ8, σ8 = up σ7 180 r4 r7 → L (d + 1) M_R_rowOfD 108 [vA 161, vI x1, vU, vI x3, vI x4, vI x5, vI x6, vI x7, vI (w32 (x8 + 1)), vU, vU] [] σ8 Q)))) ∧ ((w32 ((w32 (x5 + x6)) + r3)).tmod 2 = 0 → Tri d M_R_table [vA 161, vI x3, vI x4, vI x8] σ4 (fun r9 σ9 => Tri d M_R_left [vI (w32 ((σ4 180 r4) + (w32 (1 * r9)))), vI (σ9 161 26)] σ9 (fun r10 σ10 => (0 ≤ r4 ∧ r4 < 30) ∧ (∀ σ11, σ11 = up σ10 180 r4 r10 → L (d + 1) M_R_rowOfD 108 [vA 161, vI x1, vU, vI x3, vI x4, vI x5, vI x6, vI x7, vI (w32 (x8 + 1)), vU, vU] [] σ11 Q))))))) ∧ (and32 (shr32 x7 x8) 1 = 1 → L (d + 1) M_R_rowOfD 108 [vA 161, vI x1, vU, vI x3, vI x4, vI x5, vI x6, vI x7, vI (w32 (x8 + 1)), vU, vU] [] σ Q))) : L (d + 1) M_R_rowOfD 108 [vA 161, vI x1, vU, vI x3, vI x4, vI x5, vI x6, vI x7, vI x8, vU, vU] [] σ Q :=
  L_iload dR_rowOfD_108 rfl (L_aload_n dR_rowOfD_110 rfl (L_getf fw_R_253 rfl dR_rowOfD_111 ⟨ob_161, L_icmp_ge dR_rowOfD_114 (by decide) ⟨fun c1 => L_iinc dR_rowOfD_214 rfl (by decide) (L_goto dR_rowOfD_217 (by decide) (L_weak [true, true, true, true, true, false, false, false, false, true, true] (h.1 c1))), fun c1 => L_iload dR_rowOfD_117 rfl (L_iload dR_rowOfD_119 rfl (L_ishr dR_rowOfD_121 (L_iconst dR_rowOfD_122 in_1 (L_iand dR_rowOfD_123 (L_iconst dR_rowOfD_124 in_1 (L_icmp_ne dR_rowOfD_125 (by decide) ⟨fun c2 => L_iload dR_rowOfD_131 rfl (L_iload dR_rowOfD_133 rfl (L_iadd dR_rowOfD_135 (L_iload dR_rowOfD_136 rfl (L_iconst dR_rowOfD_138 in_1 (L_iload dR_rowOfD_139 rfl (L_ishl dR_rowOfD_141 (L_iconst dR_rowOfD_142 in_1 (L_isub dR_rowOfD_143 (L_iand dR_rowOfD_144 (L_callSI rfl cs_R_bits (As := [vI (and32 x7 (w32 ((shl32 1 x8) - 1)))]) rfl (tk9 183 rfl rfl) rfl (Nat.le_of_ble_eq_true rfl) dR_rowOfD_145 (Tri.mono ((h.2 c1).1 c2) (fun r3 σ3 q3 => L_iadd dR_rowOfD_148 (L_istore dR_rowOfD_149 (by decide) (L_aload_n dR_rowOfD_151 rfl (L_iload dR_rowOfD_152 rfl (L_iconst dR_rowOfD_154 in_1 (L_iload dR_rowOfD_155 rfl (L_ishl dR_rowOfD_157 (L_ior dR_rowOfD_158 (L_callVI rfl cv_R_numberOfSet (As := [vI (or32 x7 (shl32 1 x8))]) rfl (tk9 194 rfl rfl) rfl (Nat.le_of_ble_eq_true rfl) dR_rowOfD_159 ⟨ob_161, Tri.mono q3 (fun r4 σ4 q4 => L_istore dR_rowOfD_162 (by decide) (L_aload_n dR_rowOfD_164 rfl (L_getF (b := 180) fw_R_77 rfl rfl (by decide) dR_rowOfD_165 ⟨ob_161, L_iload dR_rowOfD_168 rfl (L_aload_n dR_rowOfD_170 rfl (L_getF (b := 180) fw_R_77 rfl rfl (by decide) dR_rowOfD_171 ⟨ob_161, L_iload dR_rowOfD_174 rfl (L_ialoadL kd_180 dR_rowOfD_176 ⟨q4.1, L_iload dR_rowOfD_177 rfl (L_iconst dR_rowOfD_179 in_2 (L_irem dR_rowOfD_180 ⟨by decide, L_if_ne dR_rowOfD_181 (by decide) ⟨fun c5 => L_iconst dR_rowOfD_188 in_m1 (L_aload_n dR_rowOfD_189 rfl (L_iload_n dR_rowOfD_190 rfl (L_iload dR_rowOfD_191 rfl (L_iload dR_rowOfD_193 rfl (L_callVI rfl cv_R_table (As := [vI x3, vI x4, vI x8]) rfl (tk8 121 rfl rfl) rfl (Nat.le_of_ble_eq_true rfl) dR_rowOfD_195 ⟨ob_161, Tri.mono (q4.2.1 c5) (fun r6 σ6 q6 => L_imul dR_rowOfD_198 (L_iadd dR_rowOfD_199 (L_aload_n dR_rowOfD_200 rfl (L_getf fw_R_250 rfl dR_rowOfD_201 ⟨ob_161, L_callSI rfl cs_R_left (As := [vI (w32 ((σ4 180 r4) + (w32 ((-1) * r6)))), vI (σ6 161 26)]) rfl (tk8 93 rfl rfl) rfl (Nat.le_of_ble_eq_true rfl) dR_rowOfD_204 (Tri.mono q6 (fun r7 σ7 q7 => L_iastoreL (by decide) kd_180 dR_rowOfD_207 ⟨q7.1, fun σ8 e8 => L_iinc dR_rowOfD_208 rfl (by decide) (L_goto dR_rowOfD_211 (by decide) (L_weak [true, true, true, true, true, true, true, true, true, false, false] (q7.2 σ8 e8)))⟩))⟩))))⟩))))), fun c5 => L_iconst dR_rowOfD_184 in_1 (L_goto dR_rowOfD_185 (by decide) (L_aload_n dR_rowOfD_189 rfl (L_iload_n dR_rowOfD_190 rfl (L_iload dR_rowOfD_191 rfl (L_iload dR_rowOfD_193 rfl (L_callVI rfl cv_R_table (As := [vI x3, vI x4, vI x8]) rfl (tk8 121 rfl rfl) rfl (Nat.le_of_ble_eq_true rfl) dR_rowOfD_195 ⟨ob_161, Tri.mono (q4.2.2 c5) (fun r9 σ9 q9 => L_imul dR_rowOfD_198 (L_iadd dR_rowOfD_199 (L_aload_n dR_rowOfD_200 rfl (L_getf fw_R_250 rfl dR_rowOfD_201 ⟨ob_161, L_callSI rfl cs_R_left (As := [vI (w32 ((σ4 180 r4) + (w32 (1 * r9)))), vI (σ9 161 26)]) rfl (tk8 93 rfl rfl) rfl (Nat.le_of_ble_eq_true rfl) dR_rowOfD_204 (Tri.mono q9 (fun r10 σ10 q10 => L_iastoreL (by decide) kd_180 dR_rowOfD_207 ⟨q10.1, fun σ11 e11 => L_iinc dR_rowOfD_208 rfl (by decide) (L_goto dR_rowOfD_211 (by decide) (L_weak [true, true, true, true, true, true, true, true, true, false, false] (q10.2 σ11 e11)))⟩))⟩))))⟩))))))⟩⟩))⟩)⟩))⟩)))⟩)))))))))))))))))))), fun c2 => L_goto dR_rowOfD_128 (by decide) (L_iinc dR_rowOfD_208 rfl (by decide) (L_goto dR_rowOfD_211 (by decide) ((h.2 c1).2 c2)))⟩))))))⟩⟩))
theorem dR_rankOfD_0 : decode prog_14_method_132_code 0 = .ok (.aload_n 0, 1) := by decide +kernel
theorem dR_rankOfD_1 : decode prog_14_method_132_code 1 = .ok (.invokevirtual 430, 3) := by decide +kernel
theorem dR_rankOfD_4 : decode prog_14_method_132_code 4 = .ok (.aload_n 0, 1) := by decide +kernel
theorem dR_rankOfD_5 : decode prog_14_method_132_code 5 = .ok (.iload_n 1, 1) := by decide +kernel
theorem dR_rankOfD_6 : decode prog_14_method_132_code 6 = .ok (.invokevirtual 521, 3) := by decide +kernel
theorem dR_rankOfD_9 : decode prog_14_method_132_code 9 = .ok (.istore_n 2, 1) := by decide +kernel
theorem dR_rankOfD_10 : decode prog_14_method_132_code 10 = .ok (.iconst 0, 1) := by decide +kernel
theorem dR_rankOfD_11 : decode prog_14_method_132_code 11 = .ok (.istore_n 3, 1) := by decide +kernel
theorem dR_rankOfD_12 : decode prog_14_method_132_code 12 = .ok (.iload_n 3, 1) := by decide +kernel
theorem dR_rankOfD_13 : decode prog_14_method_132_code 13 = .ok (.iconst 1, 1) := by decide +kernel
theorem dR_rankOfD_14 : decode prog_14_method_132_code 14 = .ok (.aload_n 0, 1) := by decide +kernel
theorem dR_rankOfD_15 : decode prog_14_method_132_code 15 = .ok (.getfield 253, 3) := by decide +kernel
theorem dR_rankOfD_18 : decode prog_14_method_132_code 18 = .ok (.ishl, 1) := by decide +kernel
theorem dR_rankOfD_19 : decode prog_14_method_132_code 19 = .ok (.if_icmp .ge 33, 3) := by decide +kernel
theorem dR_rankOfD_22 : decode prog_14_method_132_code 22 = .ok (.iload_n 3, 1) := by decide +kernel
theorem dR_rankOfD_23 : decode prog_14_method_132_code 23 = .ok (.invokestatic 515, 3) := by decide +kernel
theorem dR_rankOfD_26 : decode prog_14_method_132_code 26 = .ok (.iload_n 1, 1) := by decide +kernel
theorem dR_rankOfD_27 : decode prog_14_method_132_code 27 = .ok (.iconst 1, 1) := by decide +kernel
theorem dR_rankOfD_28 : decode prog_14_method_132_code 28 = .ok (.iadd, 1) := by decide +kernel
theorem dR_rankOfD_29 : decode prog_14_method_132_code 29 = .ok (.if_icmp .eq 6, 3) := by decide +kernel
theorem dR_rankOfD_32 : decode prog_14_method_132_code 32 = .ok (.goto 14, 3) := by decide +kernel
theorem dR_rankOfD_35 : decode prog_14_method_132_code 35 = .ok (.aload_n 0, 1) := by decide +kernel
theorem dR_rankOfD_36 : decode prog_14_method_132_code 36 = .ok (.iload_n 3, 1) := by decide +kernel
theorem dR_rankOfD_37 : decode prog_14_method_132_code 37 = .ok (.iload_n 2, 1) := by decide +kernel
theorem dR_rankOfD_38 : decode prog_14_method_132_code 38 = .ok (.invokevirtual 524, 3) := by decide +kernel
theorem dR_rankOfD_41 : decode prog_14_method_132_code 41 = .ok (.aload_n 0, 1) := by decide +kernel
theorem dR_rankOfD_42 : decode prog_14_method_132_code 42 = .ok (.iload_n 2, 1) := by decide +kernel
theorem dR_rankOfD_43 : decode prog_14_method_132_code 43 = .ok (.invokevirtual 433, 3) := by decide +kernel
theorem dR_rankOfD_46 : decode prog_14_method_132_code 46 = .ok (.iinc 3 1, 3) := by decide +kernel
theorem dR_rankOfD_49 : decode prog_14_method_132_code 49 = .ok (.goto (-37), 3) := by decide +kernel
theorem dR_rankOfD_52 : decode prog_14_method_132_code 52 = .ok (.aload_n 0, 1) := by decide +kernel
theorem dR_rankOfD_53 : decode prog_14_method_132_code 53 = .ok (.getfield 423, 3) := by decide +kernel
theorem dR_rankOfD_56 : decode prog_14_method_132_code 56 = .ok (.ireturn, 1) := by decide +kernel
theorem t_R_rankOfD {d : Nat} {x1 : Int} {σ : SG} {Q : Int → SG → Prop} (h : inI x1 → (Tri d M_R_noRows [vA 161] σ (fun r1 σ1 => Tri d M_R_setsOf [vA 161, vI x1] σ1 (fun r2 σ2 => L (d + 1) M_R_rankOfD 12 [vA 161, vI x1, vI r2, vI 0] [] σ2 Q)))) : Tri (d + 1) M_R_rankOfD [vA 161, vI x1] σ Q :=
  Tri_intro rfl (Nat.le_of_ble_eq_true rfl) (ls := [vA 161, vI x1, vU, vU]) rfl (fun hok => L_aload_n dR_rankOfD_0 rfl (L_callVV rfl cv_R_noRows (As := []) rfl (tk9 35 rfl rfl) rfl (Nat.le_of_ble_eq_true rfl) dR_rankOfD_1 ⟨ob_161, Tri.mono ((h (hok _ (List.mem_of_getElem? (i := 1) rfl)))) (fun r1 σ1 q1 => L_aload_n dR_rankOfD_4 rfl (L_iload_n dR_rankOfD_5 rfl (L_callVI rfl cv_R_setsOf (As := [vI x1]) rfl (tk9 179 rfl rfl) rfl (Nat.le_of_ble_eq_true rfl) dR_rankOfD_6 ⟨ob_161, Tri.mono q1 (fun r2 σ2 q2 => L_istore_n dR_rankOfD_9 (by decide) (L_iconst dR_rankOfD_10 in_0 (L_istore_n dR_rankOfD_11 (by decide) q2)))⟩)))⟩))
theorem s_R_rankOfD_12 {d : Nat} {x1 x2 x3 : Int} {σ : SG} {Q : Int → SG → Prop} (h : (shl32 1 (σ 161 27) ≤ x3 → Q (σ 161 39) σ) ∧ (x3 < shl32 1 (σ 161 27) → Tri d M_R_bits [vI x3] σ (fun r2 σ2 => (r2 = w32 (x1 + 1) → Tri d M_R_rowOfD [vA 161, vI x3, vI x2] σ2 (fun r4 σ4 => Tri d M_R_addEquation [vA 161, vI x2] σ4 (fun r5 σ5 => L (d + 1) M_R_rankOfD 12 [vA 161, vI x1, vI x2, vI (w32 (x3 + 1))] [] σ5 Q))) ∧ (r2 ≠ w32 (x1 + 1) → L (d + 1) M_R_rankOfD 12 [vA 161, vI x1, vI x2, vI (w32 (x3 + 1))] [] σ2 Q)))) : L (d + 1) M_R_rankOfD 12 [vA 161, vI x1, vI x2, vI x3] [] σ Q :=
  L_iload_n dR_rankOfD_12 rfl (L_iconst dR_rankOfD_13 in_1 (L_aload_n dR_rankOfD_14 rfl (L_getf fw_R_253 rfl dR_rankOfD_15 ⟨ob_161, L_ishl dR_rankOfD_18 (L_icmp_ge dR_rankOfD_19 (by decide) ⟨fun c1 => L_aload_n dR_rankOfD_52 rfl (L_getf fw_R_423 rfl dR_rankOfD_53 ⟨ob_161, L_ireturn rfl dR_rankOfD_56 (h.1 c1)⟩), fun c1 => L_iload_n dR_rankOfD_22 rfl (L_callSI rfl cs_R_bits (As := [vI x3]) rfl (tk9 183 rfl rfl) rfl (Nat.le_of_ble_eq_true rfl) dR_rankOfD_23 (Tri.mono (h.2 c1) (fun r2 σ2 q2 => L_iload_n dR_rankOfD_26 rfl (L_iconst dR_rankOfD_27 in_1 (L_iadd dR_rankOfD_28 (L_icmp_eq dR_rankOfD_29 (by decide) ⟨fun c3 => L_aload_n dR_rankOfD_35 rfl (L_iload_n dR_rankOfD_36 rfl (L_iload_n dR_rankOfD_37 rfl (L_callVV rfl cv_R_rowOfD (As := [vI x3, vI x2]) rfl (tk9 190 rfl rfl) rfl (Nat.le_of_ble_eq_true rfl) dR_rankOfD_38 ⟨ob_161, Tri.mono (q2.1 c3) (fun r4 σ4 q4 => L_aload_n dR_rankOfD_41 rfl (L_iload_n dR_rankOfD_42 rfl (L_callVV rfl cv_R_addEquation (As := [vI x2]) rfl (tk9 39 rfl rfl) rfl (Nat.le_of_ble_eq_true rfl) dR_rankOfD_43 ⟨ob_161, Tri.mono q4 (fun r5 σ5 q5 => L_iinc dR_rankOfD_46 rfl (by decide) (L_goto dR_rankOfD_49 (by decide) q5))⟩)))⟩))), fun c3 => L_goto dR_rankOfD_32 (by decide) (L_iinc dR_rankOfD_46 rfl (by decide) (L_goto dR_rankOfD_49 (by decide) (q2.2 c3)))⟩))))))⟩)⟩)))
theorem dR_classSize_0 : decode prog_14_method_133_code 0 = .ok (.iload_n 1, 1) := by decide +kernel
theorem dR_classSize_1 : decode prog_14_method_133_code 1 = .ok (.aload_n 0, 1) := by decide +kernel
theorem dR_classSize_2 : decode prog_14_method_133_code 2 = .ok (.getfield 253, 3) := by decide +kernel
theorem dR_classSize_5 : decode prog_14_method_133_code 5 = .ok (.if_icmp .le 5, 3) := by decide +kernel
theorem dR_classSize_8 : decode prog_14_method_133_code 8 = .ok (.iconst 0, 1) := by decide +kernel
theorem dR_classSize_9 : decode prog_14_method_133_code 9 = .ok (.ireturn, 1) := by decide +kernel
theorem dR_classSize_10 : decode prog_14_method_133_code 10 = .ok (.aload_n 0, 1) := by decide +kernel
theorem dR_classSize_11 : decode prog_14_method_133_code 11 = .ok (.iload_n 1, 1) := by decide +kernel
theorem dR_classSize_12 : decode prog_14_method_133_code 12 = .ok (.invokevirtual 521, 3) := by decide +kernel
theorem dR_classSize_15 : decode prog_14_method_133_code 15 = .ok (.aload_n 0, 1) := by decide +kernel
theorem dR_classSize_16 : decode prog_14_method_133_code 16 = .ok (.iload_n 1, 1) := by decide +kernel
theorem dR_classSize_17 : decode prog_14_method_133_code 17 = .ok (.invokevirtual 527, 3) := by decide +kernel
theorem dR_classSize_20 : decode prog_14_method_133_code 20 = .ok (.isub, 1) := by decide +kernel
theorem dR_classSize_21 : decode prog_14_method_133_code 21 = .ok (.istore_n 2, 1) := by decide +kernel
theorem dR_classSize_22 : decode prog_14_method_133_code 22 = .ok (.iload_n 2, 1) := by decide +kernel
theorem dR_classSize_23 : decode prog_14_method_133_code 23 = .ok (.iload_n 1, 1) := by decide +kernel
theorem dR_classSize_24 : decode prog_14_method_133_code 24 = .ok (.ifCond .ne 7, 3) := by decide +kernel
theorem dR_classSize_27 : decode prog_14_method_133_code 27 = .ok (.iconst 0, 1) := by decide +kernel
theorem dR_classSize_28 : decode prog_14_method_133_code 28 = .ok (.goto 10, 3) := by decide +kernel
theorem dR_classSize_31 : decode prog_14_method_133_code 31 = .ok (.aload_n 0, 1) := by decide +kernel
theorem dR_classSize_32 : decode prog_14_method_133_code 32 = .ok (.iload_n 1, 1) := by decide +kernel
theorem dR_classSize_33 : decode prog_14_method_133_code 33 = .ok (.iconst 1, 1) := by decide +kernel
theorem dR_classSize_34 : decode prog_14_method_133_code 34 = .ok (.isub, 1) := by decide +kernel
theorem dR_classSize_35 : decode prog_14_method_133_code 35 = .ok (.invokevirtual 527, 3) := by decide +kernel
theorem dR_classSize_38 : decode prog_14_method_133_code 38 = .ok (.isub, 1) := by decide +kernel
theorem dR_classSize_39 : decode prog_14_method_133_code 39 = .ok (.ireturn, 1) := by decide +kernel
theorem t_R_classSize {d : Nat} {x1 : Int} {σ : SG} {Q : Int → SG → Prop} (h : inI x1 → ((x1 ≤ σ 161 27 → Tri d M_R_setsOf [vA 161, vI x1] σ (fun r2 σ2 => Tri d M_R_rankOfD [vA 161, vI x1] σ2 (fun r3 σ3 => (x1 ≠ 0 → Tri d M_R_rankOfD [vA 161, vI (w32 (x1 - 1))] σ3 (fun r5 σ5 => Q (w32 ((w32 (r2 - r3)) - r5)) σ5)) ∧ (x1 = 0 → Q (w32 ((w32 (r2 - r3)) - 0)) σ3)))) ∧ (σ 161 27 < x1 → Q 0 σ))) : Tri (d + 1) M_R_classSize [vA 161, vI x1] σ Q :=
  Tri_intro rfl (Nat.le_of_ble_eq_true rfl) (ls := [vA 161, vI x1, vU]) rfl (fun hok => L_iload_n dR_classSize_0 rfl (L_aload_n dR_classSize_1 rfl (L_getf fw_R_253 rfl dR_classSize_2 ⟨ob_161, L_icmp_le dR_classSize_5 (by decide) ⟨fun c1 => L_aload_n dR_classSize_10 rfl (L_iload_n dR_classSize_11 rfl (L_callVI rfl cv_R_setsOf (As := [vI x1]) rfl (tk9 179 rfl rfl) rfl (Nat.le_of_ble_eq_true rfl) dR_classSize_12 ⟨ob_161, Tri.mono ((h (hok _ (List.mem_of_getElem? (i := 1) rfl))).1 c1) (fun r2 σ2 q2 => L_aload_n dR_classSize_15 rfl (L_iload_n dR_classSize_16 rfl (L_callVI rfl cv_R_rankOfD (As := [vI x1]) rfl (tk9 186 rfl rfl) rfl (Nat.le_of_ble_eq_true rfl) dR_classSize_17 ⟨ob_161, Tri.mono q2 (fun r3 σ3 q3 => L_isub dR_classSize_20 (L_istore_n dR_classSize_21 (by decide) (L_iload_n dR_classSize_22 rfl (L_iload_n dR_classSize_23 rfl (L_if_ne dR_classSize_24 (by decide) ⟨fun c4 => L_aload_n dR_classSize_31 rfl (L_iload_n dR_classSize_32 rfl (L_iconst dR_classSize_33 in_1 (L_isub dR_classSize_34 (L_callVI rfl cv_R_rankOfD (As := [vI (w32 (x1 - 1))]) rfl (tk9 186 rfl rfl) rfl (Nat.le_of_ble_eq_true rfl) dR_classSize_35 ⟨ob_161, Tri.mono (q3.1 c4) (fun r5 σ5 q5 => L_isub dR_classSize_38 (L_ireturn rfl dR_classSize_39 q5))⟩)))), fun c4 => L_iconst dR_classSize_27 in_0 (L_goto dR_classSize_28 (by decide) (L_isub dR_classSize_38 (L_ireturn rfl dR_classSize_39 (q3.2 c4))))⟩)))))⟩)))⟩)), fun c1 => L_iconst dR_classSize_8 in_0 (L_ireturn rfl dR_classSize_9 ((h (hok _ (List.mem_of_getElem? (i := 1) rfl))).2 c1))⟩⟩)))
theorem dR_classes_0 : decode prog_14_method_134_code 0 = .ok (.aload_n 0, 1) := by decide +kernel
theorem dR_classes_1 : decode prog_14_method_134_code 1 = .ok (.iconst 0, 1) := by decide +kernel
theorem dR_classes_2 : decode prog_14_method_134_code 2 = .ok (.putfield 132, 3) := by decide +kernel
theorem dR_classes_5 : decode prog_14_method_134_code 5 = .ok (.aload_n 0, 1) := by decide +kernel
theorem dR_classes_6 : decode prog_14_method_134_code 6 = .ok (.iconst 0, 1) := by decide +kernel
theorem dR_classes_7 : decode prog_14_method_134_code 7 = .ok (.putfield 135, 3) := by decide +kernel
theorem dR_classes_10 : decode prog_14_method_134_code 10 = .ok (.aload_n 0, 1) := by decide +kernel
theorem dR_classes_11 : decode prog_14_method_134_code 11 = .ok (.invokevirtual 348, 3) := by decide +kernel
theorem dR_classes_14 : decode prog_14_method_134_code 14 = .ok (.iload_n 1, 1) := by decide +kernel
theorem dR_classes_15 : decode prog_14_method_134_code 15 = .ok (.i2l, 1) := by decide +kernel
theorem dR_classes_16 : decode prog_14_method_134_code 16 = .ok (.lconst 0, 1) := by decide +kernel
theorem dR_classes_17 : decode prog_14_method_134_code 17 = .ok (.aload_n 0, 1) := by decide +kernel
theorem dR_classes_18 : decode prog_14_method_134_code 18 = .ok (.getfield 253, 3) := by decide +kernel
theorem dR_classes_21 : decode prog_14_method_134_code 21 = .ok (.i2l, 1) := by decide +kernel
theorem dR_classes_22 : decode prog_14_method_134_code 22 = .ok (.invokestatic 167, 3) := by decide +kernel
theorem dR_classes_25 : decode prog_14_method_134_code 25 = .ok (.ifCond .ne 9, 3) := by decide +kernel
theorem dR_classes_28 : decode prog_14_method_134_code 28 = .ok (.aload_n 0, 1) := by decide +kernel
theorem dR_classes_29 : decode prog_14_method_134_code 29 = .ok (.iconst 5, 1) := by decide +kernel
theorem dR_classes_30 : decode prog_14_method_134_code 30 = .ok (.invokevirtual 351, 3) := by decide +kernel
theorem dR_classes_33 : decode prog_14_method_134_code 33 = .ok (.ireturn, 1) := by decide +kernel
theorem dR_classes_34 : decode prog_14_method_134_code 34 = .ok (.aload_n 0, 1) := by decide +kernel
theorem dR_classes_35 : decode prog_14_method_134_code 35 = .ok (.invokevirtual 379, 3) := by decide +kernel
theorem dR_classes_38 : decode prog_14_method_134_code 38 = .ok (.ifCond .eq 11, 3) := by decide +kernel
theorem dR_classes_41 : decode prog_14_method_134_code 41 = .ok (.aload_n 0, 1) := by decide +kernel
theorem dR_classes_42 : decode prog_14_method_134_code 42 = .ok (.iload_n 1, 1) := by decide +kernel
theorem dR_classes_43 : decode prog_14_method_134_code 43 = .ok (.invokevirtual 530, 3) := by decide +kernel
theorem dR_classes_46 : decode prog_14_method_134_code 46 = .ok (.goto 9, 3) := by decide +kernel
theorem dR_classes_49 : decode prog_14_method_134_code 49 = .ok (.aload_n 0, 1) := by decide +kernel
theorem dR_classes_50 : decode prog_14_method_134_code 50 = .ok (.bipush 9, 2) := by decide +kernel
theorem dR_classes_52 : decode prog_14_method_134_code 52 = .ok (.invokevirtual 351, 3) := by decide +kernel
theorem dR_classes_55 : decode prog_14_method_134_code 55 = .ok (.ireturn, 1) := by decide +kernel
theorem t_R_classes {d : Nat} {x1 : Int} {σ : SG} {Q : Int → SG → Prop} (h : inI x1 → ((∀ σ1, σ1 = up σ 161 1 0 → (∀ σ2, σ2 = up σ1 161 0 0 → Tri d M_R_askNow [vA 161] σ2 (fun r3 σ3 => Tri d M_R_isIn [vJ x1, vJ 0, vJ (σ3 161 27)] σ3 (fun r4 σ4 => (r4 ≠ 0 → Tri d M_R_isLawful [vA 161] σ4 (fun r6 σ6 => (r6 = 0 → Tri d M_R_refuse [vA 161, vI 9] σ6 (fun r8 σ8 => Q r8 σ8)) ∧ (r6 ≠ 0 → Tri d M_R_classSize [vA 161, vI x1] σ6 (fun r9 σ9 => Q r9 σ9)))) ∧ (r4 = 0 → Tri d M_R_refuse [vA 161, vI 5] σ4 (fun r10 σ10 => Q r10 σ10)))))))) : Tri (d + 1) M_R_classes [vA 161, vI x1] σ Q :=
  Tri_intro rfl (Nat.le_of_ble_eq_true rfl) (ls := [vA 161, vI x1]) rfl (fun hok => L_aload_n dR_classes_0 rfl (L_iconst dR_classes_1 in_0 (L_putfN fp_R_132 rfl rfl (fun _ => ⟨rfl, rfl⟩) dR_classes_2 ⟨ob_161, fun σ1 e1 => L_aload_n dR_classes_5 rfl (L_iconst dR_classes_6 in_0 (L_putfN fp_R_135 rfl rfl (fun _ => ⟨rfl, rfl⟩) dR_classes_7 ⟨ob_161, fun σ2 e2 => L_aload_n dR_classes_10 rfl (L_callVV rfl cv_R_askNow (As := []) rfl (tk8 108 rfl rfl) rfl (Nat.le_of_ble_eq_true rfl) dR_classes_11 ⟨ob_161, Tri.mono (((h (hok _ (List.mem_of_getElem? (i := 1) rfl))) σ1 e1) σ2 e2) (fun r3 σ3 q3 => L_iload_n dR_classes_14 rfl (L_i2l dR_classes_15 (L_lconst (x := 0) dR_classes_16 rfl inJ_0 (L_aload_n dR_classes_17 rfl (L_getf fw_R_253 rfl dR_classes_18 ⟨ob_161, L_i2l dR_classes_21 (L_callSI rfl cs_R_isIn (As := [vJ x1, vJ 0, vJ (σ3 161 27)]) rfl (tk8 47 rfl rfl) rfl (Nat.le_of_ble_eq_true rfl) dR_classes_22 (Tri.mono q3 (fun r4 σ4 q4 => L_if_ne dR_classes_25 (by decide) ⟨fun c5 => L_aload_n dR_classes_34 rfl (L_callVI rfl cv_R_isLawful (As := []) rfl (tk8 169 rfl rfl) rfl (Nat.le_of_ble_eq_true rfl) dR_classes_35 ⟨ob_161, Tri.mono (q4.1 c5) (fun r6 σ6 q6 => L_if_eq dR_classes_38 (by decide) ⟨fun c7 => L_aload_n dR_classes_49 rfl (L_bipush dR_classes_50 bp_9 in_9 (L_callVI rfl cv_R_refuse (As := [vI 9]) rfl (tk8 117 rfl rfl) rfl (Nat.le_of_ble_eq_true rfl) dR_classes_52 ⟨ob_161, Tri.mono (q6.1 c7) (fun r8 σ8 q8 => L_ireturn rfl dR_classes_55 q8)⟩)), fun c7 => L_aload_n dR_classes_41 rfl (L_iload_n dR_classes_42 rfl (L_callVI rfl cv_R_classSize (As := [vI x1]) rfl (tk9 175 rfl rfl) rfl (Nat.le_of_ble_eq_true rfl) dR_classes_43 ⟨ob_161, Tri.mono (q6.2 c7) (fun r9 σ9 q9 => L_goto dR_classes_46 (by decide) (L_ireturn rfl dR_classes_55 q9))⟩))⟩)⟩), fun c5 => L_aload_n dR_classes_28 rfl (L_iconst dR_classes_29 in_5 (L_callVI rfl cv_R_refuse (As := [vI 5]) rfl (tk8 117 rfl rfl) rfl (Nat.le_of_ble_eq_true rfl) dR_classes_30 ⟨ob_161, Tri.mono (q4.2 c5) (fun r10 σ10 q10 => L_ireturn rfl dR_classes_33 q10)⟩))⟩)))⟩)))))⟩)⟩))⟩)))
theorem dR_commutingMany_0 : decode prog_14_method_135_code 0 = .ok (.iconst 0, 1) := by decide +kernel
theorem dR_commutingMany_1 : decode prog_14_method_135_code 1 = .ok (.istore_n 1, 1) := by decide +kernel
theorem dR_commutingMany_2 : decode prog_14_method_135_code 2 = .ok (.iconst 0, 1) := by decide +kernel
theorem dR_commutingMany_3 : decode prog_14_method_135_code 3 = .ok (.istore_n 2, 1) := by decide +kernel
theorem dR_commutingMany_4 : decode prog_14_method_135_code 4 = .ok (.iload_n 2, 1) := by decide +kernel
theorem dR_commutingMany_5 : decode prog_14_method_135_code 5 = .ok (.aload_n 0, 1) := by decide +kernel
theorem dR_commutingMany_6 : decode prog_14_method_135_code 6 = .ok (.invokevirtual 323, 3) := by decide +kernel
theorem dR_commutingMany_9 : decode prog_14_method_135_code 9 = .ok (.if_icmp .ge 26, 3) := by decide +kernel
theorem dR_commutingMany_12 : decode prog_14_method_135_code 12 = .ok (.iload_n 1, 1) := by decide +kernel
theorem dR_commutingMany_13 : decode prog_14_method_135_code 13 = .ok (.aload_n 0, 1) := by decide +kernel
theorem dR_commutingMany_14 : decode prog_14_method_135_code 14 = .ok (.aload_n 0, 1) := by decide +kernel
theorem dR_commutingMany_15 : decode prog_14_method_135_code 15 = .ok (.getfield 253, 3) := by decide +kernel
theorem dR_commutingMany_18 : decode prog_14_method_135_code 18 = .ok (.aload_n 0, 1) := by decide +kernel
theorem dR_commutingMany_19 : decode prog_14_method_135_code 19 = .ok (.iload_n 2, 1) := by decide +kernel
theorem dR_commutingMany_20 : decode prog_14_method_135_code 20 = .ok (.invokevirtual 439, 3) := by decide +kernel
theorem dR_commutingMany_23 : decode prog_14_method_135_code 23 = .ok (.isub, 1) := by decide +kernel
theorem dR_commutingMany_24 : decode prog_14_method_135_code 24 = .ok (.invokevirtual 320, 3) := by decide +kernel
theorem dR_commutingMany_27 : decode prog_14_method_135_code 27 = .ok (.iadd, 1) := by decide +kernel
theorem dR_commutingMany_28 : decode prog_14_method_135_code 28 = .ok (.istore_n 1, 1) := by decide +kernel
theorem dR_commutingMany_29 : decode prog_14_method_135_code 29 = .ok (.iinc 2 1, 3) := by decide +kernel
theorem dR_commutingMany_32 : decode prog_14_method_135_code 32 = .ok (.goto (-28), 3) := by decide +kernel
theorem dR_commutingMany_35 : decode prog_14_method_135_code 35 = .ok (.iload_n 1, 1) := by decide +kernel
theorem dR_commutingMany_36 : decode prog_14_method_135_code 36 = .ok (.ireturn, 1) := by decide +kernel
theorem t_R_commutingMany {d : Nat} {σ : SG} {Q : Int → SG → Prop} (h : L (d + 1) M_R_commutingMany 4 [vA 161, vI 0, vI 0] [] σ Q) : Tri (d + 1) M_R_commutingMany [vA 161] σ Q :=
  Tri_intro rfl (Nat.le_of_ble_eq_true rfl) (ls := [vA 161, vU, vU]) rfl (fun hok => L_iconst dR_commutingMany_0 in_0 (L_istore_n dR_commutingMany_1 (by decide) (L_iconst dR_commutingMany_2 in_0 (L_istore_n dR_commutingMany_3 (by decide) (h)))))
theorem s_R_commutingMany_4 {d : Nat} {x1 x2 : Int} {σ : SG} {Q : Int → SG → Prop} (h : Tri d M_R_vectors [vA 161] σ (fun r1 σ1 => (r1 ≤ x2 → Q x1 σ1) ∧ (x2 < r1 → Tri d M_R_rankOf [vA 161, vI x2] σ1 (fun r3 σ3 => Tri d M_R_powerOf [vA 161, vI (w32 ((σ1 161 27) - r3))] σ3 (fun r4 σ4 => L (d + 1) M_R_commutingMany 4 [vA 161, vI (w32 (x1 + r4)), vI (w32 (x2 + 1))] [] σ4 Q))))) : L (d + 1) M_R_commutingMany 4 [vA 161, vI x1, vI x2] [] σ Q :=
  L_iload_n dR_commutingMany_4 rfl (L_aload_n dR_commutingMany_5 rfl (L_callVI rfl cv_R_vectors (As := []) rfl (tk8 145 rfl rfl) rfl (Nat.le_of_ble_eq_true rfl) dR_commutingMany_6 ⟨ob_161, Tri.mono h (fun r1 σ1 q1 => L_icmp_ge dR_commutingMany_9 (by decide) ⟨fun c2 => L_iload_n dR_commutingMany_35 rfl (L_ireturn rfl dR_commutingMany_36 (q1.1 c2)), fun c2 => L_iload_n dR_commutingMany_12 rfl (L_aload_n dR_commutingMany_13 rfl (L_aload_n dR_commutingMany_14 rfl (L_getf fw_R_253 rfl dR_commutingMany_15 ⟨ob_161, L_aload_n dR_commutingMany_18 rfl (L_iload_n dR_commutingMany_19 rfl (L_callVI rfl cv_R_rankOf (As := [vI x2]) rfl (tk9 51 rfl rfl) rfl (Nat.le_of_ble_eq_true rfl) dR_commutingMany_20 ⟨ob_161, Tri.mono (q1.2 c2) (fun r3 σ3 q3 => L_isub dR_commutingMany_23 (L_callVI rfl cv_R_powerOf (As := [vI (w32 ((σ1 161 27) - r3))]) rfl (tk8 149 rfl rfl) rfl (Nat.le_of_ble_eq_true rfl) dR_commutingMany_24 ⟨ob_161, Tri.mono q3 (fun r4 σ4 q4 => L_iadd dR_commutingMany_27 (L_istore_n dR_commutingMany_28 (by decide) (L_iinc dR_commutingMany_29 rfl (by decide) (L_goto dR_commutingMany_32 (by decide) q4))))⟩))⟩))⟩)))⟩)⟩))
theorem dR_commuting_0 : decode prog_14_method_136_code 0 = .ok (.aload_n 0, 1) := by decide +kernel
theorem dR_commuting_1 : decode prog_14_method_136_code 1 = .ok (.iconst 0, 1) := by decide +kernel
theorem dR_commuting_2 : decode prog_14_method_136_code 2 = .ok (.putfield 132, 3) := by decide +kernel
theorem dR_commuting_5 : decode prog_14_method_136_code 5 = .ok (.aload_n 0, 1) := by decide +kernel
theorem dR_commuting_6 : decode prog_14_method_136_code 6 = .ok (.iconst 0, 1) := by decide +kernel
theorem dR_commuting_7 : decode prog_14_method_136_code 7 = .ok (.putfield 135, 3) := by decide +kernel
theorem dR_commuting_10 : decode prog_14_method_136_code 10 = .ok (.aload_n 0, 1) := by decide +kernel
theorem dR_commuting_11 : decode prog_14_method_136_code 11 = .ok (.invokevirtual 348, 3) := by decide +kernel
theorem dR_commuting_14 : decode prog_14_method_136_code 14 = .ok (.aload_n 0, 1) := by decide +kernel
theorem dR_commuting_15 : decode prog_14_method_136_code 15 = .ok (.invokevirtual 533, 3) := by decide +kernel
theorem dR_commuting_18 : decode prog_14_method_136_code 18 = .ok (.ireturn, 1) := by decide +kernel
theorem t_R_commuting {d : Nat} {σ : SG} {Q : Int → SG → Prop} (h : (∀ σ1, σ1 = up σ 161 1 0 → (∀ σ2, σ2 = up σ1 161 0 0 → Tri d M_R_askNow [vA 161] σ2 (fun r3 σ3 => Tri d M_R_commutingMany [vA 161] σ3 (fun r4 σ4 => Q r4 σ4))))) : Tri (d + 1) M_R_commuting [vA 161] σ Q :=
  Tri_intro rfl (Nat.le_of_ble_eq_true rfl) (ls := [vA 161]) rfl (fun hok => L_aload_n dR_commuting_0 rfl (L_iconst dR_commuting_1 in_0 (L_putfN fp_R_132 rfl rfl (fun _ => ⟨rfl, rfl⟩) dR_commuting_2 ⟨ob_161, fun σ1 e1 => L_aload_n dR_commuting_5 rfl (L_iconst dR_commuting_6 in_0 (L_putfN fp_R_135 rfl rfl (fun _ => ⟨rfl, rfl⟩) dR_commuting_7 ⟨ob_161, fun σ2 e2 => L_aload_n dR_commuting_10 rfl (L_callVV rfl cv_R_askNow (As := []) rfl (tk8 108 rfl rfl) rfl (Nat.le_of_ble_eq_true rfl) dR_commuting_11 ⟨ob_161, Tri.mono ((h σ1 e1) σ2 e2) (fun r3 σ3 q3 => L_aload_n dR_commuting_14 rfl (L_callVI rfl cv_R_commutingMany (As := []) rfl (tk9 202 rfl rfl) rfl (Nat.le_of_ble_eq_true rfl) dR_commuting_15 ⟨ob_161, Tri.mono q3 (fun r4 σ4 q4 => L_ireturn rfl dR_commuting_18 q4)⟩))⟩)⟩))⟩)))
theorem dR_sourceTable_0 : decode prog_14_method_137_code 0 = .ok (.aload_n 0, 1) := by decide +kernel
theorem dR_sourceTable_1 : decode prog_14_method_137_code 1 = .ok (.getfield 536, 3) := by decide +kernel
theorem dR_sourceTable_4 : decode prog_14_method_137_code 4 = .ok (.aload_n 0, 1) := by decide +kernel
theorem dR_sourceTable_5 : decode prog_14_method_137_code 5 = .ok (.getfield 539, 3) := by decide +kernel
theorem dR_sourceTable_8 : decode prog_14_method_137_code 8 = .ok (.iload_n 1, 1) := by decide +kernel
theorem dR_sourceTable_9 : decode prog_14_method_137_code 9 = .ok (.iload_n 2, 1) := by decide +kernel
theorem dR_sourceTable_10 : decode prog_14_method_137_code 10 = .ok (.iload_n 3, 1) := by decide +kernel
theorem dR_sourceTable_11 : decode prog_14_method_137_code 11 = .ok (.invokestatic 260, 3) := by decide +kernel
theorem dR_sourceTable_14 : decode prog_14_method_137_code 14 = .ok (.iadd, 1) := by decide +kernel
theorem dR_sourceTable_15 : decode prog_14_method_137_code 15 = .ok (.iaload, 1) := by decide +kernel
theorem dR_sourceTable_16 : decode prog_14_method_137_code 16 = .ok (.ireturn, 1) := by decide +kernel
theorem t_R_sourceTable {d : Nat} {x1 x2 x3 : Int} {σ : SG} {Q : Int → SG → Prop} (h : inI x1 → inI x2 → inI x3 → (Tri d M_R_cell [vI x1, vI x2, vI x3] σ (fun r1 σ1 => rdok 100 (σ 161 64) (w32 ((σ 161 65) + r1)) ∧ Q (σ1 (σ 161 64) (w32 ((σ 161 65) + r1))) σ1))) : Tri (d + 1) M_R_sourceTable [vA 161, vI x1, vI x2, vI x3] σ Q :=
  Tri_intro rfl (Nat.le_of_ble_eq_true rfl) (ls := [vA 161, vI x1, vI x2, vI x3]) rfl (fun hok => L_aload_n dR_sourceTable_0 rfl (L_getf fw_R_536 rfl dR_sourceTable_1 ⟨ob_161, L_aload_n dR_sourceTable_4 rfl (L_getf fw_R_539 rfl dR_sourceTable_5 ⟨ob_161, L_iload_n dR_sourceTable_8 rfl (L_iload_n dR_sourceTable_9 rfl (L_iload_n dR_sourceTable_10 rfl (L_callSI rfl cs_R_cell (As := [vI x1, vI x2, vI x3]) rfl (tk8 75 rfl rfl) rfl (Nat.le_of_ble_eq_true rfl) dR_sourceTable_11 (Tri.mono ((h (hok _ (List.mem_of_getElem? (i := 1) rfl)) (hok _ (List.mem_of_getElem? (i := 2) rfl)) (hok _ (List.mem_of_getElem? (i := 3) rfl)))) (fun r1 σ1 q1 => L_iadd dR_sourceTable_14 (L_iaload dR_sourceTable_15 ⟨q1.1, L_ireturn rfl dR_sourceTable_16 q1.2⟩))))))⟩)⟩))
theorem dR_isMapSoFar_0 : decode prog_14_method_138_code 0 = .ok (.iconst 0, 1) := by decide +kernel
theorem dR_isMapSoFar_1 : decode prog_14_method_138_code 1 = .ok (.istore_n 2, 1) := by decide +kernel
theorem dR_isMapSoFar_2 : decode prog_14_method_138_code 2 = .ok (.iload_n 2, 1) := by decide +kernel
theorem dR_isMapSoFar_3 : decode prog_14_method_138_code 3 = .ok (.iload_n 1, 1) := by decide +kernel
theorem dR_isMapSoFar_4 : decode prog_14_method_138_code 4 = .ok (.if_icmp .gt 181, 3) := by decide +kernel
theorem dR_isMapSoFar_7 : decode prog_14_method_138_code 7 = .ok (.iload_n 2, 1) := by decide +kernel
theorem dR_isMapSoFar_8 : decode prog_14_method_138_code 8 = .ok (.iconst 1, 1) := by decide +kernel
theorem dR_isMapSoFar_9 : decode prog_14_method_138_code 9 = .ok (.iadd, 1) := by decide +kernel
theorem dR_isMapSoFar_10 : decode prog_14_method_138_code 10 = .ok (.istore_n 3, 1) := by decide +kernel
theorem dR_isMapSoFar_11 : decode prog_14_method_138_code 11 = .ok (.iload_n 3, 1) := by decide +kernel
theorem dR_isMapSoFar_12 : decode prog_14_method_138_code 12 = .ok (.iload_n 1, 1) := by decide +kernel
theorem dR_isMapSoFar_13 : decode prog_14_method_138_code 13 = .ok (.if_icmp .gt 166, 3) := by decide +kernel
theorem dR_isMapSoFar_16 : decode prog_14_method_138_code 16 = .ok (.iconst 1, 1) := by decide +kernel
theorem dR_isMapSoFar_17 : decode prog_14_method_138_code 17 = .ok (.istore 4, 2) := by decide +kernel
theorem dR_isMapSoFar_19 : decode prog_14_method_138_code 19 = .ok (.iload_n 1, 1) := by decide +kernel
theorem dR_isMapSoFar_20 : decode prog_14_method_138_code 20 = .ok (.iconst 1, 1) := by decide +kernel
theorem dR_isMapSoFar_21 : decode prog_14_method_138_code 21 = .ok (.iadd, 1) := by decide +kernel
theorem dR_isMapSoFar_22 : decode prog_14_method_138_code 22 = .ok (.istore 5, 2) := by decide +kernel
theorem dR_isMapSoFar_24 : decode prog_14_method_138_code 24 = .ok (.iload 5, 2) := by decide +kernel
theorem dR_isMapSoFar_26 : decode prog_14_method_138_code 26 = .ok (.aload_n 0, 1) := by decide +kernel
theorem dR_isMapSoFar_27 : decode prog_14_method_138_code 27 = .ok (.getfield 253, 3) := by decide +kernel
theorem dR_isMapSoFar_30 : decode prog_14_method_138_code 30 = .ok (.if_icmp .ge 32, 3) := by decide +kernel
theorem dR_isMapSoFar_33 : decode prog_14_method_138_code 33 = .ok (.iload 4, 2) := by decide +kernel
theorem dR_isMapSoFar_35 : decode prog_14_method_138_code 35 = .ok (.ifCond .eq 18, 3) := by decide +kernel
theorem dR_isMapSoFar_38 : decode prog_14_method_138_code 38 = .ok (.aload_n 0, 1) := by decide +kernel
theorem dR_isMapSoFar_39 : decode prog_14_method_138_code 39 = .ok (.iload_n 2, 1) := by decide +kernel
theorem dR_isMapSoFar_40 : decode prog_14_method_138_code 40 = .ok (.iload_n 3, 1) := by decide +kernel
theorem dR_isMapSoFar_41 : decode prog_14_method_138_code 41 = .ok (.iload 5, 2) := by decide +kernel
theorem dR_isMapSoFar_43 : decode prog_14_method_138_code 43 = .ok (.invokevirtual 542, 3) := by decide +kernel
theorem dR_isMapSoFar_46 : decode prog_14_method_138_code 46 = .ok (.ifCond .ne 7, 3) := by decide +kernel
theorem dR_isMapSoFar_49 : decode prog_14_method_138_code 49 = .ok (.iconst 1, 1) := by decide +kernel
theorem dR_isMapSoFar_50 : decode prog_14_method_138_code 50 = .ok (.goto 4, 3) := by decide +kernel
theorem dR_isMapSoFar_53 : decode prog_14_method_138_code 53 = .ok (.iconst 0, 1) := by decide +kernel
theorem dR_isMapSoFar_54 : decode prog_14_method_138_code 54 = .ok (.istore 4, 2) := by decide +kernel
theorem dR_isMapSoFar_56 : decode prog_14_method_138_code 56 = .ok (.iinc 5 1, 3) := by decide +kernel
theorem dR_isMapSoFar_59 : decode prog_14_method_138_code 59 = .ok (.goto (-35), 3) := by decide +kernel
theorem dR_isMapSoFar_62 : decode prog_14_method_138_code 62 = .ok (.iload 4, 2) := by decide +kernel
theorem dR_isMapSoFar_64 : decode prog_14_method_138_code 64 = .ok (.ifCond .ne 6, 3) := by decide +kernel
theorem dR_isMapSoFar_67 : decode prog_14_method_138_code 67 = .ok (.goto 106, 3) := by decide +kernel
theorem dR_isMapSoFar_70 : decode prog_14_method_138_code 70 = .ok (.aload_n 0, 1) := by decide +kernel
theorem dR_isMapSoFar_71 : decode prog_14_method_138_code 71 = .ok (.aload_n 0, 1) := by decide +kernel
theorem dR_isMapSoFar_72 : decode prog_14_method_138_code 72 = .ok (.getfield 80, 3) := by decide +kernel
theorem dR_isMapSoFar_75 : decode prog_14_method_138_code 75 = .ok (.iconst 5, 1) := by decide +kernel
theorem dR_isMapSoFar_76 : decode prog_14_method_138_code 76 = .ok (.iload_n 2, 1) := by decide +kernel
theorem dR_isMapSoFar_77 : decode prog_14_method_138_code 77 = .ok (.imul, 1) := by decide +kernel
theorem dR_isMapSoFar_78 : decode prog_14_method_138_code 78 = .ok (.aload_n 0, 1) := by decide +kernel
theorem dR_isMapSoFar_79 : decode prog_14_method_138_code 79 = .ok (.getfield 80, 3) := by decide +kernel
theorem dR_isMapSoFar_82 : decode prog_14_method_138_code 82 = .ok (.iconst 5, 1) := by decide +kernel
theorem dR_isMapSoFar_83 : decode prog_14_method_138_code 83 = .ok (.iload_n 3, 1) := by decide +kernel
theorem dR_isMapSoFar_84 : decode prog_14_method_138_code 84 = .ok (.imul, 1) := by decide +kernel
theorem dR_isMapSoFar_85 : decode prog_14_method_138_code 85 = .ok (.aload_n 0, 1) := by decide +kernel
theorem dR_isMapSoFar_86 : decode prog_14_method_138_code 86 = .ok (.getfield 71, 3) := by decide +kernel
theorem dR_isMapSoFar_89 : decode prog_14_method_138_code 89 = .ok (.invokevirtual 340, 3) := by decide +kernel
theorem dR_isMapSoFar_92 : decode prog_14_method_138_code 92 = .ok (.iconst 0, 1) := by decide +kernel
theorem dR_isMapSoFar_93 : decode prog_14_method_138_code 93 = .ok (.istore 5, 2) := by decide +kernel
theorem dR_isMapSoFar_95 : decode prog_14_method_138_code 95 = .ok (.iload 5, 2) := by decide +kernel
theorem dR_isMapSoFar_97 : decode prog_14_method_138_code 97 = .ok (.aload_n 0, 1) := by decide +kernel
theorem dR_isMapSoFar_98 : decode prog_14_method_138_code 98 = .ok (.getfield 253, 3) := by decide +kernel
theorem dR_isMapSoFar_101 : decode prog_14_method_138_code 101 = .ok (.if_icmp .ge 72, 3) := by decide +kernel
theorem dR_isMapSoFar_104 : decode prog_14_method_138_code 104 = .ok (.iconst 0, 1) := by decide +kernel
theorem dR_isMapSoFar_105 : decode prog_14_method_138_code 105 = .ok (.istore 6, 2) := by decide +kernel
theorem dR_isMapSoFar_107 : decode prog_14_method_138_code 107 = .ok (.iconst 0, 1) := by decide +kernel
theorem dR_isMapSoFar_108 : decode prog_14_method_138_code 108 = .ok (.istore 7, 2) := by decide +kernel
theorem dR_isMapSoFar_110 : decode prog_14_method_138_code 110 = .ok (.iload 7, 2) := by decide +kernel
theorem dR_isMapSoFar_112 : decode prog_14_method_138_code 112 = .ok (.iload_n 1, 1) := by decide +kernel
theorem dR_isMapSoFar_113 : decode prog_14_method_138_code 113 = .ok (.if_icmp .gt 35, 3) := by decide +kernel
theorem dR_isMapSoFar_116 : decode prog_14_method_138_code 116 = .ok (.iload 6, 2) := by decide +kernel
theorem dR_isMapSoFar_118 : decode prog_14_method_138_code 118 = .ok (.aload_n 0, 1) := by decide +kernel
theorem dR_isMapSoFar_119 : decode prog_14_method_138_code 119 = .ok (.iload_n 2, 1) := by decide +kernel
theorem dR_isMapSoFar_120 : decode prog_14_method_138_code 120 = .ok (.iload_n 3, 1) := by decide +kernel
theorem dR_isMapSoFar_121 : decode prog_14_method_138_code 121 = .ok (.iload 7, 2) := by decide +kernel
theorem dR_isMapSoFar_123 : decode prog_14_method_138_code 123 = .ok (.invokevirtual 542, 3) := by decide +kernel
theorem dR_isMapSoFar_126 : decode prog_14_method_138_code 126 = .ok (.aload_n 0, 1) := by decide +kernel
theorem dR_isMapSoFar_127 : decode prog_14_method_138_code 127 = .ok (.getfield 80, 3) := by decide +kernel
theorem dR_isMapSoFar_130 : decode prog_14_method_138_code 130 = .ok (.iconst 5, 1) := by decide +kernel
theorem dR_isMapSoFar_131 : decode prog_14_method_138_code 131 = .ok (.iload 7, 2) := by decide +kernel
theorem dR_isMapSoFar_133 : decode prog_14_method_138_code 133 = .ok (.imul, 1) := by decide +kernel
theorem dR_isMapSoFar_134 : decode prog_14_method_138_code 134 = .ok (.iload 5, 2) := by decide +kernel
theorem dR_isMapSoFar_136 : decode prog_14_method_138_code 136 = .ok (.iadd, 1) := by decide +kernel
theorem dR_isMapSoFar_137 : decode prog_14_method_138_code 137 = .ok (.iaload, 1) := by decide +kernel
theorem dR_isMapSoFar_138 : decode prog_14_method_138_code 138 = .ok (.imul, 1) := by decide +kernel
theorem dR_isMapSoFar_139 : decode prog_14_method_138_code 139 = .ok (.iadd, 1) := by decide +kernel
theorem dR_isMapSoFar_140 : decode prog_14_method_138_code 140 = .ok (.istore 6, 2) := by decide +kernel
theorem dR_isMapSoFar_142 : decode prog_14_method_138_code 142 = .ok (.iinc 7 1, 3) := by decide +kernel
theorem dR_isMapSoFar_145 : decode prog_14_method_138_code 145 = .ok (.goto (-35), 3) := by decide +kernel
theorem dR_isMapSoFar_148 : decode prog_14_method_138_code 148 = .ok (.iload 6, 2) := by decide +kernel
theorem dR_isMapSoFar_150 : decode prog_14_method_138_code 150 = .ok (.aload_n 0, 1) := by decide +kernel
theorem dR_isMapSoFar_151 : decode prog_14_method_138_code 151 = .ok (.getfield 250, 3) := by decide +kernel
theorem dR_isMapSoFar_154 : decode prog_14_method_138_code 154 = .ok (.irem, 1) := by decide +kernel
theorem dR_isMapSoFar_155 : decode prog_14_method_138_code 155 = .ok (.aload_n 0, 1) := by decide +kernel
theorem dR_isMapSoFar_156 : decode prog_14_method_138_code 156 = .ok (.getfield 71, 3) := by decide +kernel
theorem dR_isMapSoFar_159 : decode prog_14_method_138_code 159 = .ok (.iload 5, 2) := by decide +kernel
theorem dR_isMapSoFar_161 : decode prog_14_method_138_code 161 = .ok (.iaload, 1) := by decide +kernel
theorem dR_isMapSoFar_162 : decode prog_14_method_138_code 162 = .ok (.if_icmp .eq 5, 3) := by decide +kernel
theorem dR_isMapSoFar_165 : decode prog_14_method_138_code 165 = .ok (.iconst 0, 1) := by decide +kernel
theorem dR_isMapSoFar_166 : decode prog_14_method_138_code 166 = .ok (.ireturn, 1) := by decide +kernel
theorem dR_isMapSoFar_167 : decode prog_14_method_138_code 167 = .ok (.iinc 5 1, 3) := by decide +kernel
theorem dR_isMapSoFar_170 : decode prog_14_method_138_code 170 = .ok (.goto (-75), 3) := by decide +kernel
theorem dR_isMapSoFar_173 : decode prog_14_method_138_code 173 = .ok (.iinc 3 1, 3) := by decide +kernel
theorem dR_isMapSoFar_176 : decode prog_14_method_138_code 176 = .ok (.goto (-165), 3) := by decide +kernel
theorem dR_isMapSoFar_179 : decode prog_14_method_138_code 179 = .ok (.iinc 2 1, 3) := by decide +kernel
theorem dR_isMapSoFar_182 : decode prog_14_method_138_code 182 = .ok (.goto (-180), 3) := by decide +kernel
theorem dR_isMapSoFar_185 : decode prog_14_method_138_code 185 = .ok (.iconst 1, 1) := by decide +kernel
theorem dR_isMapSoFar_186 : decode prog_14_method_138_code 186 = .ok (.ireturn, 1) := by decide +kernel
theorem t_R_isMapSoFar {d : Nat} {x1 : Int} {σ : SG} {Q : Int → SG → Prop} (h : inI x1 → (L (d + 1) M_R_isMapSoFar 2 [vA 161, vI x1, vI 0, vU, vU, vU, vU, vU] [] σ Q)) : Tri (d + 1) M_R_isMapSoFar [vA 161, vI x1] σ Q :=
  Tri_intro rfl (Nat.le_of_ble_eq_true rfl) (ls := [vA 161, vI x1, vU, vU, vU, vU, vU, vU]) rfl (fun hok => L_iconst dR_isMapSoFar_0 in_0 (L_istore_n dR_isMapSoFar_1 (by decide) ((h (hok _ (List.mem_of_getElem? (i := 1) rfl))))))
theorem s_R_isMapSoFar_2 {d : Nat} {x1 x2 : Int} {σ : SG} {Q : Int → SG → Prop} (h : (x1 < x2 → Q 1 σ) ∧ (x2 ≤ x1 → L (d + 1) M_R_isMapSoFar 11 [vA 161, vI x1, vI x2, vI (w32 (x2 + 1)), vU, vU, vU, vU] [] σ Q)) : L (d + 1) M_R_isMapSoFar 2 [vA 161, vI x1, vI x2, vU, vU, vU, vU, vU] [] σ Q :=
  L_iload_n dR_isMapSoFar_2 rfl (L_iload_n dR_isMapSoFar_3 rfl (L_icmp_gt dR_isMapSoFar_4 (by decide) ⟨fun c1 => L_iconst dR_isMapSoFar_185 in_1 (L_zreturn1 rfl dR_isMapSoFar_186 (h.1 c1)), fun c1 => L_iload_n dR_isMapSoFar_7 rfl (L_iconst dR_isMapSoFar_8 in_1 (L_iadd dR_isMapSoFar_9 (L_istore_n dR_isMapSoFar_10 (by decide) (h.2 c1))))⟩))
theorem s_R_isMapSoFar_11 {d : Nat} {x1 x2 x3 : Int} {σ : SG} {Q : Int → SG → Prop} (h : (x1 < x3 → L (d + 1) M_R_isMapSoFar 2 [vA 161, vI x1, vI (w32 (x2 + 1)), vU, vU, vU, vU, vU] [] σ Q) ∧ (x3 ≤ x1 → L (d + 1) M_R_isMapSoFar 24 [vA 161, vI x1, vI x2, vI x3, vI 1, vI (w32 (x1 + 1)), vU, vU] [] σ Q)) : L (d + 1) M_R_isMapSoFar 11 [vA 161, vI x1, vI x2, vI x3, vU, vU, vU, vU] [] σ Q :=
  L_iload_n dR_isMapSoFar_11 rfl (L_iload_n dR_isMapSoFar_12 rfl (L_icmp_gt dR_isMapSoFar_13 (by decide) ⟨fun c1 => L_iinc dR_isMapSoFar_179 rfl (by decide) (L_goto dR_isMapSoFar_182 (by decide) (L_weak [true, true, true, false, true, true, true, true] (h.1 c1))), fun c1 => L_iconst dR_isMapSoFar_16 in_1 (L_istore dR_isMapSoFar_17 (by decide) (L_iload_n dR_isMapSoFar_19 rfl (L_iconst dR_isMapSoFar_20 in_1 (L_iadd dR_isMapSoFar_21 (L_istore dR_isMapSoFar_22 (by decide) (h.2 c1))))))⟩))
theorem s_R_isMapSoFar_24 {d : Nat} {x1 x2 x3 x4 x5 : Int} {σ : SG} {Q : Int → SG → Prop} (h : (σ 161 27 ≤ x5 → (x4 ≠ 0 → Tri d M_R_bracketOf [vA 161, vA 181, vI (w32 (5 * x2)), vA 181, vI (w32 (5 * x3)), vA 178] σ (fun r3 σ3 => L (d + 1) M_R_isMapSoFar 95 [vA 161, vI x1, vI x2, vI x3, vU, vI 0, vU, vU] [] σ3 Q)) ∧ (x4 = 0 → L (d + 1) M_R_isMapSoFar 11 [vA 161, vI x1, vI x2, vI (w32 (x3 + 1)), vU, vU, vU, vU] [] σ Q)) ∧ (x5 < σ 161 27 → (x4 = 0 → L (d + 1) M_R_isMapSoFar 24 [vA 161, vI x1, vI x2, vI x3, vI 0, vI (w32 (x5 + 1)), vU, vU] [] σ Q) ∧ (x4 ≠ 0 → Tri d M_R_sourceTable [vA 161, vI x2, vI x3, vI x5] σ (fun r5 σ5 => (r5 ≠ 0 → L (d + 1) M_R_isMapSoFar 24 [vA 161, vI x1, vI x2, vI x3, vI 0, vI (w32 (x5 + 1)), vU, vU] [] σ5 Q) ∧ (r5 = 0 → L (d + 1) M_R_isMapSoFar 24 [vA 161, vI x1, vI x2, vI x3, vI 1, vI (w32 (x5 + 1)), vU, vU] [] σ5 Q))))) : L (d + 1) M_R_isMapSoFar 24 [vA 161, vI x1, vI x2, vI x3, vI x4, vI x5, vU, vU] [] σ Q :=
  L_iload dR_isMapSoFar_24 rfl (L_aload_n dR_isMapSoFar_26 rfl (L_getf fw_R_253 rfl dR_isMapSoFar_27 ⟨ob_161, L_icmp_ge dR_isMapSoFar_30 (by decide) ⟨fun c1 => L_iload dR_isMapSoFar_62 rfl (L_if_ne dR_isMapSoFar_64 (by decide) ⟨fun c2 => L_aload_n dR_isMapSoFar_70 rfl (L_aload_n dR_isMapSoFar_71 rfl (L_getF (b := 181) fw_R_80 rfl rfl (by decide) dR_isMapSoFar_72 ⟨ob_161, L_iconst dR_isMapSoFar_75 in_5 (L_iload_n dR_isMapSoFar_76 rfl (L_imul dR_isMapSoFar_77 (L_aload_n dR_isMapSoFar_78 rfl (L_getF (b := 181) fw_R_80 rfl rfl (by decide) dR_isMapSoFar_79 ⟨ob_161, L_iconst dR_isMapSoFar_82 in_5 (L_iload_n dR_isMapSoFar_83 rfl (L_imul dR_isMapSoFar_84 (L_aload_n dR_isMapSoFar_85 rfl (L_getF (b := 178) fw_R_71 rfl rfl (by decide) dR_isMapSoFar_86 ⟨ob_161, L_callVV rfl cv_R_bracketOf (As := [vA 181, vI (w32 (5 * x2)), vA 181, vI (w32 (5 * x3)), vA 178]) rfl (tk8 157 rfl rfl) rfl (Nat.le_of_ble_eq_true rfl) dR_isMapSoFar_89 ⟨ob_161, Tri.mono ((h.1 c1).1 c2) (fun r3 σ3 q3 => L_iconst dR_isMapSoFar_92 in_0 (L_istore dR_isMapSoFar_93 (by decide) (L_weak [true, true, true, true, false, true, true, true] q3)))⟩⟩))))⟩))))⟩)), fun c2 => L_goto dR_isMapSoFar_67 (by decide) (L_iinc dR_isMapSoFar_173 rfl (by decide) (L_goto dR_isMapSoFar_176 (by decide) (L_weak [true, true, true, true, false, false, true, true] ((h.1 c1).2 c2))))⟩), fun c1 => L_iload dR_isMapSoFar_33 rfl (L_if_eq dR_isMapSoFar_35 (by decide) ⟨fun c4 => L_iconst dR_isMapSoFar_53 in_0 (L_istore dR_isMapSoFar_54 (by decide) (L_iinc dR_isMapSoFar_56 rfl (by decide) (L_goto dR_isMapSoFar_59 (by decide) ((h.2 c1).1 c4)))), fun c4 => L_aload_n dR_isMapSoFar_38 rfl (L_iload_n dR_isMapSoFar_39 rfl (L_iload_n dR_isMapSoFar_40 rfl (L_iload dR_isMapSoFar_41 rfl (L_callVI rfl cv_R_sourceTable (As := [vI x2, vI x3, vI x5]) rfl (tk9 223 rfl rfl) rfl (Nat.le_of_ble_eq_true rfl) dR_isMapSoFar_43 ⟨ob_161, Tri.mono ((h.2 c1).2 c4) (fun r5 σ5 q5 => L_if_ne dR_isMapSoFar_46 (by decide) ⟨fun c6 => L_iconst dR_isMapSoFar_53 in_0 (L_istore dR_isMapSoFar_54 (by decide) (L_iinc dR_isMapSoFar_56 rfl (by decide) (L_goto dR_isMapSoFar_59 (by decide) (q5.1 c6)))), fun c6 => L_iconst dR_isMapSoFar_49 in_1 (L_goto dR_isMapSoFar_50 (by decide) (L_istore dR_isMapSoFar_54 (by decide) (L_iinc dR_isMapSoFar_56 rfl (by decide) (L_goto dR_isMapSoFar_59 (by decide) (q5.2 c6)))))⟩)⟩))))⟩)⟩⟩))
theorem s_R_isMapSoFar_95 {d : Nat} {x1 x2 x3 x5 : Int} {σ : SG} {Q : Int → SG → Prop} (h : (σ 161 27 ≤ x5 → L (d + 1) M_R_isMapSoFar 11 [vA 161, vI x1, vI x2, vI (w32 (x3 + 1)), vU, vU, vU, vU] [] σ Q) ∧ (x5 < σ 161 27 → L (d + 1) M_R_isMapSoFar 110 [vA 161, vI x1, vI x2, vI x3, vU, vI x5, vI 0, vI 0] [] σ Q)) : L (d + 1) M_R_isMapSoFar 95 [vA 161, vI x1, vI x2, vI x3, vU, vI x5, vU, vU] [] σ Q :=
  L_iload dR_isMapSoFar_95 rfl (L_aload_n dR_isMapSoFar_97 rfl (L_getf fw_R_253 rfl dR_isMapSoFar_98 ⟨ob_161, L_icmp_ge dR_isMapSoFar_101 (by decide) ⟨fun c1 => L_iinc dR_isMapSoFar_173 rfl (by decide) (L_goto dR_isMapSoFar_176 (by decide) (L_weak [true, true, true, true, true, false, true, true] (h.1 c1))), fun c1 => L_iconst dR_isMapSoFar_104 in_0 (L_istore dR_isMapSoFar_105 (by decide) (L_iconst dR_isMapSoFar_107 in_0 (L_istore dR_isMapSoFar_108 (by decide) (h.2 c1))))⟩⟩))
theorem s_R_isMapSoFar_110 {d : Nat} {x1 x2 x3 x5 x6 x7 : Int} {σ : SG} {Q : Int → SG → Prop} (h : (x1 < x7 → σ 161 26 ≠ 0 ∧ (0 ≤ x5 ∧ x5 < 5) ∧ (x6.tmod (σ 161 26) = σ 178 x5 → L (d + 1) M_R_isMapSoFar 95 [vA 161, vI x1, vI x2, vI x3, vU, vI (w32 (x5 + 1)), vU, vU] [] σ Q) ∧ (x6.tmod (σ 161 26) ≠ σ 178 x5 → Q 0 σ)) ∧ (x7 ≤ x1 → Tri d M_R_sourceTable [vA 161, vI x2, vI x3, vI x7] σ (fun r3 σ3 => (0 ≤ w32 ((w32 (5 * x7)) + x5) ∧ w32 ((w32 (5 * x7)) + x5) < 25) ∧ L (d + 1) M_R_isMapSoFar 110 [vA 161, vI x1, vI x2, vI x3, vU, vI x5, vI (w32 (x6 + (w32 (r3 * (σ3 181 (w32 ((w32 (5 * x7)) + x5))))))), vI (w32 (x7 + 1))] [] σ3 Q))) : L (d + 1) M_R_isMapSoFar 110 [vA 161, vI x1, vI x2, vI x3, vU, vI x5, vI x6, vI x7] [] σ Q :=
  L_iload dR_isMapSoFar_110 rfl (L_iload_n dR_isMapSoFar_112 rfl (L_icmp_gt dR_isMapSoFar_113 (by decide) ⟨fun c1 => L_iload dR_isMapSoFar_148 rfl (L_aload_n dR_isMapSoFar_150 rfl (L_getf fw_R_250 rfl dR_isMapSoFar_151 ⟨ob_161, L_irem dR_isMapSoFar_154 ⟨(h.1 c1).1, L_aload_n dR_isMapSoFar_155 rfl (L_getF (b := 178) fw_R_71 rfl rfl (by decide) dR_isMapSoFar_156 ⟨ob_161, L_iload dR_isMapSoFar_159 rfl (L_ialoadL kd_178 dR_isMapSoFar_161 ⟨(h.1 c1).2.1, L_icmp_eq dR_isMapSoFar_162 (by decide) ⟨fun c2 => L_iinc dR_isMapSoFar_167 rfl (by decide) (L_goto dR_isMapSoFar_170 (by decide) (L_weak [true, true, true, true, true, true, false, false] ((h.1 c1).2.2.1 c2))), fun c2 => L_iconst dR_isMapSoFar_165 in_0 (L_zreturn0 rfl dR_isMapSoFar_166 ((h.1 c1).2.2.2 c2))⟩⟩)⟩)⟩⟩)), fun c1 => L_iload dR_isMapSoFar_116 rfl (L_aload_n dR_isMapSoFar_118 rfl (L_iload_n dR_isMapSoFar_119 rfl (L_iload_n dR_isMapSoFar_120 rfl (L_iload dR_isMapSoFar_121 rfl (L_callVI rfl cv_R_sourceTable (As := [vI x2, vI x3, vI x7]) rfl (tk9 223 rfl rfl) rfl (Nat.le_of_ble_eq_true rfl) dR_isMapSoFar_123 ⟨ob_161, Tri.mono (h.2 c1) (fun r3 σ3 q3 => L_aload_n dR_isMapSoFar_126 rfl (L_getF (b := 181) fw_R_80 rfl rfl (by decide) dR_isMapSoFar_127 ⟨ob_161, L_iconst dR_isMapSoFar_130 in_5 (L_iload dR_isMapSoFar_131 rfl (L_imul dR_isMapSoFar_133 (L_iload dR_isMapSoFar_134 rfl (L_iadd dR_isMapSoFar_136 (L_ialoadL kd_181 dR_isMapSoFar_137 ⟨q3.1, L_imul dR_isMapSoFar_138 (L_iadd dR_isMapSoFar_139 (L_istore dR_isMapSoFar_140 (by decide) (L_iinc dR_isMapSoFar_142 rfl (by decide) (L_goto dR_isMapSoFar_145 (by decide) q3.2))))⟩)))))⟩))⟩)))))⟩))
theorem dR_goMaps_0 : decode prog_14_method_139_code 0 = .ok (.iload_n 1, 1) := by decide +kernel
theorem dR_goMaps_1 : decode prog_14_method_139_code 1 = .ok (.aload_n 0, 1) := by decide +kernel
theorem dR_goMaps_2 : decode prog_14_method_139_code 2 = .ok (.getfield 253, 3) := by decide +kernel
theorem dR_goMaps_5 : decode prog_14_method_139_code 5 = .ok (.if_icmp .ne 14, 3) := by decide +kernel
theorem dR_goMaps_8 : decode prog_14_method_139_code 8 = .ok (.aload_n 0, 1) := by decide +kernel
theorem dR_goMaps_9 : decode prog_14_method_139_code 9 = .ok (.dup, 1) := by decide +kernel
theorem dR_goMaps_10 : decode prog_14_method_139_code 10 = .ok (.getfield 545, 3) := by decide +kernel
theorem dR_goMaps_13 : decode prog_14_method_139_code 13 = .ok (.iconst 1, 1) := by decide +kernel
theorem dR_goMaps_14 : decode prog_14_method_139_code 14 = .ok (.iadd, 1) := by decide +kernel
theorem dR_goMaps_15 : decode prog_14_method_139_code 15 = .ok (.putfield 545, 3) := by decide +kernel
theorem dR_goMaps_18 : decode prog_14_method_139_code 18 = .ok (.return_, 1) := by decide +kernel
theorem dR_goMaps_19 : decode prog_14_method_139_code 19 = .ok (.iconst 1, 1) := by decide +kernel
theorem dR_goMaps_20 : decode prog_14_method_139_code 20 = .ok (.istore_n 2, 1) := by decide +kernel
theorem dR_goMaps_21 : decode prog_14_method_139_code 21 = .ok (.iload_n 2, 1) := by decide +kernel
theorem dR_goMaps_22 : decode prog_14_method_139_code 22 = .ok (.aload_n 0, 1) := by decide +kernel
theorem dR_goMaps_23 : decode prog_14_method_139_code 23 = .ok (.invokevirtual 323, 3) := by decide +kernel
theorem dR_goMaps_26 : decode prog_14_method_139_code 26 = .ok (.if_icmp .ge 207, 3) := by decide +kernel
theorem dR_goMaps_29 : decode prog_14_method_139_code 29 = .ok (.aload_n 0, 1) := by decide +kernel
theorem dR_goMaps_30 : decode prog_14_method_139_code 30 = .ok (.getfield 548, 3) := by decide +kernel
theorem dR_goMaps_33 : decode prog_14_method_139_code 33 = .ok (.ifCond .ne 17, 3) := by decide +kernel
theorem dR_goMaps_36 : decode prog_14_method_139_code 36 = .ok (.aload_n 0, 1) := by decide +kernel
theorem dR_goMaps_37 : decode prog_14_method_139_code 37 = .ok (.getfield 552, 3) := by decide +kernel
theorem dR_goMaps_40 : decode prog_14_method_139_code 40 = .ok (.ifCond .eq 11, 3) := by decide +kernel
theorem dR_goMaps_43 : decode prog_14_method_139_code 43 = .ok (.aload_n 0, 1) := by decide +kernel
theorem dR_goMaps_44 : decode prog_14_method_139_code 44 = .ok (.getfield 545, 3) := by decide +kernel
theorem dR_goMaps_47 : decode prog_14_method_139_code 47 = .ok (.ifCond .le 4, 3) := by decide +kernel
theorem dR_goMaps_50 : decode prog_14_method_139_code 50 = .ok (.return_, 1) := by decide +kernel
theorem dR_goMaps_51 : decode prog_14_method_139_code 51 = .ok (.aload_n 0, 1) := by decide +kernel
theorem dR_goMaps_52 : decode prog_14_method_139_code 52 = .ok (.getfield 555, 3) := by decide +kernel
theorem dR_goMaps_55 : decode prog_14_method_139_code 55 = .ok (.ldc_w 558, 3) := by decide +kernel
theorem dR_goMaps_58 : decode prog_14_method_139_code 58 = .ok (.if_icmp .ne 9, 3) := by decide +kernel
theorem dR_goMaps_61 : decode prog_14_method_139_code 61 = .ok (.aload_n 0, 1) := by decide +kernel
theorem dR_goMaps_62 : decode prog_14_method_139_code 62 = .ok (.iconst 1, 1) := by decide +kernel
theorem dR_goMaps_63 : decode prog_14_method_139_code 63 = .ok (.putfield 548, 3) := by decide +kernel
theorem dR_goMaps_66 : decode prog_14_method_139_code 66 = .ok (.return_, 1) := by decide +kernel
theorem dR_goMaps_67 : decode prog_14_method_139_code 67 = .ok (.aload_n 0, 1) := by decide +kernel
theorem dR_goMaps_68 : decode prog_14_method_139_code 68 = .ok (.dup, 1) := by decide +kernel
theorem dR_goMaps_69 : decode prog_14_method_139_code 69 = .ok (.getfield 555, 3) := by decide +kernel
theorem dR_goMaps_72 : decode prog_14_method_139_code 72 = .ok (.iconst 1, 1) := by decide +kernel
theorem dR_goMaps_73 : decode prog_14_method_139_code 73 = .ok (.iadd, 1) := by decide +kernel
theorem dR_goMaps_74 : decode prog_14_method_139_code 74 = .ok (.putfield 555, 3) := by decide +kernel
theorem dR_goMaps_77 : decode prog_14_method_139_code 77 = .ok (.aload_n 0, 1) := by decide +kernel
theorem dR_goMaps_78 : decode prog_14_method_139_code 78 = .ok (.iload_n 2, 1) := by decide +kernel
theorem dR_goMaps_79 : decode prog_14_method_139_code 79 = .ok (.aload_n 0, 1) := by decide +kernel
theorem dR_goMaps_80 : decode prog_14_method_139_code 80 = .ok (.getfield 80, 3) := by decide +kernel
theorem dR_goMaps_83 : decode prog_14_method_139_code 83 = .ok (.iconst 5, 1) := by decide +kernel
theorem dR_goMaps_84 : decode prog_14_method_139_code 84 = .ok (.iload_n 1, 1) := by decide +kernel
theorem dR_goMaps_85 : decode prog_14_method_139_code 85 = .ok (.imul, 1) := by decide +kernel
theorem dR_goMaps_86 : decode prog_14_method_139_code 86 = .ok (.invokevirtual 360, 3) := by decide +kernel
theorem dR_goMaps_89 : decode prog_14_method_139_code 89 = .ok (.iconst 0, 1) := by decide +kernel
theorem dR_goMaps_90 : decode prog_14_method_139_code 90 = .ok (.istore_n 3, 1) := by decide +kernel
theorem dR_goMaps_91 : decode prog_14_method_139_code 91 = .ok (.iload_n 3, 1) := by decide +kernel
theorem dR_goMaps_92 : decode prog_14_method_139_code 92 = .ok (.bipush 25, 2) := by decide +kernel
theorem dR_goMaps_94 : decode prog_14_method_139_code 94 = .ok (.if_icmp .ge 26, 3) := by decide +kernel
theorem dR_goMaps_97 : decode prog_14_method_139_code 97 = .ok (.aload_n 0, 1) := by decide +kernel
theorem dR_goMaps_98 : decode prog_14_method_139_code 98 = .ok (.getfield 50, 3) := by decide +kernel
theorem dR_goMaps_101 : decode prog_14_method_139_code 101 = .ok (.iload_n 3, 1) := by decide +kernel
theorem dR_goMaps_102 : decode prog_14_method_139_code 102 = .ok (.aload_n 0, 1) := by decide +kernel
theorem dR_goMaps_103 : decode prog_14_method_139_code 103 = .ok (.getfield 83, 3) := by decide +kernel
theorem dR_goMaps_106 : decode prog_14_method_139_code 106 = .ok (.bipush 25, 2) := by decide +kernel
theorem dR_goMaps_108 : decode prog_14_method_139_code 108 = .ok (.iload_n 1, 1) := by decide +kernel
theorem dR_goMaps_109 : decode prog_14_method_139_code 109 = .ok (.imul, 1) := by decide +kernel
theorem dR_goMaps_110 : decode prog_14_method_139_code 110 = .ok (.iload_n 3, 1) := by decide +kernel
theorem dR_goMaps_111 : decode prog_14_method_139_code 111 = .ok (.iadd, 1) := by decide +kernel
theorem dR_goMaps_112 : decode prog_14_method_139_code 112 = .ok (.iaload, 1) := by decide +kernel
theorem dR_goMaps_113 : decode prog_14_method_139_code 113 = .ok (.iastore, 1) := by decide +kernel
theorem dR_goMaps_114 : decode prog_14_method_139_code 114 = .ok (.iinc 3 1, 3) := by decide +kernel
theorem dR_goMaps_117 : decode prog_14_method_139_code 117 = .ok (.goto (-26), 3) := by decide +kernel
theorem dR_goMaps_120 : decode prog_14_method_139_code 120 = .ok (.aload_n 0, 1) := by decide +kernel
theorem dR_goMaps_121 : decode prog_14_method_139_code 121 = .ok (.aload_n 0, 1) := by decide +kernel
theorem dR_goMaps_122 : decode prog_14_method_139_code 122 = .ok (.getfield 50, 3) := by decide +kernel
theorem dR_goMaps_125 : decode prog_14_method_139_code 125 = .ok (.aload_n 0, 1) := by decide +kernel
theorem dR_goMaps_126 : decode prog_14_method_139_code 126 = .ok (.getfield 86, 3) := by decide +kernel
theorem dR_goMaps_129 : decode prog_14_method_139_code 129 = .ok (.iload_n 1, 1) := by decide +kernel
theorem dR_goMaps_130 : decode prog_14_method_139_code 130 = .ok (.iaload, 1) := by decide +kernel
theorem dR_goMaps_131 : decode prog_14_method_139_code 131 = .ok (.aload_n 0, 1) := by decide +kernel
theorem dR_goMaps_132 : decode prog_14_method_139_code 132 = .ok (.getfield 80, 3) := by decide +kernel
theorem dR_goMaps_135 : decode prog_14_method_139_code 135 = .ok (.iconst 5, 1) := by decide +kernel
theorem dR_goMaps_136 : decode prog_14_method_139_code 136 = .ok (.iload_n 1, 1) := by decide +kernel
theorem dR_goMaps_137 : decode prog_14_method_139_code 137 = .ok (.imul, 1) := by decide +kernel
theorem dR_goMaps_138 : decode prog_14_method_139_code 138 = .ok (.invokevirtual 344, 3) := by decide +kernel
theorem dR_goMaps_141 : decode prog_14_method_139_code 141 = .ok (.istore_n 3, 1) := by decide +kernel
theorem dR_goMaps_142 : decode prog_14_method_139_code 142 = .ok (.iload_n 3, 1) := by decide +kernel
theorem dR_goMaps_143 : decode prog_14_method_139_code 143 = .ok (.aload_n 0, 1) := by decide +kernel
theorem dR_goMaps_144 : decode prog_14_method_139_code 144 = .ok (.getfield 86, 3) := by decide +kernel
theorem dR_goMaps_147 : decode prog_14_method_139_code 147 = .ok (.iload_n 1, 1) := by decide +kernel
theorem dR_goMaps_148 : decode prog_14_method_139_code 148 = .ok (.iaload, 1) := by decide +kernel
theorem dR_goMaps_149 : decode prog_14_method_139_code 149 = .ok (.if_icmp .eq 78, 3) := by decide +kernel
theorem dR_goMaps_152 : decode prog_14_method_139_code 152 = .ok (.aload_n 0, 1) := by decide +kernel
theorem dR_goMaps_153 : decode prog_14_method_139_code 153 = .ok (.iload_n 1, 1) := by decide +kernel
theorem dR_goMaps_154 : decode prog_14_method_139_code 154 = .ok (.invokevirtual 559, 3) := by decide +kernel
theorem dR_goMaps_157 : decode prog_14_method_139_code 157 = .ok (.ifCond .ne 6, 3) := by decide +kernel
theorem dR_goMaps_160 : decode prog_14_method_139_code 160 = .ok (.goto 67, 3) := by decide +kernel
theorem dR_goMaps_163 : decode prog_14_method_139_code 163 = .ok (.iload_n 1, 1) := by decide +kernel
theorem dR_goMaps_164 : decode prog_14_method_139_code 164 = .ok (.iconst 1, 1) := by decide +kernel
theorem dR_goMaps_165 : decode prog_14_method_139_code 165 = .ok (.iadd, 1) := by decide +kernel
theorem dR_goMaps_166 : decode prog_14_method_139_code 166 = .ok (.aload_n 0, 1) := by decide +kernel
theorem dR_goMaps_167 : decode prog_14_method_139_code 167 = .ok (.getfield 253, 3) := by decide +kernel
theorem dR_goMaps_170 : decode prog_14_method_139_code 170 = .ok (.if_icmp .ge 41, 3) := by decide +kernel
theorem dR_goMaps_173 : decode prog_14_method_139_code 173 = .ok (.iconst 0, 1) := by decide +kernel
theorem dR_goMaps_174 : decode prog_14_method_139_code 174 = .ok (.istore 4, 2) := by decide +kernel
theorem dR_goMaps_176 : decode prog_14_method_139_code 176 = .ok (.iload 4, 2) := by decide +kernel
theorem dR_goMaps_178 : decode prog_14_method_139_code 178 = .ok (.bipush 25, 2) := by decide +kernel
theorem dR_goMaps_180 : decode prog_14_method_139_code 180 = .ok (.if_icmp .ge 31, 3) := by decide +kernel
theorem dR_goMaps_183 : decode prog_14_method_139_code 183 = .ok (.aload_n 0, 1) := by decide +kernel
theorem dR_goMaps_184 : decode prog_14_method_139_code 184 = .ok (.getfield 83, 3) := by decide +kernel
theorem dR_goMaps_187 : decode prog_14_method_139_code 187 = .ok (.bipush 25, 2) := by decide +kernel
theorem dR_goMaps_189 : decode prog_14_method_139_code 189 = .ok (.iload_n 1, 1) := by decide +kernel
theorem dR_goMaps_190 : decode prog_14_method_139_code 190 = .ok (.imul, 1) := by decide +kernel
theorem dR_goMaps_191 : decode prog_14_method_139_code 191 = .ok (.bipush 25, 2) := by decide +kernel
theorem dR_goMaps_193 : decode prog_14_method_139_code 193 = .ok (.iadd, 1) := by decide +kernel
theorem dR_goMaps_194 : decode prog_14_method_139_code 194 = .ok (.iload 4, 2) := by decide +kernel
theorem dR_goMaps_196 : decode prog_14_method_139_code 196 = .ok (.iadd, 1) := by decide +kernel
theorem dR_goMaps_197 : decode prog_14_method_139_code 197 = .ok (.aload_n 0, 1) := by decide +kernel
theorem dR_goMaps_198 : decode prog_14_method_139_code 198 = .ok (.getfield 50, 3) := by decide +kernel
theorem dR_goMaps_201 : decode prog_14_method_139_code 201 = .ok (.iload 4, 2) := by decide +kernel
theorem dR_goMaps_203 : decode prog_14_method_139_code 203 = .ok (.iaload, 1) := by decide +kernel
theorem dR_goMaps_204 : decode prog_14_method_139_code 204 = .ok (.iastore, 1) := by decide +kernel
theorem dR_goMaps_205 : decode prog_14_method_139_code 205 = .ok (.iinc 4 1, 3) := by decide +kernel
theorem dR_goMaps_208 : decode prog_14_method_139_code 208 = .ok (.goto (-32), 3) := by decide +kernel
theorem dR_goMaps_211 : decode prog_14_method_139_code 211 = .ok (.aload_n 0, 1) := by decide +kernel
theorem dR_goMaps_212 : decode prog_14_method_139_code 212 = .ok (.getfield 86, 3) := by decide +kernel
theorem dR_goMaps_215 : decode prog_14_method_139_code 215 = .ok (.iload_n 1, 1) := by decide +kernel
theorem dR_goMaps_216 : decode prog_14_method_139_code 216 = .ok (.iconst 1, 1) := by decide +kernel
theorem dR_goMaps_217 : decode prog_14_method_139_code 217 = .ok (.iadd, 1) := by decide +kernel
theorem dR_goMaps_218 : decode prog_14_method_139_code 218 = .ok (.iload_n 3, 1) := by decide +kernel
theorem dR_goMaps_219 : decode prog_14_method_139_code 219 = .ok (.iastore, 1) := by decide +kernel
theorem dR_goMaps_220 : decode prog_14_method_139_code 220 = .ok (.aload_n 0, 1) := by decide +kernel
theorem dR_goMaps_221 : decode prog_14_method_139_code 221 = .ok (.iload_n 1, 1) := by decide +kernel
theorem dR_goMaps_222 : decode prog_14_method_139_code 222 = .ok (.iconst 1, 1) := by decide +kernel
theorem dR_goMaps_223 : decode prog_14_method_139_code 223 = .ok (.iadd, 1) := by decide +kernel
theorem dR_goMaps_224 : decode prog_14_method_139_code 224 = .ok (.invokevirtual 562, 3) := by decide +kernel
theorem dR_goMaps_227 : decode prog_14_method_139_code 227 = .ok (.iinc 2 1, 3) := by decide +kernel
theorem dR_goMaps_230 : decode prog_14_method_139_code 230 = .ok (.goto (-209), 3) := by decide +kernel
theorem dR_goMaps_233 : decode prog_14_method_139_code 233 = .ok (.return_, 1) := by decide +kernel
theorem t_R_goMaps {d : Nat} {x1 : Int} {σ : SG} {Q : Int → SG → Prop} (h : inI x1 → ((x1 ≠ σ 161 27 → L (d + 1) M_R_goMaps 21 [vA 161, vI x1, vI 1, vU, vU] [] σ Q) ∧ (x1 = σ 161 27 → (∀ σ2, σ2 = up σ 161 45 (w32 ((σ 161 45) + 1)) → Q 0 σ2)))) : Tri (d + 1) M_R_goMaps [vA 161, vI x1] σ Q :=
  Tri_intro rfl (Nat.le_of_ble_eq_true rfl) (ls := [vA 161, vI x1, vU, vU, vU]) rfl (fun hok => L_iload_n dR_goMaps_0 rfl (L_aload_n dR_goMaps_1 rfl (L_getf fw_R_253 rfl dR_goMaps_2 ⟨ob_161, L_icmp_ne dR_goMaps_5 (by decide) ⟨fun c1 => L_iconst dR_goMaps_19 in_1 (L_istore_n dR_goMaps_20 (by decide) ((h (hok _ (List.mem_of_getElem? (i := 1) rfl))).1 c1)), fun c1 => L_aload_n dR_goMaps_8 rfl (L_dup dR_goMaps_9 n21 (L_getf fw_R_545 rfl dR_goMaps_10 ⟨ob_161, L_iconst dR_goMaps_13 in_1 (L_iadd dR_goMaps_14 (L_putfN fp_R_545 rfl rfl (fun _ => ⟨rfl, rfl⟩) dR_goMaps_15 ⟨ob_161, fun σ2 e2 => L_return rfl dR_goMaps_18 (((h (hok _ (List.mem_of_getElem? (i := 1) rfl))).2 c1) σ2 e2)⟩))⟩))⟩⟩)))
theorem s_R_goMaps_21 {d : Nat} {x1 x2 : Int} {σ : SG} {Q : Int → SG → Prop} (h : Tri d M_R_vectors [vA 161] σ (fun r1 σ1 => (r1 ≤ x2 → Q 0 σ1) ∧ (x2 < r1 → (σ1 161 46 ≠ 0 → Q 0 σ1) ∧ (σ1 161 46 = 0 → (σ1 161 47 = 0 → L (d + 1) M_R_goMaps 51 [vA 161, vI x1, vI x2, vU, vU] [] σ1 Q) ∧ (σ1 161 47 ≠ 0 → (σ1 161 45 ≤ 0 → L (d + 1) M_R_goMaps 51 [vA 161, vI x1, vI x2, vU, vU] [] σ1 Q) ∧ (0 < σ1 161 45 → Q 0 σ1)))))) : L (d + 1) M_R_goMaps 21 [vA 161, vI x1, vI x2, vU, vU] [] σ Q :=
  L_iload_n dR_goMaps_21 rfl (L_aload_n dR_goMaps_22 rfl (L_callVI rfl cv_R_vectors (As := []) rfl (tk8 145 rfl rfl) rfl (Nat.le_of_ble_eq_true rfl) dR_goMaps_23 ⟨ob_161, Tri.mono h (fun r1 σ1 q1 => L_icmp_ge dR_goMaps_26 (by decide) ⟨fun c2 => L_return rfl dR_goMaps_233 (q1.1 c2), fun c2 => L_aload_n dR_goMaps_29 rfl (L_getf fw_R_548 rfl dR_goMaps_30 ⟨ob_161, L_if_ne dR_goMaps_33 (by decide) ⟨fun c3 => L_return rfl dR_goMaps_50 ((q1.2 c2).1 c3), fun c3 => L_aload_n dR_goMaps_36 rfl (L_getf fw_R_552 rfl dR_goMaps_37 ⟨ob_161, L_if_eq dR_goMaps_40 (by decide) ⟨fun c4 => (((q1.2 c2).2 c3).1 c4), fun c4 => L_aload_n dR_goMaps_43 rfl (L_getf fw_R_545 rfl dR_goMaps_44 ⟨ob_161, L_if_le dR_goMaps_47 (by decide) ⟨fun c5 => ((((q1.2 c2).2 c3).2 c4).1 c5), fun c5 => L_return rfl dR_goMaps_50 ((((q1.2 c2).2 c3).2 c4).2 c5)⟩⟩)⟩⟩)⟩⟩)⟩)⟩))
theorem s_R_goMaps_51 {d : Nat} {x1 x2 : Int} {σ : SG} {Q : Int → SG → Prop} (h : (σ 161 43 ≠ 200000 → (∀ σ2, σ2 = up σ 161 43 (w32 ((σ 161 43) + 1)) → Tri d M_R_parts2 [vA 161, vI x2, vA 181, vI (w32 (5 * x1))] σ2 (fun r3 σ3 => L (d + 1) M_R_goMaps 91 [vA 161, vI x1, vI x2, vI 0, vU] [] σ3 Q))) ∧ (σ 161 43 = 200000 → (∀ σ4, σ4 = up σ 161 46 1 → Q 0 σ4))) : L (d + 1) M_R_goMaps 51 [vA 161, vI x1, vI x2, vU, vU] [] σ Q :=
  L_aload_n dR_goMaps_51 rfl (L_getf fw_R_555 rfl dR_goMaps_52 ⟨ob_161, L_ldcw (x := 200000) (tk9 218 rfl rfl) rfl in_200000 dR_goMaps_55 (L_icmp_ne dR_goMaps_58 (by decide) ⟨fun c1 => L_aload_n dR_goMaps_67 rfl (L_dup dR_goMaps_68 n21 (L_getf fw_R_555 rfl dR_goMaps_69 ⟨ob_161, L_iconst dR_goMaps_72 in_1 (L_iadd dR_goMaps_73 (L_putfN fp_R_555 rfl rfl (fun _ => ⟨rfl, rfl⟩) dR_goMaps_74 ⟨ob_161, fun σ2 e2 => L_aload_n dR_goMaps_77 rfl (L_iload_n dR_goMaps_78 rfl (L_aload_n dR_goMaps_79 rfl (L_getF (b := 181) fw_R_80 rfl rfl (by decide) dR_goMaps_80 ⟨ob_161, L_iconst dR_goMaps_83 in_5 (L_iload_n dR_goMaps_84 rfl (L_imul dR_goMaps_85 (L_callVV rfl cv_R_parts2 (As := [vI x2, vA 181, vI (w32 (5 * x1))]) rfl (tk8 153 rfl rfl) rfl (Nat.le_of_ble_eq_true rfl) dR_goMaps_86 ⟨ob_161, Tri.mono ((h.1 c1) σ2 e2) (fun r3 σ3 q3 => L_iconst dR_goMaps_89 in_0 (L_istore_n dR_goMaps_90 (by decide) q3))⟩)))⟩)))⟩))⟩)), fun c1 => L_aload_n dR_goMaps_61 rfl (L_iconst dR_goMaps_62 in_1 (L_putfN fp_R_548 rfl rfl (fit_z (by decide)) dR_goMaps_63 ⟨ob_161, fun σ4 e4 => L_return rfl dR_goMaps_66 ((h.2 c1) σ4 e4)⟩))⟩)⟩)
theorem s_R_goMaps_91 {d : Nat} {x1 x2 x3 : Int} {σ : SG} {Q : Int → SG → Prop} (h : (25 ≤ x3 → (0 ≤ x1 ∧ x1 < 6) ∧ Tri d M_R_join [vA 161, vA 171, vI (σ 183 x1), vA 181, vI (w32 (5 * x1))] σ (fun r2 σ2 => (0 ≤ x1 ∧ x1 < 6) ∧ (r2 = σ2 183 x1 → L (d + 1) M_R_goMaps 21 [vA 161, vI x1, vI (w32 (x2 + 1)), vU, vU] [] σ2 Q) ∧ (r2 ≠ σ2 183 x1 → Tri d M_R_isMapSoFar [vA 161, vI x1] σ2 (fun r4 σ4 => (r4 ≠ 0 → (σ4 161 27 ≤ w32 (x1 + 1) → L (d + 1) M_R_goMaps 211 [vA 161, vI x1, vI x2, vI r2, vU] [] σ4 Q) ∧ (w32 (x1 + 1) < σ4 161 27 → L (d + 1) M_R_goMaps 176 [vA 161, vI x1, vI x2, vI r2, vI 0] [] σ4 Q)) ∧ (r4 = 0 → L (d + 1) M_R_goMaps 21 [vA 161, vI x1, vI (w32 (x2 + 1)), vU, vU] [] σ4 Q))))) ∧ (x3 < 25 → (0 ≤ w32 ((w32 (25 * x1)) + x3) ∧ w32 ((w32 (25 * x1)) + x3) < 125) ∧ (0 ≤ x3 ∧ x3 < 25) ∧ (∀ σ7, σ7 = up σ 171 x3 (σ 182 (w32 ((w32 (25 * x1)) + x3))) → L (d + 1) M_R_goMaps 91 [vA 161, vI x1, vI x2, vI (w32 (x3 + 1)), vU] [] σ7 Q))) : L (d + 1) M_R_goMaps 91 [vA 161, vI x1, vI x2, vI x3, vU] [] σ Q :=
  L_iload_n dR_goMaps_91 rfl (L_bipush dR_goMaps_92 bp_25 in_25 (L_icmp_ge dR_goMaps_94 (by decide) ⟨fun c1 => L_aload_n dR_goMaps_120 rfl (L_aload_n dR_goMaps_121 rfl (L_getF (b := 171) fw_R_50 rfl rfl (by decide) dR_goMaps_122 ⟨ob_161, L_aload_n dR_goMaps_125 rfl (L_getF (b := 183) fw_R_86 rfl rfl (by decide) dR_goMaps_126 ⟨ob_161, L_iload_n dR_goMaps_129 rfl (L_ialoadL kd_183 dR_goMaps_130 ⟨(h.1 c1).1, L_aload_n dR_goMaps_131 rfl (L_getF (b := 181) fw_R_80 rfl rfl (by decide) dR_goMaps_132 ⟨ob_161, L_iconst dR_goMaps_135 in_5 (L_iload_n dR_goMaps_136 rfl (L_imul dR_goMaps_137 (L_callVI rfl cv_R_join (As := [vA 171, vI (σ 183 x1), vA 181, vI (w32 (5 * x1))]) rfl (tk8 230 rfl rfl) rfl (Nat.le_of_ble_eq_true rfl) dR_goMaps_138 ⟨ob_161, Tri.mono ((h.1 c1).2) (fun r2 σ2 q2 => L_istore_n dR_goMaps_141 (by decide) (L_iload_n dR_goMaps_142 rfl (L_aload_n dR_goMaps_143 rfl (L_getF (b := 183) fw_R_86 rfl rfl (by decide) dR_goMaps_144 ⟨ob_161, L_iload_n dR_goMaps_147 rfl (L_ialoadL kd_183 dR_goMaps_148 ⟨q2.1, L_icmp_eq dR_goMaps_149 (by decide) ⟨fun c3 => L_iinc dR_goMaps_227 rfl (by decide) (L_goto dR_goMaps_230 (by decide) (L_weak [true, true, true, false, true] (q2.2.1 c3))), fun c3 => L_aload_n dR_goMaps_152 rfl (L_iload_n dR_goMaps_153 rfl (L_callVI rfl cv_R_isMapSoFar (As := [vI x1]) rfl (tk9 219 rfl rfl) rfl (Nat.le_of_ble_eq_true rfl) dR_goMaps_154 ⟨ob_161, Tri.mono (q2.2.2 c3) (fun r4 σ4 q4 => L_if_ne dR_goMaps_157 (by decide) ⟨fun c5 => L_iload_n dR_goMaps_163 rfl (L_iconst dR_goMaps_164 in_1 (L_iadd dR_goMaps_165 (L_aload_n dR_goMaps_166 rfl (L_getf fw_R_253 rfl dR_goMaps_167 ⟨ob_161, L_icmp_ge dR_goMaps_170 (by decide) ⟨fun c6 => ((q4.1 c5).1 c6), fun c6 => L_iconst dR_goMaps_173 in_0 (L_istore dR_goMaps_174 (by decide) ((q4.1 c5).2 c6))⟩⟩)))), fun c5 => L_goto dR_goMaps_160 (by decide) (L_iinc dR_goMaps_227 rfl (by decide) (L_goto dR_goMaps_230 (by decide) (L_weak [true, true, true, false, true] (q4.2 c5))))⟩)⟩))⟩⟩)⟩))))⟩)))⟩)⟩)⟩)⟩)), fun c1 => L_aload_n dR_goMaps_97 rfl (L_getF (b := 171) fw_R_50 rfl rfl (by decide) dR_goMaps_98 ⟨ob_161, L_iload_n dR_goMaps_101 rfl (L_aload_n dR_goMaps_102 rfl (L_getF (b := 182) fw_R_83 rfl rfl (by decide) dR_goMaps_103 ⟨ob_161, L_bipush dR_goMaps_106 bp_25 in_25 (L_iload_n dR_goMaps_108 rfl (L_imul dR_goMaps_109 (L_iload_n dR_goMaps_110 rfl (L_iadd dR_goMaps_111 (L_ialoadL kd_182 dR_goMaps_112 ⟨(h.2 c1).1, L_iastoreL (by decide) kd_171 dR_goMaps_113 ⟨(h.2 c1).2.1, fun σ7 e7 => L_iinc dR_goMaps_114 rfl (by decide) (L_goto dR_goMaps_117 (by decide) ((h.2 c1).2.2 σ7 e7))⟩⟩)))))⟩))⟩)⟩))
theorem s_R_goMaps_211 {d : Nat} {x1 x2 x3 : Int} {σ : SG} {Q : Int → SG → Prop} (h : (0 ≤ w32 (x1 + 1) ∧ w32 (x1 + 1) < 6) ∧ (∀ σ1, σ1 = up σ 183 (w32 (x1 + 1)) x3 → Tri d M_R_goMaps [vA 161, vI (w32 (x1 + 1))] σ1 (fun r2 σ2 => L (d + 1) M_R_goMaps 21 [vA 161, vI x1, vI (w32 (x2 + 1)), vU, vU] [] σ2 Q))) : L (d + 1) M_R_goMaps 211 [vA 161, vI x1, vI x2, vI x3, vU] [] σ Q :=
  L_aload_n dR_goMaps_211 rfl (L_getF (b := 183) fw_R_86 rfl rfl (by decide) dR_goMaps_212 ⟨ob_161, L_iload_n dR_goMaps_215 rfl (L_iconst dR_goMaps_216 in_1 (L_iadd dR_goMaps_217 (L_iload_n dR_goMaps_218 rfl (L_iastoreL (by decide) kd_183 dR_goMaps_219 ⟨h.1, fun σ1 e1 => L_aload_n dR_goMaps_220 rfl (L_iload_n dR_goMaps_221 rfl (L_iconst dR_goMaps_222 in_1 (L_iadd dR_goMaps_223 (L_callVV rfl cv_R_goMaps (As := [vI (w32 (x1 + 1))]) rfl (tk9 214 rfl rfl) rfl (Nat.le_of_ble_eq_true rfl) dR_goMaps_224 ⟨ob_161, Tri.mono (h.2 σ1 e1) (fun r2 σ2 q2 => L_iinc dR_goMaps_227 rfl (by decide) (L_goto dR_goMaps_230 (by decide) (L_weak [true, true, true, false, true] q2)))⟩))))⟩))))⟩)
theorem s_R_goMaps_176 {d : Nat} {x1 x2 x3 x4 : Int} {σ : SG} {Q : Int → SG → Prop} (h : (25 ≤ x4 → L (d + 1) M_R_goMaps 211 [vA 161, vI x1, vI x2, vI x3, vU] [] σ Q) ∧ (x4 < 25 → (0 ≤ x4 ∧ x4 < 25) ∧ (0 ≤ w32 ((w32 ((w32 (25 * x1)) + 25)) + x4) ∧ w32 ((w32 ((w32 (25 * x1)) + 25)) + x4) < 125) ∧ (∀ σ2, σ2 = up σ 182 (w32 ((w32 ((w32 (25 * x1)) + 25)) + x4)) (σ 171 x4) → L (d + 1) M_R_goMaps 176 [vA 161, vI x1, vI x2, vI x3, vI (w32 (x4 + 1))] [] σ2 Q))) : L (d + 1) M_R_goMaps 176 [vA 161, vI x1, vI x2, vI x3, vI x4] [] σ Q :=
  L_iload dR_goMaps_176 rfl (L_bipush dR_goMaps_178 bp_25 in_25 (L_icmp_ge dR_goMaps_180 (by decide) ⟨fun c1 => L_weak [true, true, true, true, false] (h.1 c1), fun c1 => L_aload_n dR_goMaps_183 rfl (L_getF (b := 182) fw_R_83 rfl rfl (by decide) dR_goMaps_184 ⟨ob_161, L_bipush dR_goMaps_187 bp_25 in_25 (L_iload_n dR_goMaps_189 rfl (L_imul dR_goMaps_190 (L_bipush dR_goMaps_191 bp_25 in_25 (L_iadd dR_goMaps_193 (L_iload dR_goMaps_194 rfl (L_iadd dR_goMaps_196 (L_aload_n dR_goMaps_197 rfl (L_getF (b := 171) fw_R_50 rfl rfl (by decide) dR_goMaps_198 ⟨ob_161, L_iload dR_goMaps_201 rfl (L_ialoadL kd_171 dR_goMaps_203 ⟨(h.2 c1).1, L_iastoreL (by decide) kd_182 dR_goMaps_204 ⟨(h.2 c1).2.1, fun σ2 e2 => L_iinc dR_goMaps_205 rfl (by decide) (L_goto dR_goMaps_208 (by decide) ((h.2 c1).2.2 σ2 e2))⟩⟩)⟩))))))))⟩)⟩))
theorem dR_findMaps_0 : decode prog_14_method_140_code 0 = .ok (.aload_n 0, 1) := by decide +kernel
theorem dR_findMaps_1 : decode prog_14_method_140_code 1 = .ok (.aload_n 1, 1) := by decide +kernel
theorem dR_findMaps_2 : decode prog_14_method_140_code 2 = .ok (.putfield 536, 3) := by decide +kernel
theorem dR_findMaps_5 : decode prog_14_method_140_code 5 = .ok (.aload_n 0, 1) := by decide +kernel
theorem dR_findMaps_6 : decode prog_14_method_140_code 6 = .ok (.iload_n 2, 1) := by decide +kernel
theorem dR_findMaps_7 : decode prog_14_method_140_code 7 = .ok (.putfield 539, 3) := by decide +kernel
theorem dR_findMaps_10 : decode prog_14_method_140_code 10 = .ok (.aload_n 0, 1) := by decide +kernel
theorem dR_findMaps_11 : decode prog_14_method_140_code 11 = .ok (.iload_n 3, 1) := by decide +kernel
theorem dR_findMaps_12 : decode prog_14_method_140_code 12 = .ok (.putfield 552, 3) := by decide +kernel
theorem dR_findMaps_15 : decode prog_14_method_140_code 15 = .ok (.aload_n 0, 1) := by decide +kernel
theorem dR_findMaps_16 : decode prog_14_method_140_code 16 = .ok (.iconst 0, 1) := by decide +kernel
theorem dR_findMaps_17 : decode prog_14_method_140_code 17 = .ok (.putfield 545, 3) := by decide +kernel
theorem dR_findMaps_20 : decode prog_14_method_140_code 20 = .ok (.aload_n 0, 1) := by decide +kernel
theorem dR_findMaps_21 : decode prog_14_method_140_code 21 = .ok (.iconst 0, 1) := by decide +kernel
theorem dR_findMaps_22 : decode prog_14_method_140_code 22 = .ok (.putfield 555, 3) := by decide +kernel
theorem dR_findMaps_25 : decode prog_14_method_140_code 25 = .ok (.aload_n 0, 1) := by decide +kernel
theorem dR_findMaps_26 : decode prog_14_method_140_code 26 = .ok (.iconst 0, 1) := by decide +kernel
theorem dR_findMaps_27 : decode prog_14_method_140_code 27 = .ok (.putfield 548, 3) := by decide +kernel
theorem dR_findMaps_30 : decode prog_14_method_140_code 30 = .ok (.aload_n 0, 1) := by decide +kernel
theorem dR_findMaps_31 : decode prog_14_method_140_code 31 = .ok (.getfield 86, 3) := by decide +kernel
theorem dR_findMaps_34 : decode prog_14_method_140_code 34 = .ok (.iconst 0, 1) := by decide +kernel
theorem dR_findMaps_35 : decode prog_14_method_140_code 35 = .ok (.iconst 0, 1) := by decide +kernel
theorem dR_findMaps_36 : decode prog_14_method_140_code 36 = .ok (.iastore, 1) := by decide +kernel
theorem dR_findMaps_37 : decode prog_14_method_140_code 37 = .ok (.aload_n 0, 1) := by decide +kernel
theorem dR_findMaps_38 : decode prog_14_method_140_code 38 = .ok (.iconst 0, 1) := by decide +kernel
theorem dR_findMaps_39 : decode prog_14_method_140_code 39 = .ok (.invokevirtual 562, 3) := by decide +kernel
theorem dR_findMaps_42 : decode prog_14_method_140_code 42 = .ok (.return_, 1) := by decide +kernel
theorem t_R_findMaps {d : Nat} {x1 x2 x3 : Int} {σ : SG} {Q : Int → SG → Prop} (h : inI x2 → inI x3 → ((∀ σ1, σ1 = up σ 161 64 x1 → (∀ σ2, σ2 = up σ1 161 65 x2 → ((x3 = 0 ∨ x3 = 1) ∧ ∀ σ3, σ3 = up σ2 161 47 x3 → (∀ σ4, σ4 = up σ3 161 45 0 → (∀ σ5, σ5 = up σ4 161 43 0 → (∀ σ6, σ6 = up σ5 161 46 0 → (∀ σ7, σ7 = up σ6 183 0 0 → Tri d M_R_goMaps [vA 161, vI 0] σ7 (fun r8 σ8 => Q 0 σ8)))))))))) : Tri (d + 1) M_R_findMaps [vA 161, vA x1, vI x2, vI x3] σ Q :=
  Tri_intro rfl (Nat.le_of_ble_eq_true rfl) (ls := [vA 161, vA x1, vI x2, vI x3]) rfl (fun hok => L_aload_n dR_findMaps_0 rfl (L_aload_n dR_findMaps_1 rfl (L_putfN fp_R_536 rfl rfl fit_a dR_findMaps_2 ⟨ob_161, fun σ1 e1 => L_aload_n dR_findMaps_5 rfl (L_iload_n dR_findMaps_6 rfl (L_putfN fp_R_539 rfl rfl (fun _ => ⟨rfl, rfl⟩) dR_findMaps_7 ⟨ob_161, fun σ2 e2 => L_aload_n dR_findMaps_10 rfl (L_iload_n dR_findMaps_11 rfl (L_putfN fp_R_552 rfl rfl (fit_z (((h (hok _ (List.mem_of_getElem? (i := 2) rfl)) (hok _ (List.mem_of_getElem? (i := 3) rfl))) σ1 e1) σ2 e2).1) dR_findMaps_12 ⟨ob_161, fun σ3 e3 => L_aload_n dR_findMaps_15 rfl (L_iconst dR_findMaps_16 in_0 (L_putfN fp_R_545 rfl rfl (fun _ => ⟨rfl, rfl⟩) dR_findMaps_17 ⟨ob_161, fun σ4 e4 => L_aload_n dR_findMaps_20 rfl (L_iconst dR_findMaps_21 in_0 (L_putfN fp_R_555 rfl rfl (fun _ => ⟨rfl, rfl⟩) dR_findMaps_22 ⟨ob_161, fun σ5 e5 => L_aload_n dR_findMaps_25 rfl (L_iconst dR_findMaps_26 in_0 (L_putfN fp_R_548 rfl rfl (fit_z (by decide)) dR_findMaps_27 ⟨ob_161, fun σ6 e6 => L_aload_n dR_findMaps_30 rfl (L_getF (b := 183) fw_R_86 rfl rfl (by decide) dR_findMaps_31 ⟨ob_161, L_iconst dR_findMaps_34 in_0 (L_iconst dR_findMaps_35 in_0 (L_iastoreL (by decide) kd_183 dR_findMaps_36 ⟨⟨by decide, by decide⟩, fun σ7 e7 => L_aload_n dR_findMaps_37 rfl (L_iconst dR_findMaps_38 in_0 (L_callVV rfl cv_R_goMaps (As := [vI 0]) rfl (tk9 214 rfl rfl) rfl (Nat.le_of_ble_eq_true rfl) dR_findMaps_39 ⟨ob_161, Tri.mono ((((((((h (hok _ (List.mem_of_getElem? (i := 2) rfl)) (hok _ (List.mem_of_getElem? (i := 3) rfl))) σ1 e1) σ2 e2).2 σ3 e3) σ4 e4) σ5 e5) σ6 e6) σ7 e7) (fun r8 σ8 q8 => L_return rfl dR_findMaps_42 q8)⟩))⟩))⟩)⟩))⟩))⟩))⟩))⟩))⟩)))
theorem dR_maps_0 : decode prog_14_method_141_code 0 = .ok (.aload_n 0, 1) := by decide +kernel
theorem dR_maps_1 : decode prog_14_method_141_code 1 = .ok (.iconst 0, 1) := by decide +kernel
theorem dR_maps_2 : decode prog_14_method_141_code 2 = .ok (.putfield 132, 3) := by decide +kernel
theorem dR_maps_5 : decode prog_14_method_141_code 5 = .ok (.aload_n 0, 1) := by decide +kernel
theorem dR_maps_6 : decode prog_14_method_141_code 6 = .ok (.iconst 0, 1) := by decide +kernel
theorem dR_maps_7 : decode prog_14_method_141_code 7 = .ok (.putfield 135, 3) := by decide +kernel
theorem dR_maps_10 : decode prog_14_method_141_code 10 = .ok (.aload_n 0, 1) := by decide +kernel
theorem dR_maps_11 : decode prog_14_method_141_code 11 = .ok (.invokevirtual 348, 3) := by decide +kernel
theorem dR_maps_14 : decode prog_14_method_141_code 14 = .ok (.aload_n 0, 1) := by decide +kernel
theorem dR_maps_15 : decode prog_14_method_141_code 15 = .ok (.aload_n 0, 1) := by decide +kernel
theorem dR_maps_16 : decode prog_14_method_141_code 16 = .ok (.getfield 35, 3) := by decide +kernel
theorem dR_maps_19 : decode prog_14_method_141_code 19 = .ok (.iconst 0, 1) := by decide +kernel
theorem dR_maps_20 : decode prog_14_method_141_code 20 = .ok (.iconst 0, 1) := by decide +kernel
theorem dR_maps_21 : decode prog_14_method_141_code 21 = .ok (.invokevirtual 565, 3) := by decide +kernel
theorem dR_maps_24 : decode prog_14_method_141_code 24 = .ok (.aload_n 0, 1) := by decide +kernel
theorem dR_maps_25 : decode prog_14_method_141_code 25 = .ok (.aload_n 0, 1) := by decide +kernel
theorem dR_maps_26 : decode prog_14_method_141_code 26 = .ok (.getfield 555, 3) := by decide +kernel
theorem dR_maps_29 : decode prog_14_method_141_code 29 = .ok (.putfield 89, 3) := by decide +kernel
theorem dR_maps_32 : decode prog_14_method_141_code 32 = .ok (.aload_n 0, 1) := by decide +kernel
theorem dR_maps_33 : decode prog_14_method_141_code 33 = .ok (.getfield 548, 3) := by decide +kernel
theorem dR_maps_36 : decode prog_14_method_141_code 36 = .ok (.ifCond .eq 12, 3) := by decide +kernel
theorem dR_maps_39 : decode prog_14_method_141_code 39 = .ok (.aload_n 0, 1) := by decide +kernel
theorem dR_maps_40 : decode prog_14_method_141_code 40 = .ok (.bipush 9, 2) := by decide +kernel
theorem dR_maps_42 : decode prog_14_method_141_code 42 = .ok (.invokevirtual 351, 3) := by decide +kernel
theorem dR_maps_45 : decode prog_14_method_141_code 45 = .ok (.goto 7, 3) := by decide +kernel
theorem dR_maps_48 : decode prog_14_method_141_code 48 = .ok (.aload_n 0, 1) := by decide +kernel
theorem dR_maps_49 : decode prog_14_method_141_code 49 = .ok (.getfield 545, 3) := by decide +kernel
theorem dR_maps_52 : decode prog_14_method_141_code 52 = .ok (.ireturn, 1) := by decide +kernel
theorem t_R_maps {d : Nat} {σ : SG} {Q : Int → SG → Prop} (h : (∀ σ1, σ1 = up σ 161 1 0 → (∀ σ2, σ2 = up σ1 161 0 0 → Tri d M_R_askNow [vA 161] σ2 (fun r3 σ3 => Tri d M_R_findMaps [vA 161, vA 166, vI 0, vI 0] σ3 (fun r4 σ4 => (∀ σ5, σ5 = up σ4 161 44 (σ4 161 43) → (σ5 161 46 = 0 → Q (σ5 161 45) σ5) ∧ (σ5 161 46 ≠ 0 → Tri d M_R_refuse [vA 161, vI 9] σ5 (fun r7 σ7 => Q r7 σ7)))))))) : Tri (d + 1) M_R_maps [vA 161] σ Q :=
  Tri_intro rfl (Nat.le_of_ble_eq_true rfl) (ls := [vA 161]) rfl (fun hok => L_aload_n dR_maps_0 rfl (L_iconst dR_maps_1 in_0 (L_putfN fp_R_132 rfl rfl (fun _ => ⟨rfl, rfl⟩) dR_maps_2 ⟨ob_161, fun σ1 e1 => L_aload_n dR_maps_5 rfl (L_iconst dR_maps_6 in_0 (L_putfN fp_R_135 rfl rfl (fun _ => ⟨rfl, rfl⟩) dR_maps_7 ⟨ob_161, fun σ2 e2 => L_aload_n dR_maps_10 rfl (L_callVV rfl cv_R_askNow (As := []) rfl (tk8 108 rfl rfl) rfl (Nat.le_of_ble_eq_true rfl) dR_maps_11 ⟨ob_161, Tri.mono ((h σ1 e1) σ2 e2) (fun r3 σ3 q3 => L_aload_n dR_maps_14 rfl (L_aload_n dR_maps_15 rfl (L_getF (b := 166) fw_R_35 rfl rfl (by decide) dR_maps_16 ⟨ob_161, L_iconst dR_maps_19 in_0 (L_iconst dR_maps_20 in_0 (L_callVV rfl cv_R_findMaps (As := [vA 166, vI 0, vI 0]) rfl (tk9 210 rfl rfl) rfl (Nat.le_of_ble_eq_true rfl) dR_maps_21 ⟨ob_161, Tri.mono q3 (fun r4 σ4 q4 => L_aload_n dR_maps_24 rfl (L_aload_n dR_maps_25 rfl (L_getf fw_R_555 rfl dR_maps_26 ⟨ob_161, L_putfN fp_R_89 rfl rfl (fun _ => ⟨rfl, rfl⟩) dR_maps_29 ⟨ob_161, fun σ5 e5 => L_aload_n dR_maps_32 rfl (L_getf fw_R_548 rfl dR_maps_33 ⟨ob_161, L_if_eq dR_maps_36 (by decide) ⟨fun c6 => L_aload_n dR_maps_48 rfl (L_getf fw_R_545 rfl dR_maps_49 ⟨ob_161, L_ireturn rfl dR_maps_52 ((q4 σ5 e5).1 c6)⟩), fun c6 => L_aload_n dR_maps_39 rfl (L_bipush dR_maps_40 bp_9 in_9 (L_callVI rfl cv_R_refuse (As := [vI 9]) rfl (tk8 117 rfl rfl) rfl (Nat.le_of_ble_eq_true rfl) dR_maps_42 ⟨ob_161, Tri.mono ((q4 σ5 e5).2 c6) (fun r7 σ7 q7 => L_goto dR_maps_45 (by decide) (L_ireturn rfl dR_maps_52 q7))⟩))⟩⟩)⟩⟩)))⟩))⟩)))⟩)⟩))⟩)))
theorem dR_isUnlike_0 : decode prog_14_method_142_code 0 = .ok (.aload_n 1, 1) := by decide +kernel
theorem dR_isUnlike_1 : decode prog_14_method_142_code 1 = .ok (.iload_n 2, 1) := by decide +kernel
theorem dR_isUnlike_2 : decode prog_14_method_142_code 2 = .ok (.iaload, 1) := by decide +kernel
theorem dR_isUnlike_3 : decode prog_14_method_142_code 3 = .ok (.aload_n 0, 1) := by decide +kernel
theorem dR_isUnlike_4 : decode prog_14_method_142_code 4 = .ok (.getfield 35, 3) := by decide +kernel
theorem dR_isUnlike_7 : decode prog_14_method_142_code 7 = .ok (.iconst 0, 1) := by decide +kernel
theorem dR_isUnlike_8 : decode prog_14_method_142_code 8 = .ok (.iaload, 1) := by decide +kernel
theorem dR_isUnlike_9 : decode prog_14_method_142_code 9 = .ok (.if_icmp .ne 17, 3) := by decide +kernel
theorem dR_isUnlike_12 : decode prog_14_method_142_code 12 = .ok (.aload_n 1, 1) := by decide +kernel
theorem dR_isUnlike_13 : decode prog_14_method_142_code 13 = .ok (.iload_n 2, 1) := by decide +kernel
theorem dR_isUnlike_14 : decode prog_14_method_142_code 14 = .ok (.iconst 1, 1) := by decide +kernel
theorem dR_isUnlike_15 : decode prog_14_method_142_code 15 = .ok (.iadd, 1) := by decide +kernel
theorem dR_isUnlike_16 : decode prog_14_method_142_code 16 = .ok (.iaload, 1) := by decide +kernel
theorem dR_isUnlike_17 : decode prog_14_method_142_code 17 = .ok (.aload_n 0, 1) := by decide +kernel
theorem dR_isUnlike_18 : decode prog_14_method_142_code 18 = .ok (.getfield 35, 3) := by decide +kernel
theorem dR_isUnlike_21 : decode prog_14_method_142_code 21 = .ok (.iconst 1, 1) := by decide +kernel
theorem dR_isUnlike_22 : decode prog_14_method_142_code 22 = .ok (.iaload, 1) := by decide +kernel
theorem dR_isUnlike_23 : decode prog_14_method_142_code 23 = .ok (.if_icmp .eq 7, 3) := by decide +kernel
theorem dR_isUnlike_26 : decode prog_14_method_142_code 26 = .ok (.iconst 1, 1) := by decide +kernel
theorem dR_isUnlike_27 : decode prog_14_method_142_code 27 = .ok (.goto 4, 3) := by decide +kernel
theorem dR_isUnlike_30 : decode prog_14_method_142_code 30 = .ok (.iconst 0, 1) := by decide +kernel
theorem dR_isUnlike_31 : decode prog_14_method_142_code 31 = .ok (.ireturn, 1) := by decide +kernel
theorem t_R_isUnlike {d : Nat} {x1 x2 : Int} {σ : SG} {Q : Int → SG → Prop} (h : inI x2 → (rdok 100 x1 x2 ∧ (σ x1 x2 ≠ σ 166 0 → Q 1 σ) ∧ (σ x1 x2 = σ 166 0 → rdok 100 x1 (w32 (x2 + 1)) ∧ (σ x1 (w32 (x2 + 1)) = σ 166 1 → Q 0 σ) ∧ (σ x1 (w32 (x2 + 1)) ≠ σ 166 1 → Q 1 σ)))) : Tri (d + 1) M_R_isUnlike [vA 161, vA x1, vI x2] σ Q :=
  Tri_intro rfl (Nat.le_of_ble_eq_true rfl) (ls := [vA 161, vA x1, vI x2]) rfl (fun hok => L_aload_n dR_isUnlike_0 rfl (L_iload_n dR_isUnlike_1 rfl (L_iaload dR_isUnlike_2 ⟨(h (hok _ (List.mem_of_getElem? (i := 2) rfl))).1, L_aload_n dR_isUnlike_3 rfl (L_getF (b := 166) fw_R_35 rfl rfl (by decide) dR_isUnlike_4 ⟨ob_161, L_iconst dR_isUnlike_7 in_0 (L_ialoadL kd_166 dR_isUnlike_8 ⟨⟨by decide, by decide⟩, L_icmp_ne dR_isUnlike_9 (by decide) ⟨fun c1 => L_iconst dR_isUnlike_26 in_1 (L_goto dR_isUnlike_27 (by decide) (L_zreturn1 rfl dR_isUnlike_31 ((h (hok _ (List.mem_of_getElem? (i := 2) rfl))).2.1 c1))), fun c1 => L_aload_n dR_isUnlike_12 rfl (L_iload_n dR_isUnlike_13 rfl (L_iconst dR_isUnlike_14 in_1 (L_iadd dR_isUnlike_15 (L_iaload dR_isUnlike_16 ⟨((h (hok _ (List.mem_of_getElem? (i := 2) rfl))).2.2 c1).1, L_aload_n dR_isUnlike_17 rfl (L_getF (b := 166) fw_R_35 rfl rfl (by decide) dR_isUnlike_18 ⟨ob_161, L_iconst dR_isUnlike_21 in_1 (L_ialoadL kd_166 dR_isUnlike_22 ⟨⟨by decide, by decide⟩, L_icmp_eq dR_isUnlike_23 (by decide) ⟨fun c2 => L_iconst dR_isUnlike_30 in_0 (L_zreturn0 rfl dR_isUnlike_31 (((h (hok _ (List.mem_of_getElem? (i := 2) rfl))).2.2 c1).2.1 c2)), fun c2 => L_iconst dR_isUnlike_26 in_1 (L_goto dR_isUnlike_27 (by decide) (L_zreturn1 rfl dR_isUnlike_31 (((h (hok _ (List.mem_of_getElem? (i := 2) rfl))).2.2 c1).2.2 c2)))⟩⟩)⟩)⟩))))⟩⟩)⟩)⟩)))
theorem dR_same_0 : decode prog_14_method_143_code 0 = .ok (.aload_n 0, 1) := by decide +kernel
theorem dR_same_1 : decode prog_14_method_143_code 1 = .ok (.iconst 0, 1) := by decide +kernel
theorem dR_same_2 : decode prog_14_method_143_code 2 = .ok (.putfield 555, 3) := by decide +kernel
theorem dR_same_5 : decode prog_14_method_143_code 5 = .ok (.aload_n 0, 1) := by decide +kernel
theorem dR_same_6 : decode prog_14_method_143_code 6 = .ok (.aload_n 0, 1) := by decide +kernel
theorem dR_same_7 : decode prog_14_method_143_code 7 = .ok (.getfield 35, 3) := by decide +kernel
theorem dR_same_10 : decode prog_14_method_143_code 10 = .ok (.bipush 127, 2) := by decide +kernel
theorem dR_same_12 : decode prog_14_method_143_code 12 = .ok (.iload_n 1, 1) := by decide +kernel
theorem dR_same_13 : decode prog_14_method_143_code 13 = .ok (.iconst 1, 1) := by decide +kernel
theorem dR_same_14 : decode prog_14_method_143_code 14 = .ok (.iadd, 1) := by decide +kernel
theorem dR_same_15 : decode prog_14_method_143_code 15 = .ok (.imul, 1) := by decide +kernel
theorem dR_same_16 : decode prog_14_method_143_code 16 = .ok (.invokevirtual 569, 3) := by decide +kernel
theorem dR_same_19 : decode prog_14_method_143_code 19 = .ok (.ifCond .eq 5, 3) := by decide +kernel
theorem dR_same_22 : decode prog_14_method_143_code 22 = .ok (.iconst 0, 1) := by decide +kernel
theorem dR_same_23 : decode prog_14_method_143_code 23 = .ok (.ireturn, 1) := by decide +kernel
theorem dR_same_24 : decode prog_14_method_143_code 24 = .ok (.aload_n 0, 1) := by decide +kernel
theorem dR_same_25 : decode prog_14_method_143_code 25 = .ok (.aload_n 0, 1) := by decide +kernel
theorem dR_same_26 : decode prog_14_method_143_code 26 = .ok (.getfield 35, 3) := by decide +kernel
theorem dR_same_29 : decode prog_14_method_143_code 29 = .ok (.bipush 127, 2) := by decide +kernel
theorem dR_same_31 : decode prog_14_method_143_code 31 = .ok (.iload_n 1, 1) := by decide +kernel
theorem dR_same_32 : decode prog_14_method_143_code 32 = .ok (.iconst 1, 1) := by decide +kernel
theorem dR_same_33 : decode prog_14_method_143_code 33 = .ok (.iadd, 1) := by decide +kernel
theorem dR_same_34 : decode prog_14_method_143_code 34 = .ok (.imul, 1) := by decide +kernel
theorem dR_same_35 : decode prog_14_method_143_code 35 = .ok (.invokevirtual 256, 3) := by decide +kernel
theorem dR_same_38 : decode prog_14_method_143_code 38 = .ok (.aload_n 0, 1) := by decide +kernel
theorem dR_same_39 : decode prog_14_method_143_code 39 = .ok (.aload_n 0, 1) := by decide +kernel
theorem dR_same_40 : decode prog_14_method_143_code 40 = .ok (.getfield 35, 3) := by decide +kernel
theorem dR_same_43 : decode prog_14_method_143_code 43 = .ok (.iconst 0, 1) := by decide +kernel
theorem dR_same_44 : decode prog_14_method_143_code 44 = .ok (.iconst 1, 1) := by decide +kernel
theorem dR_same_45 : decode prog_14_method_143_code 45 = .ok (.invokevirtual 565, 3) := by decide +kernel
theorem dR_same_48 : decode prog_14_method_143_code 48 = .ok (.aload_n 0, 1) := by decide +kernel
theorem dR_same_49 : decode prog_14_method_143_code 49 = .ok (.invokevirtual 348, 3) := by decide +kernel
theorem dR_same_52 : decode prog_14_method_143_code 52 = .ok (.aload_n 0, 1) := by decide +kernel
theorem dR_same_53 : decode prog_14_method_143_code 53 = .ok (.getfield 545, 3) := by decide +kernel
theorem dR_same_56 : decode prog_14_method_143_code 56 = .ok (.ifCond .le 7, 3) := by decide +kernel
theorem dR_same_59 : decode prog_14_method_143_code 59 = .ok (.iconst 1, 1) := by decide +kernel
theorem dR_same_60 : decode prog_14_method_143_code 60 = .ok (.goto 16, 3) := by decide +kernel
theorem dR_same_63 : decode prog_14_method_143_code 63 = .ok (.aload_n 0, 1) := by decide +kernel
theorem dR_same_64 : decode prog_14_method_143_code 64 = .ok (.getfield 548, 3) := by decide +kernel
theorem dR_same_67 : decode prog_14_method_143_code 67 = .ok (.ifCond .eq 8, 3) := by decide +kernel
theorem dR_same_70 : decode prog_14_method_143_code 70 = .ok (.bipush 9, 2) := by decide +kernel
theorem dR_same_72 : decode prog_14_method_143_code 72 = .ok (.goto 4, 3) := by decide +kernel
theorem dR_same_75 : decode prog_14_method_143_code 75 = .ok (.iconst 0, 1) := by decide +kernel
theorem dR_same_76 : decode prog_14_method_143_code 76 = .ok (.ireturn, 1) := by decide +kernel
theorem t_R_same {d : Nat} {x1 : Int} {σ : SG} {Q : Int → SG → Prop} (h : inI x1 → ((∀ σ1, σ1 = up σ 161 43 0 → Tri d M_R_isUnlike [vA 161, vA 166, vI (w32 (127 * (w32 (x1 + 1))))] σ1 (fun r2 σ2 => (r2 = 0 → Tri d M_R_ask [vA 161, vA 166, vI (w32 (127 * (w32 (x1 + 1))))] σ2 (fun r4 σ4 => Tri d M_R_findMaps [vA 161, vA 166, vI 0, vI 1] σ4 (fun r5 σ5 => Tri d M_R_askNow [vA 161] σ5 (fun r6 σ6 => (σ6 161 45 ≤ 0 → (σ6 161 46 = 0 → Q 0 σ6) ∧ (σ6 161 46 ≠ 0 → Q 9 σ6)) ∧ (0 < σ6 161 45 → Q 1 σ6))))) ∧ (r2 ≠ 0 → Q 0 σ2))))) : Tri (d + 1) M_R_same [vA 161, vI x1] σ Q :=
  Tri_intro rfl (Nat.le_of_ble_eq_true rfl) (ls := [vA 161, vI x1]) rfl (fun hok => L_aload_n dR_same_0 rfl (L_iconst dR_same_1 in_0 (L_putfN fp_R_555 rfl rfl (fun _ => ⟨rfl, rfl⟩) dR_same_2 ⟨ob_161, fun σ1 e1 => L_aload_n dR_same_5 rfl (L_aload_n dR_same_6 rfl (L_getF (b := 166) fw_R_35 rfl rfl (by decide) dR_same_7 ⟨ob_161, L_bipush dR_same_10 bp_127 in_127 (L_iload_n dR_same_12 rfl (L_iconst dR_same_13 in_1 (L_iadd dR_same_14 (L_imul dR_same_15 (L_callVI rfl cv_R_isUnlike (As := [vA 166, vI (w32 (127 * (w32 (x1 + 1))))]) rfl (tk9 235 rfl rfl) rfl (Nat.le_of_ble_eq_true rfl) dR_same_16 ⟨ob_161, Tri.mono ((h (hok _ (List.mem_of_getElem? (i := 1) rfl))) σ1 e1) (fun r2 σ2 q2 => L_if_eq dR_same_19 (by decide) ⟨fun c3 => L_aload_n dR_same_24 rfl (L_aload_n dR_same_25 rfl (L_getF (b := 166) fw_R_35 rfl rfl (by decide) dR_same_26 ⟨ob_161, L_bipush dR_same_29 bp_127 in_127 (L_iload_n dR_same_31 rfl (L_iconst dR_same_32 in_1 (L_iadd dR_same_33 (L_imul dR_same_34 (L_callVV rfl cv_R_ask (As := [vA 166, vI (w32 (127 * (w32 (x1 + 1))))]) rfl (tk8 112 rfl rfl) rfl (Nat.le_of_ble_eq_true rfl) dR_same_35 ⟨ob_161, Tri.mono (q2.1 c3) (fun r4 σ4 q4 => L_aload_n dR_same_38 rfl (L_aload_n dR_same_39 rfl (L_getF (b := 166) fw_R_35 rfl rfl (by decide) dR_same_40 ⟨ob_161, L_iconst dR_same_43 in_0 (L_iconst dR_same_44 in_1 (L_callVV rfl cv_R_findMaps (As := [vA 166, vI 0, vI 1]) rfl (tk9 210 rfl rfl) rfl (Nat.le_of_ble_eq_true rfl) dR_same_45 ⟨ob_161, Tri.mono q4 (fun r5 σ5 q5 => L_aload_n dR_same_48 rfl (L_callVV rfl cv_R_askNow (As := []) rfl (tk8 108 rfl rfl) rfl (Nat.le_of_ble_eq_true rfl) dR_same_49 ⟨ob_161, Tri.mono q5 (fun r6 σ6 q6 => L_aload_n dR_same_52 rfl (L_getf fw_R_545 rfl dR_same_53 ⟨ob_161, L_if_le dR_same_56 (by decide) ⟨fun c7 => L_aload_n dR_same_63 rfl (L_getf fw_R_548 rfl dR_same_64 ⟨ob_161, L_if_eq dR_same_67 (by decide) ⟨fun c8 => L_iconst dR_same_75 in_0 (L_ireturn rfl dR_same_76 ((q6.1 c7).1 c8)), fun c8 => L_bipush dR_same_70 bp_9 in_9 (L_goto dR_same_72 (by decide) (L_ireturn rfl dR_same_76 ((q6.1 c7).2 c8)))⟩⟩), fun c7 => L_iconst dR_same_59 in_1 (L_goto dR_same_60 (by decide) (L_ireturn rfl dR_same_76 (q6.2 c7)))⟩⟩))⟩))⟩))⟩)))⟩)))))⟩)), fun c3 => L_iconst dR_same_22 in_0 (L_ireturn rfl dR_same_23 (q2.2 c3))⟩)⟩)))))⟩))⟩)))
theorem dR_sameAs_0 : decode prog_14_method_144_code 0 = .ok (.aload_n 0, 1) := by decide +kernel
theorem dR_sameAs_1 : decode prog_14_method_144_code 1 = .ok (.iconst 0, 1) := by decide +kernel
theorem dR_sameAs_2 : decode prog_14_method_144_code 2 = .ok (.putfield 132, 3) := by decide +kernel
theorem dR_sameAs_5 : decode prog_14_method_144_code 5 = .ok (.aload_n 0, 1) := by decide +kernel
theorem dR_sameAs_6 : decode prog_14_method_144_code 6 = .ok (.iconst 0, 1) := by decide +kernel
theorem dR_sameAs_7 : decode prog_14_method_144_code 7 = .ok (.putfield 135, 3) := by decide +kernel
theorem dR_sameAs_10 : decode prog_14_method_144_code 10 = .ok (.iload_n 1, 1) := by decide +kernel
theorem dR_sameAs_11 : decode prog_14_method_144_code 11 = .ok (.invokestatic 384, 3) := by decide +kernel
theorem dR_sameAs_14 : decode prog_14_method_144_code 14 = .ok (.ifCond .ne 9, 3) := by decide +kernel
theorem dR_sameAs_17 : decode prog_14_method_144_code 17 = .ok (.aload_n 0, 1) := by decide +kernel
theorem dR_sameAs_18 : decode prog_14_method_144_code 18 = .ok (.iconst 2, 1) := by decide +kernel
theorem dR_sameAs_19 : decode prog_14_method_144_code 19 = .ok (.invokevirtual 351, 3) := by decide +kernel
theorem dR_sameAs_22 : decode prog_14_method_144_code 22 = .ok (.ireturn, 1) := by decide +kernel
theorem dR_sameAs_23 : decode prog_14_method_144_code 23 = .ok (.aload_n 0, 1) := by decide +kernel
theorem dR_sameAs_24 : decode prog_14_method_144_code 24 = .ok (.iload_n 1, 1) := by decide +kernel
theorem dR_sameAs_25 : decode prog_14_method_144_code 25 = .ok (.invokevirtual 387, 3) := by decide +kernel
theorem dR_sameAs_28 : decode prog_14_method_144_code 28 = .ok (.ifCond .eq 10, 3) := by decide +kernel
theorem dR_sameAs_31 : decode prog_14_method_144_code 31 = .ok (.aload_n 0, 1) := by decide +kernel
theorem dR_sameAs_32 : decode prog_14_method_144_code 32 = .ok (.bipush 8, 2) := by decide +kernel
theorem dR_sameAs_34 : decode prog_14_method_144_code 34 = .ok (.invokevirtual 351, 3) := by decide +kernel
theorem dR_sameAs_37 : decode prog_14_method_144_code 37 = .ok (.ireturn, 1) := by decide +kernel
theorem dR_sameAs_38 : decode prog_14_method_144_code 38 = .ok (.aload_n 0, 1) := by decide +kernel
theorem dR_sameAs_39 : decode prog_14_method_144_code 39 = .ok (.iload_n 1, 1) := by decide +kernel
theorem dR_sameAs_40 : decode prog_14_method_144_code 40 = .ok (.invokevirtual 573, 3) := by decide +kernel
theorem dR_sameAs_43 : decode prog_14_method_144_code 43 = .ok (.istore_n 2, 1) := by decide +kernel
theorem dR_sameAs_44 : decode prog_14_method_144_code 44 = .ok (.aload_n 0, 1) := by decide +kernel
theorem dR_sameAs_45 : decode prog_14_method_144_code 45 = .ok (.aload_n 0, 1) := by decide +kernel
theorem dR_sameAs_46 : decode prog_14_method_144_code 46 = .ok (.getfield 555, 3) := by decide +kernel
theorem dR_sameAs_49 : decode prog_14_method_144_code 49 = .ok (.putfield 89, 3) := by decide +kernel
theorem dR_sameAs_52 : decode prog_14_method_144_code 52 = .ok (.iload_n 2, 1) := by decide +kernel
theorem dR_sameAs_53 : decode prog_14_method_144_code 53 = .ok (.bipush 9, 2) := by decide +kernel
theorem dR_sameAs_55 : decode prog_14_method_144_code 55 = .ok (.if_icmp .ne 12, 3) := by decide +kernel
theorem dR_sameAs_58 : decode prog_14_method_144_code 58 = .ok (.aload_n 0, 1) := by decide +kernel
theorem dR_sameAs_59 : decode prog_14_method_144_code 59 = .ok (.bipush 9, 2) := by decide +kernel
theorem dR_sameAs_61 : decode prog_14_method_144_code 61 = .ok (.invokevirtual 351, 3) := by decide +kernel
theorem dR_sameAs_64 : decode prog_14_method_144_code 64 = .ok (.goto 4, 3) := by decide +kernel
theorem dR_sameAs_67 : decode prog_14_method_144_code 67 = .ok (.iload_n 2, 1) := by decide +kernel
theorem dR_sameAs_68 : decode prog_14_method_144_code 68 = .ok (.ireturn, 1) := by decide +kernel
theorem t_R_sameAs {d : Nat} {x1 : Int} {σ : SG} {Q : Int → SG → Prop} (h : inI x1 → ((∀ σ1, σ1 = up σ 161 1 0 → (∀ σ2, σ2 = up σ1 161 0 0 → Tri d M_R_isShelf [vI x1] σ2 (fun r3 σ3 => (r3 ≠ 0 → Tri d M_R_isEmpty [vA 161, vI x1] σ3 (fun r5 σ5 => (r5 = 0 → Tri d M_R_same [vA 161, vI x1] σ5 (fun r7 σ7 => (∀ σ8, σ8 = up σ7 161 44 (σ7 161 43) → (r7 ≠ 9 → Q r7 σ8) ∧ (r7 = 9 → Tri d M_R_refuse [vA 161, vI 9] σ8 (fun r10 σ10 => Q r10 σ10))))) ∧ (r5 ≠ 0 → Tri d M_R_refuse [vA 161, vI 8] σ5 (fun r11 σ11 => Q r11 σ11)))) ∧ (r3 = 0 → Tri d M_R_refuse [vA 161, vI 2] σ3 (fun r12 σ12 => Q r12 σ12))))))) : Tri (d + 1) M_R_sameAs [vA 161, vI x1] σ Q :=
  Tri_intro rfl (Nat.le_of_ble_eq_true rfl) (ls := [vA 161, vI x1, vU]) rfl (fun hok => L_aload_n dR_sameAs_0 rfl (L_iconst dR_sameAs_1 in_0 (L_putfN fp_R_132 rfl rfl (fun _ => ⟨rfl, rfl⟩) dR_sameAs_2 ⟨ob_161, fun σ1 e1 => L_aload_n dR_sameAs_5 rfl (L_iconst dR_sameAs_6 in_0 (L_putfN fp_R_135 rfl rfl (fun _ => ⟨rfl, rfl⟩) dR_sameAs_7 ⟨ob_161, fun σ2 e2 => L_iload_n dR_sameAs_10 rfl (L_callSI rfl cs_R_isShelf (As := [vI x1]) rfl (tk8 198 rfl rfl) rfl (Nat.le_of_ble_eq_true rfl) dR_sameAs_11 (Tri.mono (((h (hok _ (List.mem_of_getElem? (i := 1) rfl))) σ1 e1) σ2 e2) (fun r3 σ3 q3 => L_if_ne dR_sameAs_14 (by decide) ⟨fun c4 => L_aload_n dR_sameAs_23 rfl (L_iload_n dR_sameAs_24 rfl (L_callVI rfl cv_R_isEmpty (As := [vI x1]) rfl (tk8 205 rfl rfl) rfl (Nat.le_of_ble_eq_true rfl) dR_sameAs_25 ⟨ob_161, Tri.mono (q3.1 c4) (fun r5 σ5 q5 => L_if_eq dR_sameAs_28 (by decide) ⟨fun c6 => L_aload_n dR_sameAs_38 rfl (L_iload_n dR_sameAs_39 rfl (L_callVI rfl cv_R_same (As := [vI x1]) rfl (tk9 231 rfl rfl) rfl (Nat.le_of_ble_eq_true rfl) dR_sameAs_40 ⟨ob_161, Tri.mono (q5.1 c6) (fun r7 σ7 q7 => L_istore_n dR_sameAs_43 (by decide) (L_aload_n dR_sameAs_44 rfl (L_aload_n dR_sameAs_45 rfl (L_getf fw_R_555 rfl dR_sameAs_46 ⟨ob_161, L_putfN fp_R_89 rfl rfl (fun _ => ⟨rfl, rfl⟩) dR_sameAs_49 ⟨ob_161, fun σ8 e8 => L_iload_n dR_sameAs_52 rfl (L_bipush dR_sameAs_53 bp_9 in_9 (L_icmp_ne dR_sameAs_55 (by decide) ⟨fun c9 => L_iload_n dR_sameAs_67 rfl (L_ireturn rfl dR_sameAs_68 ((q7 σ8 e8).1 c9)), fun c9 => L_aload_n dR_sameAs_58 rfl (L_bipush dR_sameAs_59 bp_9 in_9 (L_callVI rfl cv_R_refuse (As := [vI 9]) rfl (tk8 117 rfl rfl) rfl (Nat.le_of_ble_eq_true rfl) dR_sameAs_61 ⟨ob_161, Tri.mono ((q7 σ8 e8).2 c9) (fun r10 σ10 q10 => L_goto dR_sameAs_64 (by decide) (L_ireturn rfl dR_sameAs_68 q10))⟩))⟩))⟩⟩))))⟩)), fun c6 => L_aload_n dR_sameAs_31 rfl (L_bipush dR_sameAs_32 bp_8 in_8 (L_callVI rfl cv_R_refuse (As := [vI 8]) rfl (tk8 117 rfl rfl) rfl (Nat.le_of_ble_eq_true rfl) dR_sameAs_34 ⟨ob_161, Tri.mono (q5.2 c6) (fun r11 σ11 q11 => L_ireturn rfl dR_sameAs_37 q11)⟩))⟩)⟩)), fun c4 => L_aload_n dR_sameAs_17 rfl (L_iconst dR_sameAs_18 in_2 (L_callVI rfl cv_R_refuse (As := [vI 2]) rfl (tk8 117 rfl rfl) rfl (Nat.le_of_ble_eq_true rfl) dR_sameAs_19 ⟨ob_161, Tri.mono (q3.2 c4) (fun r12 σ12 q12 => L_ireturn rfl dR_sameAs_22 q12)⟩))⟩)))⟩))⟩)))
theorem dR_tries_0 : decode prog_14_method_145_code 0 = .ok (.aload_n 0, 1) := by decide +kernel
theorem dR_tries_1 : decode prog_14_method_145_code 1 = .ok (.iconst 0, 1) := by decide +kernel
theorem dR_tries_2 : decode prog_14_method_145_code 2 = .ok (.putfield 132, 3) := by decide +kernel
theorem dR_tries_5 : decode prog_14_method_145_code 5 = .ok (.aload_n 0, 1) := by decide +kernel
theorem dR_tries_6 : decode prog_14_method_145_code 6 = .ok (.iconst 0, 1) := by decide +kernel
theorem dR_tries_7 : decode prog_14_method_145_code 7 = .ok (.putfield 135, 3) := by decide +kernel
theorem dR_tries_10 : decode prog_14_method_145_code 10 = .ok (.aload_n 0, 1) := by decide +kernel
theorem dR_tries_11 : decode prog_14_method_145_code 11 = .ok (.getfield 89, 3) := by decide +kernel
theorem dR_tries_14 : decode prog_14_method_145_code 14 = .ok (.ifCond .ge 12, 3) := by decide +kernel
theorem dR_tries_17 : decode prog_14_method_145_code 17 = .ok (.aload_n 0, 1) := by decide +kernel
theorem dR_tries_18 : decode prog_14_method_145_code 18 = .ok (.bipush 8, 2) := by decide +kernel
theorem dR_tries_20 : decode prog_14_method_145_code 20 = .ok (.invokevirtual 351, 3) := by decide +kernel
theorem dR_tries_23 : decode prog_14_method_145_code 23 = .ok (.goto 7, 3) := by decide +kernel
theorem dR_tries_26 : decode prog_14_method_145_code 26 = .ok (.aload_n 0, 1) := by decide +kernel
theorem dR_tries_27 : decode prog_14_method_145_code 27 = .ok (.getfield 89, 3) := by decide +kernel
theorem dR_tries_30 : decode prog_14_method_145_code 30 = .ok (.ireturn, 1) := by decide +kernel
theorem t_R_tries {d : Nat} {σ : SG} {Q : Int → SG → Prop} (h : (∀ σ1, σ1 = up σ 161 1 0 → (∀ σ2, σ2 = up σ1 161 0 0 → (0 ≤ σ2 161 44 → Q (σ2 161 44) σ2) ∧ (σ2 161 44 < 0 → Tri d M_R_refuse [vA 161, vI 8] σ2 (fun r4 σ4 => Q r4 σ4))))) : Tri (d + 1) M_R_tries [vA 161] σ Q :=
  Tri_intro rfl (Nat.le_of_ble_eq_true rfl) (ls := [vA 161]) rfl (fun hok => L_aload_n dR_tries_0 rfl (L_iconst dR_tries_1 in_0 (L_putfN fp_R_132 rfl rfl (fun _ => ⟨rfl, rfl⟩) dR_tries_2 ⟨ob_161, fun σ1 e1 => L_aload_n dR_tries_5 rfl (L_iconst dR_tries_6 in_0 (L_putfN fp_R_135 rfl rfl (fun _ => ⟨rfl, rfl⟩) dR_tries_7 ⟨ob_161, fun σ2 e2 => L_aload_n dR_tries_10 rfl (L_getf fw_R_89 rfl dR_tries_11 ⟨ob_161, L_if_ge dR_tries_14 (by decide) ⟨fun c3 => L_aload_n dR_tries_26 rfl (L_getf fw_R_89 rfl dR_tries_27 ⟨ob_161, L_ireturn rfl dR_tries_30 (((h σ1 e1) σ2 e2).1 c3)⟩), fun c3 => L_aload_n dR_tries_17 rfl (L_bipush dR_tries_18 bp_8 in_8 (L_callVI rfl cv_R_refuse (As := [vI 8]) rfl (tk8 117 rfl rfl) rfl (Nat.le_of_ble_eq_true rfl) dR_tries_20 ⟨ob_161, Tri.mono (((h σ1 e1) σ2 e2).2 c3) (fun r4 σ4 q4 => L_goto dR_tries_23 (by decide) (L_ireturn rfl dR_tries_30 q4))⟩))⟩⟩)⟩))⟩)))
theorem dR_markBy_0 : decode prog_14_method_146_code 0 = .ok (.iload_n 1, 1) := by decide +kernel
theorem dR_markBy_1 : decode prog_14_method_146_code 1 = .ok (.tableswitch 85 1 7 #[43, 50, 57, 64, 69, 74, 79], 43) := by decide +kernel
theorem dR_markBy_44 : decode prog_14_method_146_code 44 = .ok (.aload_n 0, 1) := by decide +kernel
theorem dR_markBy_45 : decode prog_14_method_146_code 45 = .ok (.iconst 1, 1) := by decide +kernel
theorem dR_markBy_46 : decode prog_14_method_146_code 46 = .ok (.iconst 0, 1) := by decide +kernel
theorem dR_markBy_47 : decode prog_14_method_146_code 47 = .ok (.invokevirtual 419, 3) := by decide +kernel
theorem dR_markBy_50 : decode prog_14_method_146_code 50 = .ok (.ireturn, 1) := by decide +kernel
theorem dR_markBy_51 : decode prog_14_method_146_code 51 = .ok (.aload_n 0, 1) := by decide +kernel
theorem dR_markBy_52 : decode prog_14_method_146_code 52 = .ok (.iconst 2, 1) := by decide +kernel
theorem dR_markBy_53 : decode prog_14_method_146_code 53 = .ok (.iconst 0, 1) := by decide +kernel
theorem dR_markBy_54 : decode prog_14_method_146_code 54 = .ok (.invokevirtual 419, 3) := by decide +kernel
theorem dR_markBy_57 : decode prog_14_method_146_code 57 = .ok (.ireturn, 1) := by decide +kernel
theorem dR_markBy_58 : decode prog_14_method_146_code 58 = .ok (.aload_n 0, 1) := by decide +kernel
theorem dR_markBy_59 : decode prog_14_method_146_code 59 = .ok (.iconst 2, 1) := by decide +kernel
theorem dR_markBy_60 : decode prog_14_method_146_code 60 = .ok (.iconst 1, 1) := by decide +kernel
theorem dR_markBy_61 : decode prog_14_method_146_code 61 = .ok (.invokevirtual 419, 3) := by decide +kernel
theorem dR_markBy_64 : decode prog_14_method_146_code 64 = .ok (.ireturn, 1) := by decide +kernel
theorem dR_markBy_65 : decode prog_14_method_146_code 65 = .ok (.aload_n 0, 1) := by decide +kernel
theorem dR_markBy_66 : decode prog_14_method_146_code 66 = .ok (.invokevirtual 436, 3) := by decide +kernel
theorem dR_markBy_69 : decode prog_14_method_146_code 69 = .ok (.ireturn, 1) := by decide +kernel
theorem dR_markBy_70 : decode prog_14_method_146_code 70 = .ok (.aload_n 0, 1) := by decide +kernel
theorem dR_markBy_71 : decode prog_14_method_146_code 71 = .ok (.invokevirtual 509, 3) := by decide +kernel
theorem dR_markBy_74 : decode prog_14_method_146_code 74 = .ok (.ireturn, 1) := by decide +kernel
theorem dR_markBy_75 : decode prog_14_method_146_code 75 = .ok (.aload_n 0, 1) := by decide +kernel
theorem dR_markBy_76 : decode prog_14_method_146_code 76 = .ok (.invokevirtual 512, 3) := by decide +kernel
theorem dR_markBy_79 : decode prog_14_method_146_code 79 = .ok (.ireturn, 1) := by decide +kernel
theorem dR_markBy_80 : decode prog_14_method_146_code 80 = .ok (.aload_n 0, 1) := by decide +kernel
theorem dR_markBy_81 : decode prog_14_method_146_code 81 = .ok (.iconst 2, 1) := by decide +kernel
theorem dR_markBy_82 : decode prog_14_method_146_code 82 = .ok (.invokevirtual 530, 3) := by decide +kernel
theorem dR_markBy_85 : decode prog_14_method_146_code 85 = .ok (.ireturn, 1) := by decide +kernel
theorem dR_markBy_86 : decode prog_14_method_146_code 86 = .ok (.aload_n 0, 1) := by decide +kernel
theorem dR_markBy_87 : decode prog_14_method_146_code 87 = .ok (.invokevirtual 533, 3) := by decide +kernel
theorem dR_markBy_90 : decode prog_14_method_146_code 90 = .ok (.ireturn, 1) := by decide +kernel
theorem t_R_markBy {d : Nat} {x1 : Int} {σ : SG} {Q : Int → SG → Prop} (h : inI x1 → (((x1 < 1 ∨ 7 < x1) → Tri d M_R_commutingMany [vA 161] σ (fun r2 σ2 => Q r2 σ2)) ∧ (x1 = 1 → Tri d M_R_seriesOf [vA 161, vI 1, vI 0] σ (fun r3 σ3 => Q r3 σ3)) ∧ (x1 = 2 → Tri d M_R_seriesOf [vA 161, vI 2, vI 0] σ (fun r4 σ4 => Q r4 σ4)) ∧ (x1 = 3 → Tri d M_R_seriesOf [vA 161, vI 2, vI 1] σ (fun r5 σ5 => Q r5 σ5)) ∧ (x1 = 4 → Tri d M_R_centreSize [vA 161] σ (fun r6 σ6 => Q r6 σ6)) ∧ (x1 = 5 → Tri d M_R_derivationSize [vA 161] σ (fun r7 σ7 => Q r7 σ7)) ∧ (x1 = 6 → Tri d M_R_formRank [vA 161] σ (fun r8 σ8 => Q r8 σ8)) ∧ (x1 = 7 → Tri d M_R_classSize [vA 161, vI 2] σ (fun r9 σ9 => Q r9 σ9)))) : Tri (d + 1) M_R_markBy [vA 161, vI x1] σ Q :=
  Tri_intro rfl (Nat.le_of_ble_eq_true rfl) (ls := [vA 161, vI x1]) rfl (fun hok => L_iload_n dR_markBy_0 rfl (L_table dR_markBy_1 (by decide) ⟨fun c1 => L_aload_n dR_markBy_86 rfl (L_callVI rfl cv_R_commutingMany (As := []) rfl (tk9 202 rfl rfl) rfl (Nat.le_of_ble_eq_true rfl) dR_markBy_87 ⟨ob_161, Tri.mono ((h (hok _ (List.mem_of_getElem? (i := 1) rfl))).1 c1) (fun r2 σ2 q2 => L_ireturn rfl dR_markBy_90 q2)⟩), fun k1 c1a c1b c1 => match k1, c1 with | 0, c1 => ⟨43, 44, rfl, by decide, L_aload_n dR_markBy_44 rfl (L_iconst dR_markBy_45 in_1 (L_iconst dR_markBy_46 in_0 (L_callVI rfl cv_R_seriesOf (As := [vI 1, vI 0]) rfl (tk9 15 rfl rfl) rfl (Nat.le_of_ble_eq_true rfl) dR_markBy_47 ⟨ob_161, Tri.mono ((h (hok _ (List.mem_of_getElem? (i := 1) rfl))).2.1 (by omega)) (fun r3 σ3 q3 => L_ireturn rfl dR_markBy_50 q3)⟩)))⟩ | 1, c1 => ⟨50, 51, rfl, by decide, L_aload_n dR_markBy_51 rfl (L_iconst dR_markBy_52 in_2 (L_iconst dR_markBy_53 in_0 (L_callVI rfl cv_R_seriesOf (As := [vI 2, vI 0]) rfl (tk9 15 rfl rfl) rfl (Nat.le_of_ble_eq_true rfl) dR_markBy_54 ⟨ob_161, Tri.mono ((h (hok _ (List.mem_of_getElem? (i := 1) rfl))).2.2.1 (by omega)) (fun r4 σ4 q4 => L_ireturn rfl dR_markBy_57 q4)⟩)))⟩ | 2, c1 => ⟨57, 58, rfl, by decide, L_aload_n dR_markBy_58 rfl (L_iconst dR_markBy_59 in_2 (L_iconst dR_markBy_60 in_1 (L_callVI rfl cv_R_seriesOf (As := [vI 2, vI 1]) rfl (tk9 15 rfl rfl) rfl (Nat.le_of_ble_eq_true rfl) dR_markBy_61 ⟨ob_161, Tri.mono ((h (hok _ (List.mem_of_getElem? (i := 1) rfl))).2.2.2.1 (by omega)) (fun r5 σ5 q5 => L_ireturn rfl dR_markBy_64 q5)⟩)))⟩ | 3, c1 => ⟨64, 65, rfl, by decide, L_aload_n dR_markBy_65 rfl (L_callVI rfl cv_R_centreSize (As := []) rfl (tk9 31 rfl rfl) rfl (Nat.le_of_ble_eq_true rfl) dR_markBy_66 ⟨ob_161, Tri.mono ((h (hok _ (List.mem_of_getElem? (i := 1) rfl))).2.2.2.2.1 (by omega)) (fun r6 σ6 q6 => L_ireturn rfl dR_markBy_69 q6)⟩)⟩ | 4, c1 => ⟨69, 70, rfl, by decide, L_aload_n dR_markBy_70 rfl (L_callVI rfl cv_R_derivationSize (As := []) rfl (tk9 159 rfl rfl) rfl (Nat.le_of_ble_eq_true rfl) dR_markBy_71 ⟨ob_161, Tri.mono ((h (hok _ (List.mem_of_getElem? (i := 1) rfl))).2.2.2.2.2.1 (by omega)) (fun r7 σ7 q7 => L_ireturn rfl dR_markBy_74 q7)⟩)⟩ | 5, c1 => ⟨74, 75, rfl, by decide, L_aload_n dR_markBy_75 rfl (L_callVI rfl cv_R_formRank (As := []) rfl (tk9 167 rfl rfl) rfl (Nat.le_of_ble_eq_true rfl) dR_markBy_76 ⟨ob_161, Tri.mono ((h (hok _ (List.mem_of_getElem? (i := 1) rfl))).2.2.2.2.2.2.1 (by omega)) (fun r8 σ8 q8 => L_ireturn rfl dR_markBy_79 q8)⟩)⟩ | 6, c1 => ⟨79, 80, rfl, by decide, L_aload_n dR_markBy_80 rfl (L_iconst dR_markBy_81 in_2 (L_callVI rfl cv_R_classSize (As := [vI 2]) rfl (tk9 175 rfl rfl) rfl (Nat.le_of_ble_eq_true rfl) dR_markBy_82 ⟨ob_161, Tri.mono ((h (hok _ (List.mem_of_getElem? (i := 1) rfl))).2.2.2.2.2.2.2 (by omega)) (fun r9 σ9 q9 => L_ireturn rfl dR_markBy_85 q9)⟩))⟩ | (n + 7), c1 => absurd c1b (by omega)⟩))
theorem dR_parted_0 : decode prog_14_method_147_code 0 = .ok (.aload_n 0, 1) := by decide +kernel
theorem dR_parted_1 : decode prog_14_method_147_code 1 = .ok (.iconst 0, 1) := by decide +kernel
theorem dR_parted_2 : decode prog_14_method_147_code 2 = .ok (.putfield 132, 3) := by decide +kernel
theorem dR_parted_5 : decode prog_14_method_147_code 5 = .ok (.aload_n 0, 1) := by decide +kernel
theorem dR_parted_6 : decode prog_14_method_147_code 6 = .ok (.iconst 0, 1) := by decide +kernel
theorem dR_parted_7 : decode prog_14_method_147_code 7 = .ok (.putfield 135, 3) := by decide +kernel
theorem dR_parted_10 : decode prog_14_method_147_code 10 = .ok (.iload_n 1, 1) := by decide +kernel
theorem dR_parted_11 : decode prog_14_method_147_code 11 = .ok (.invokestatic 384, 3) := by decide +kernel
theorem dR_parted_14 : decode prog_14_method_147_code 14 = .ok (.ifCond .ne 9, 3) := by decide +kernel
theorem dR_parted_17 : decode prog_14_method_147_code 17 = .ok (.aload_n 0, 1) := by decide +kernel
theorem dR_parted_18 : decode prog_14_method_147_code 18 = .ok (.iconst 2, 1) := by decide +kernel
theorem dR_parted_19 : decode prog_14_method_147_code 19 = .ok (.invokevirtual 351, 3) := by decide +kernel
theorem dR_parted_22 : decode prog_14_method_147_code 22 = .ok (.ireturn, 1) := by decide +kernel
theorem dR_parted_23 : decode prog_14_method_147_code 23 = .ok (.aload_n 0, 1) := by decide +kernel
theorem dR_parted_24 : decode prog_14_method_147_code 24 = .ok (.iload_n 1, 1) := by decide +kernel
theorem dR_parted_25 : decode prog_14_method_147_code 25 = .ok (.invokevirtual 387, 3) := by decide +kernel
theorem dR_parted_28 : decode prog_14_method_147_code 28 = .ok (.ifCond .eq 10, 3) := by decide +kernel
theorem dR_parted_31 : decode prog_14_method_147_code 31 = .ok (.aload_n 0, 1) := by decide +kernel
theorem dR_parted_32 : decode prog_14_method_147_code 32 = .ok (.bipush 8, 2) := by decide +kernel
theorem dR_parted_34 : decode prog_14_method_147_code 34 = .ok (.invokevirtual 351, 3) := by decide +kernel
theorem dR_parted_37 : decode prog_14_method_147_code 37 = .ok (.ireturn, 1) := by decide +kernel
theorem dR_parted_38 : decode prog_14_method_147_code 38 = .ok (.aload_n 0, 1) := by decide +kernel
theorem dR_parted_39 : decode prog_14_method_147_code 39 = .ok (.aload_n 0, 1) := by decide +kernel
theorem dR_parted_40 : decode prog_14_method_147_code 40 = .ok (.getfield 35, 3) := by decide +kernel
theorem dR_parted_43 : decode prog_14_method_147_code 43 = .ok (.bipush 127, 2) := by decide +kernel
theorem dR_parted_45 : decode prog_14_method_147_code 45 = .ok (.iload_n 1, 1) := by decide +kernel
theorem dR_parted_46 : decode prog_14_method_147_code 46 = .ok (.iconst 1, 1) := by decide +kernel
theorem dR_parted_47 : decode prog_14_method_147_code 47 = .ok (.iadd, 1) := by decide +kernel
theorem dR_parted_48 : decode prog_14_method_147_code 48 = .ok (.imul, 1) := by decide +kernel
theorem dR_parted_49 : decode prog_14_method_147_code 49 = .ok (.invokevirtual 569, 3) := by decide +kernel
theorem dR_parted_52 : decode prog_14_method_147_code 52 = .ok (.ifCond .eq 5, 3) := by decide +kernel
theorem dR_parted_55 : decode prog_14_method_147_code 55 = .ok (.iconst 0, 1) := by decide +kernel
theorem dR_parted_56 : decode prog_14_method_147_code 56 = .ok (.ireturn, 1) := by decide +kernel
theorem dR_parted_57 : decode prog_14_method_147_code 57 = .ok (.iconst 1, 1) := by decide +kernel
theorem dR_parted_58 : decode prog_14_method_147_code 58 = .ok (.istore_n 2, 1) := by decide +kernel
theorem dR_parted_59 : decode prog_14_method_147_code 59 = .ok (.iload_n 2, 1) := by decide +kernel
theorem dR_parted_60 : decode prog_14_method_147_code 60 = .ok (.bipush 9, 2) := by decide +kernel
theorem dR_parted_62 : decode prog_14_method_147_code 62 = .ok (.if_icmp .ge 44, 3) := by decide +kernel
theorem dR_parted_65 : decode prog_14_method_147_code 65 = .ok (.aload_n 0, 1) := by decide +kernel
theorem dR_parted_66 : decode prog_14_method_147_code 66 = .ok (.invokevirtual 348, 3) := by decide +kernel
theorem dR_parted_69 : decode prog_14_method_147_code 69 = .ok (.aload_n 0, 1) := by decide +kernel
theorem dR_parted_70 : decode prog_14_method_147_code 70 = .ok (.iload_n 2, 1) := by decide +kernel
theorem dR_parted_71 : decode prog_14_method_147_code 71 = .ok (.invokevirtual 576, 3) := by decide +kernel
theorem dR_parted_74 : decode prog_14_method_147_code 74 = .ok (.istore_n 3, 1) := by decide +kernel
theorem dR_parted_75 : decode prog_14_method_147_code 75 = .ok (.aload_n 0, 1) := by decide +kernel
theorem dR_parted_76 : decode prog_14_method_147_code 76 = .ok (.aload_n 0, 1) := by decide +kernel
theorem dR_parted_77 : decode prog_14_method_147_code 77 = .ok (.getfield 35, 3) := by decide +kernel
theorem dR_parted_80 : decode prog_14_method_147_code 80 = .ok (.bipush 127, 2) := by decide +kernel
theorem dR_parted_82 : decode prog_14_method_147_code 82 = .ok (.iload_n 1, 1) := by decide +kernel
theorem dR_parted_83 : decode prog_14_method_147_code 83 = .ok (.iconst 1, 1) := by decide +kernel
theorem dR_parted_84 : decode prog_14_method_147_code 84 = .ok (.iadd, 1) := by decide +kernel
theorem dR_parted_85 : decode prog_14_method_147_code 85 = .ok (.imul, 1) := by decide +kernel
theorem dR_parted_86 : decode prog_14_method_147_code 86 = .ok (.invokevirtual 256, 3) := by decide +kernel
theorem dR_parted_89 : decode prog_14_method_147_code 89 = .ok (.aload_n 0, 1) := by decide +kernel
theorem dR_parted_90 : decode prog_14_method_147_code 90 = .ok (.iload_n 2, 1) := by decide +kernel
theorem dR_parted_91 : decode prog_14_method_147_code 91 = .ok (.invokevirtual 576, 3) := by decide +kernel
theorem dR_parted_94 : decode prog_14_method_147_code 94 = .ok (.iload_n 3, 1) := by decide +kernel
theorem dR_parted_95 : decode prog_14_method_147_code 95 = .ok (.if_icmp .eq 5, 3) := by decide +kernel
theorem dR_parted_98 : decode prog_14_method_147_code 98 = .ok (.iload_n 2, 1) := by decide +kernel
theorem dR_parted_99 : decode prog_14_method_147_code 99 = .ok (.ireturn, 1) := by decide +kernel
theorem dR_parted_100 : decode prog_14_method_147_code 100 = .ok (.iinc 2 1, 3) := by decide +kernel
theorem dR_parted_103 : decode prog_14_method_147_code 103 = .ok (.goto (-44), 3) := by decide +kernel
theorem dR_parted_106 : decode prog_14_method_147_code 106 = .ok (.aload_n 0, 1) := by decide +kernel
theorem dR_parted_107 : decode prog_14_method_147_code 107 = .ok (.bipush 8, 2) := by decide +kernel
theorem dR_parted_109 : decode prog_14_method_147_code 109 = .ok (.invokevirtual 351, 3) := by decide +kernel
theorem dR_parted_112 : decode prog_14_method_147_code 112 = .ok (.ireturn, 1) := by decide +kernel
theorem t_R_parted {d : Nat} {x1 : Int} {σ : SG} {Q : Int → SG → Prop} (h : inI x1 → ((∀ σ1, σ1 = up σ 161 1 0 → (∀ σ2, σ2 = up σ1 161 0 0 → Tri d M_R_isShelf [vI x1] σ2 (fun r3 σ3 => (r3 ≠ 0 → Tri d M_R_isEmpty [vA 161, vI x1] σ3 (fun r5 σ5 => (r5 = 0 → Tri d M_R_isUnlike [vA 161, vA 166, vI (w32 (127 * (w32 (x1 + 1))))] σ5 (fun r7 σ7 => (r7 = 0 → L (d + 1) M_R_parted 59 [vA 161, vI x1, vI 1, vU] [] σ7 Q) ∧ (r7 ≠ 0 → Q 0 σ7))) ∧ (r5 ≠ 0 → Tri d M_R_refuse [vA 161, vI 8] σ5 (fun r9 σ9 => Q r9 σ9)))) ∧ (r3 = 0 → Tri d M_R_refuse [vA 161, vI 2] σ3 (fun r10 σ10 => Q r10 σ10))))))) : Tri (d + 1) M_R_parted [vA 161, vI x1] σ Q :=
  Tri_intro rfl (Nat.le_of_ble_eq_true rfl) (ls := [vA 161, vI x1, vU, vU]) rfl (fun hok => L_aload_n dR_parted_0 rfl (L_iconst dR_parted_1 in_0 (L_putfN fp_R_132 rfl rfl (fun _ => ⟨rfl, rfl⟩) dR_parted_2 ⟨ob_161, fun σ1 e1 => L_aload_n dR_parted_5 rfl (L_iconst dR_parted_6 in_0 (L_putfN fp_R_135 rfl rfl (fun _ => ⟨rfl, rfl⟩) dR_parted_7 ⟨ob_161, fun σ2 e2 => L_iload_n dR_parted_10 rfl (L_callSI rfl cs_R_isShelf (As := [vI x1]) rfl (tk8 198 rfl rfl) rfl (Nat.le_of_ble_eq_true rfl) dR_parted_11 (Tri.mono (((h (hok _ (List.mem_of_getElem? (i := 1) rfl))) σ1 e1) σ2 e2) (fun r3 σ3 q3 => L_if_ne dR_parted_14 (by decide) ⟨fun c4 => L_aload_n dR_parted_23 rfl (L_iload_n dR_parted_24 rfl (L_callVI rfl cv_R_isEmpty (As := [vI x1]) rfl (tk8 205 rfl rfl) rfl (Nat.le_of_ble_eq_true rfl) dR_parted_25 ⟨ob_161, Tri.mono (q3.1 c4) (fun r5 σ5 q5 => L_if_eq dR_parted_28 (by decide) ⟨fun c6 => L_aload_n dR_parted_38 rfl (L_aload_n dR_parted_39 rfl (L_getF (b := 166) fw_R_35 rfl rfl (by decide) dR_parted_40 ⟨ob_161, L_bipush dR_parted_43 bp_127 in_127 (L_iload_n dR_parted_45 rfl (L_iconst dR_parted_46 in_1 (L_iadd dR_parted_47 (L_imul dR_parted_48 (L_callVI rfl cv_R_isUnlike (As := [vA 166, vI (w32 (127 * (w32 (x1 + 1))))]) rfl (tk9 235 rfl rfl) rfl (Nat.le_of_ble_eq_true rfl) dR_parted_49 ⟨ob_161, Tri.mono (q5.1 c6) (fun r7 σ7 q7 => L_if_eq dR_parted_52 (by decide) ⟨fun c8 => L_iconst dR_parted_57 in_1 (L_istore_n dR_parted_58 (by decide) (q7.1 c8)), fun c8 => L_iconst dR_parted_55 in_0 (L_ireturn rfl dR_parted_56 (q7.2 c8))⟩)⟩)))))⟩)), fun c6 => L_aload_n dR_parted_31 rfl (L_bipush dR_parted_32 bp_8 in_8 (L_callVI rfl cv_R_refuse (As := [vI 8]) rfl (tk8 117 rfl rfl) rfl (Nat.le_of_ble_eq_true rfl) dR_parted_34 ⟨ob_161, Tri.mono (q5.2 c6) (fun r9 σ9 q9 => L_ireturn rfl dR_parted_37 q9)⟩))⟩)⟩)), fun c4 => L_aload_n dR_parted_17 rfl (L_iconst dR_parted_18 in_2 (L_callVI rfl cv_R_refuse (As := [vI 2]) rfl (tk8 117 rfl rfl) rfl (Nat.le_of_ble_eq_true rfl) dR_parted_19 ⟨ob_161, Tri.mono (q3.2 c4) (fun r10 σ10 q10 => L_ireturn rfl dR_parted_22 q10)⟩))⟩)))⟩))⟩)))
theorem s_R_parted_59 {d : Nat} {x1 x2 : Int} {σ : SG} {Q : Int → SG → Prop} (h : (9 ≤ x2 → Tri d M_R_refuse [vA 161, vI 8] σ (fun r2 σ2 => Q r2 σ2)) ∧ (x2 < 9 → Tri d M_R_askNow [vA 161] σ (fun r3 σ3 => Tri d M_R_markBy [vA 161, vI x2] σ3 (fun r4 σ4 => Tri d M_R_ask [vA 161, vA 166, vI (w32 (127 * (w32 (x1 + 1))))] σ4 (fun r5 σ5 => Tri d M_R_markBy [vA 161, vI x2] σ5 (fun r6 σ6 => (r6 = r4 → L (d + 1) M_R_parted 59 [vA 161, vI x1, vI (w32 (x2 + 1)), vU] [] σ6 Q) ∧ (r6 ≠ r4 → Q x2 σ6))))))) : L (d + 1) M_R_parted 59 [vA 161, vI x1, vI x2, vU] [] σ Q :=
  L_iload_n dR_parted_59 rfl (L_bipush dR_parted_60 bp_9 in_9 (L_icmp_ge dR_parted_62 (by decide) ⟨fun c1 => L_aload_n dR_parted_106 rfl (L_bipush dR_parted_107 bp_8 in_8 (L_callVI rfl cv_R_refuse (As := [vI 8]) rfl (tk8 117 rfl rfl) rfl (Nat.le_of_ble_eq_true rfl) dR_parted_109 ⟨ob_161, Tri.mono (h.1 c1) (fun r2 σ2 q2 => L_ireturn rfl dR_parted_112 q2)⟩)), fun c1 => L_aload_n dR_parted_65 rfl (L_callVV rfl cv_R_askNow (As := []) rfl (tk8 108 rfl rfl) rfl (Nat.le_of_ble_eq_true rfl) dR_parted_66 ⟨ob_161, Tri.mono (h.2 c1) (fun r3 σ3 q3 => L_aload_n dR_parted_69 rfl (L_iload_n dR_parted_70 rfl (L_callVI rfl cv_R_markBy (As := [vI x2]) rfl (tk10 7 rfl rfl) rfl (Nat.le_of_ble_eq_true rfl) dR_parted_71 ⟨ob_161, Tri.mono q3 (fun r4 σ4 q4 => L_istore_n dR_parted_74 (by decide) (L_aload_n dR_parted_75 rfl (L_aload_n dR_parted_76 rfl (L_getF (b := 166) fw_R_35 rfl rfl (by decide) dR_parted_77 ⟨ob_161, L_bipush dR_parted_80 bp_127 in_127 (L_iload_n dR_parted_82 rfl (L_iconst dR_parted_83 in_1 (L_iadd dR_parted_84 (L_imul dR_parted_85 (L_callVV rfl cv_R_ask (As := [vA 166, vI (w32 (127 * (w32 (x1 + 1))))]) rfl (tk8 112 rfl rfl) rfl (Nat.le_of_ble_eq_true rfl) dR_parted_86 ⟨ob_161, Tri.mono q4 (fun r5 σ5 q5 => L_aload_n dR_parted_89 rfl (L_iload_n dR_parted_90 rfl (L_callVI rfl cv_R_markBy (As := [vI x2]) rfl (tk10 7 rfl rfl) rfl (Nat.le_of_ble_eq_true rfl) dR_parted_91 ⟨ob_161, Tri.mono q5 (fun r6 σ6 q6 => L_iload_n dR_parted_94 rfl (L_icmp_eq dR_parted_95 (by decide) ⟨fun c7 => L_iinc dR_parted_100 rfl (by decide) (L_goto dR_parted_103 (by decide) (L_weak [true, true, true, false] (q6.1 c7))), fun c7 => L_iload_n dR_parted_98 rfl (L_ireturn rfl dR_parted_99 (q6.2 c7))⟩))⟩)))⟩)))))⟩))))⟩)))⟩)⟩))
