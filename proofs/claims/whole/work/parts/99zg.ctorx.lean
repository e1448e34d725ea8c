/-! ===== the constructor of the class (written by gen4.py) ===== -/
abbrev M_X_init : MR := (⟨"BracketRoom", "<init>", "()V"⟩, prog_1_method_1_code, 2, none)
theorem ci_X_init : CI M_X_init 0 := ⟨tk1 26 rfl rfl, rfl, tk1 25 rfl rfl, tk1 1 rfl rfl, by decide, rfl, by decide, by decide, by decide +kernel⟩
theorem dX_init_0 : decode prog_1_method_1_code 0 = .ok (.aload_n 0, 1) := by decide +kernel
theorem dX_init_1 : decode prog_1_method_1_code 1 = .ok (.invokespecial 1, 3) := by decide +kernel
theorem dX_init_4 : decode prog_1_method_1_code 4 = .ok (.aload_n 0, 1) := by decide +kernel
theorem dX_init_5 : decode prog_1_method_1_code 5 = .ok (.lconst 1, 1) := by decide +kernel
theorem dX_init_6 : decode prog_1_method_1_code 6 = .ok (.putfield 7, 3) := by decide +kernel
theorem dX_init_9 : decode prog_1_method_1_code 9 = .ok (.aload_n 0, 1) := by decide +kernel
theorem dX_init_10 : decode prog_1_method_1_code 10 = .ok (.iconst (-1), 1) := by decide +kernel
theorem dX_init_11 : decode prog_1_method_1_code 11 = .ok (.putfield 13, 3) := by decide +kernel
theorem dX_init_14 : decode prog_1_method_1_code 14 = .ok (.aload_n 0, 1) := by decide +kernel
theorem dX_init_15 : decode prog_1_method_1_code 15 = .ok (.sipush 240, 3) := by decide +kernel
theorem dX_init_18 : decode prog_1_method_1_code 18 = .ok (.newarray .long, 2) := by decide +kernel
theorem dX_init_20 : decode prog_1_method_1_code 20 = .ok (.putfield 17, 3) := by decide +kernel
theorem dX_init_23 : decode prog_1_method_1_code 23 = .ok (.aload_n 0, 1) := by decide +kernel
theorem dX_init_24 : decode prog_1_method_1_code 24 = .ok (.iconst 4, 1) := by decide +kernel
theorem dX_init_25 : decode prog_1_method_1_code 25 = .ok (.newarray .int, 2) := by decide +kernel
theorem dX_init_27 : decode prog_1_method_1_code 27 = .ok (.putfield 21, 3) := by decide +kernel
theorem dX_init_30 : decode prog_1_method_1_code 30 = .ok (.aload_n 0, 1) := by decide +kernel
theorem dX_init_31 : decode prog_1_method_1_code 31 = .ok (.iconst 4, 1) := by decide +kernel
theorem dX_init_32 : decode prog_1_method_1_code 32 = .ok (.newarray .int, 2) := by decide +kernel
theorem dX_init_34 : decode prog_1_method_1_code 34 = .ok (.putfield 25, 3) := by decide +kernel
theorem dX_init_37 : decode prog_1_method_1_code 37 = .ok (.aload_n 0, 1) := by decide +kernel
theorem dX_init_38 : decode prog_1_method_1_code 38 = .ok (.bipush 25, 2) := by decide +kernel
theorem dX_init_40 : decode prog_1_method_1_code 40 = .ok (.newarray .int, 2) := by decide +kernel
theorem dX_init_42 : decode prog_1_method_1_code 42 = .ok (.putfield 28, 3) := by decide +kernel
theorem dX_init_45 : decode prog_1_method_1_code 45 = .ok (.aload_n 0, 1) := by decide +kernel
theorem dX_init_46 : decode prog_1_method_1_code 46 = .ok (.iconst 5, 1) := by decide +kernel
theorem dX_init_47 : decode prog_1_method_1_code 47 = .ok (.newarray .int, 2) := by decide +kernel
theorem dX_init_49 : decode prog_1_method_1_code 49 = .ok (.putfield 31, 3) := by decide +kernel
theorem dX_init_52 : decode prog_1_method_1_code 52 = .ok (.aload_n 0, 1) := by decide +kernel
theorem dX_init_53 : decode prog_1_method_1_code 53 = .ok (.new 34, 3) := by decide +kernel
theorem dX_init_56 : decode prog_1_method_1_code 56 = .ok (.dup, 1) := by decide +kernel
theorem dX_init_57 : decode prog_1_method_1_code 57 = .ok (.invokespecial 36, 3) := by decide +kernel
theorem dX_init_60 : decode prog_1_method_1_code 60 = .ok (.putfield 37, 3) := by decide +kernel
theorem dX_init_63 : decode prog_1_method_1_code 63 = .ok (.aload_n 0, 1) := by decide +kernel
theorem dX_init_64 : decode prog_1_method_1_code 64 = .ok (.iconst 3, 1) := by decide +kernel
theorem dX_init_65 : decode prog_1_method_1_code 65 = .ok (.anewarray 34, 3) := by decide +kernel
theorem dX_init_68 : decode prog_1_method_1_code 68 = .ok (.putfield 41, 3) := by decide +kernel
theorem dX_init_71 : decode prog_1_method_1_code 71 = .ok (.aload_n 0, 1) := by decide +kernel
theorem dX_init_72 : decode prog_1_method_1_code 72 = .ok (.new 45, 3) := by decide +kernel
theorem dX_init_75 : decode prog_1_method_1_code 75 = .ok (.dup, 1) := by decide +kernel
theorem dX_init_76 : decode prog_1_method_1_code 76 = .ok (.invokespecial 47, 3) := by decide +kernel
theorem dX_init_79 : decode prog_1_method_1_code 79 = .ok (.putfield 48, 3) := by decide +kernel
theorem dX_init_82 : decode prog_1_method_1_code 82 = .ok (.aload_n 0, 1) := by decide +kernel
theorem dX_init_83 : decode prog_1_method_1_code 83 = .ok (.new 34, 3) := by decide +kernel
theorem dX_init_86 : decode prog_1_method_1_code 86 = .ok (.dup, 1) := by decide +kernel
theorem dX_init_87 : decode prog_1_method_1_code 87 = .ok (.invokespecial 36, 3) := by decide +kernel
theorem dX_init_90 : decode prog_1_method_1_code 90 = .ok (.putfield 52, 3) := by decide +kernel
theorem dX_init_93 : decode prog_1_method_1_code 93 = .ok (.aload_n 0, 1) := by decide +kernel
theorem dX_init_94 : decode prog_1_method_1_code 94 = .ok (.new 55, 3) := by decide +kernel
theorem dX_init_97 : decode prog_1_method_1_code 97 = .ok (.dup, 1) := by decide +kernel
theorem dX_init_98 : decode prog_1_method_1_code 98 = .ok (.iconst 5, 1) := by decide +kernel
theorem dX_init_99 : decode prog_1_method_1_code 99 = .ok (.invokespecial 57, 3) := by decide +kernel
theorem dX_init_102 : decode prog_1_method_1_code 102 = .ok (.putfield 60, 3) := by decide +kernel
theorem dX_init_105 : decode prog_1_method_1_code 105 = .ok (.aload_n 0, 1) := by decide +kernel
theorem dX_init_106 : decode prog_1_method_1_code 106 = .ok (.new 64, 3) := by decide +kernel
theorem dX_init_109 : decode prog_1_method_1_code 109 = .ok (.dup, 1) := by decide +kernel
theorem dX_init_110 : decode prog_1_method_1_code 110 = .ok (.invokespecial 66, 3) := by decide +kernel
theorem dX_init_113 : decode prog_1_method_1_code 113 = .ok (.putfield 67, 3) := by decide +kernel
theorem dX_init_116 : decode prog_1_method_1_code 116 = .ok (.aload_n 0, 1) := by decide +kernel
theorem dX_init_117 : decode prog_1_method_1_code 117 = .ok (.new 71, 3) := by decide +kernel
theorem dX_init_120 : decode prog_1_method_1_code 120 = .ok (.dup, 1) := by decide +kernel
theorem dX_init_121 : decode prog_1_method_1_code 121 = .ok (.invokespecial 73, 3) := by decide +kernel
theorem dX_init_124 : decode prog_1_method_1_code 124 = .ok (.putfield 74, 3) := by decide +kernel
theorem dX_init_127 : decode prog_1_method_1_code 127 = .ok (.aload_n 0, 1) := by decide +kernel
theorem dX_init_128 : decode prog_1_method_1_code 128 = .ok (.new 78, 3) := by decide +kernel
theorem dX_init_131 : decode prog_1_method_1_code 131 = .ok (.dup, 1) := by decide +kernel
theorem dX_init_132 : decode prog_1_method_1_code 132 = .ok (.invokespecial 80, 3) := by decide +kernel
theorem dX_init_135 : decode prog_1_method_1_code 135 = .ok (.putfield 81, 3) := by decide +kernel
theorem dX_init_138 : decode prog_1_method_1_code 138 = .ok (.aload_n 0, 1) := by decide +kernel
theorem dX_init_139 : decode prog_1_method_1_code 139 = .ok (.new 85, 3) := by decide +kernel
theorem dX_init_142 : decode prog_1_method_1_code 142 = .ok (.dup, 1) := by decide +kernel
theorem dX_init_143 : decode prog_1_method_1_code 143 = .ok (.invokespecial 87, 3) := by decide +kernel
theorem dX_init_146 : decode prog_1_method_1_code 146 = .ok (.putfield 88, 3) := by decide +kernel
theorem dX_init_149 : decode prog_1_method_1_code 149 = .ok (.aload_n 0, 1) := by decide +kernel
theorem dX_init_150 : decode prog_1_method_1_code 150 = .ok (.new 92, 3) := by decide +kernel
theorem dX_init_153 : decode prog_1_method_1_code 153 = .ok (.dup, 1) := by decide +kernel
theorem dX_init_154 : decode prog_1_method_1_code 154 = .ok (.invokespecial 94, 3) := by decide +kernel
theorem dX_init_157 : decode prog_1_method_1_code 157 = .ok (.putfield 95, 3) := by decide +kernel
theorem dX_init_160 : decode prog_1_method_1_code 160 = .ok (.aload_n 0, 1) := by decide +kernel
theorem dX_init_161 : decode prog_1_method_1_code 161 = .ok (.getfield 25, 3) := by decide +kernel
theorem dX_init_164 : decode prog_1_method_1_code 164 = .ok (.iconst (-1), 1) := by decide +kernel
theorem dX_init_165 : decode prog_1_method_1_code 165 = .ok (.invokestatic 99, 3) := by decide +kernel
theorem dX_init_168 : decode prog_1_method_1_code 168 = .ok (.iconst 0, 1) := by decide +kernel
theorem dX_init_169 : decode prog_1_method_1_code 169 = .ok (.istore_n 1, 1) := by decide +kernel
theorem dX_init_170 : decode prog_1_method_1_code 170 = .ok (.iload_n 1, 1) := by decide +kernel
theorem dX_init_171 : decode prog_1_method_1_code 171 = .ok (.iconst 3, 1) := by decide +kernel
theorem dX_init_172 : decode prog_1_method_1_code 172 = .ok (.if_icmp .ge 22, 3) := by decide +kernel
theorem dX_init_175 : decode prog_1_method_1_code 175 = .ok (.aload_n 0, 1) := by decide +kernel
theorem dX_init_176 : decode prog_1_method_1_code 176 = .ok (.getfield 41, 3) := by decide +kernel
theorem dX_init_179 : decode prog_1_method_1_code 179 = .ok (.iload_n 1, 1) := by decide +kernel
theorem dX_init_180 : decode prog_1_method_1_code 180 = .ok (.new 34, 3) := by decide +kernel
theorem dX_init_183 : decode prog_1_method_1_code 183 = .ok (.dup, 1) := by decide +kernel
theorem dX_init_184 : decode prog_1_method_1_code 184 = .ok (.invokespecial 36, 3) := by decide +kernel
theorem dX_init_187 : decode prog_1_method_1_code 187 = .ok (.aastore, 1) := by decide +kernel
theorem dX_init_188 : decode prog_1_method_1_code 188 = .ok (.iinc 1 1, 3) := by decide +kernel
theorem dX_init_191 : decode prog_1_method_1_code 191 = .ok (.goto (-21), 3) := by decide +kernel
theorem dX_init_194 : decode prog_1_method_1_code 194 = .ok (.return_, 1) := by decide +kernel
theorem gw_X_7 : FW "BracketRoom" 7 11 2 := ⟨_, _, _, rfl, by decide, rfl, tk2 167 rfl rfl⟩
theorem gw_X_13 : FW "BracketRoom" 13 11 3 := ⟨_, _, _, rfl, by decide, rfl, tk2 168 rfl rfl⟩
theorem gw_X_17 : FW "BracketRoom" 17 11 5 := ⟨_, _, _, rfl, by decide, rfl, tk2 170 rfl rfl⟩
theorem gw_X_21 : FW "BracketRoom" 21 11 6 := ⟨_, _, _, rfl, by decide, rfl, tk2 171 rfl rfl⟩
theorem gw_X_25 : FW "BracketRoom" 25 11 7 := ⟨_, _, _, rfl, by decide, rfl, tk2 172 rfl rfl⟩
theorem gw_X_28 : FW "BracketRoom" 28 11 8 := ⟨_, _, _, rfl, by decide, rfl, tk2 173 rfl rfl⟩
theorem gw_X_31 : FW "BracketRoom" 31 11 9 := ⟨_, _, _, rfl, by decide, rfl, tk2 174 rfl rfl⟩
theorem gw_X_37 : FW "BracketRoom" 37 11 10 := ⟨_, _, _, rfl, by decide, rfl, tk2 175 rfl rfl⟩
theorem gw_X_41 : FW "BracketRoom" 41 11 11 := ⟨_, _, _, rfl, by decide, rfl, tk2 176 rfl rfl⟩
theorem gw_X_48 : FW "BracketRoom" 48 11 12 := ⟨_, _, _, rfl, by decide, rfl, tk2 177 rfl rfl⟩
theorem gw_X_52 : FW "BracketRoom" 52 11 13 := ⟨_, _, _, rfl, by decide, rfl, tk2 178 rfl rfl⟩
theorem gw_X_60 : FW "BracketRoom" 60 11 14 := ⟨_, _, _, rfl, by decide, rfl, tk2 179 rfl rfl⟩
theorem gw_X_67 : FW "BracketRoom" 67 11 15 := ⟨_, _, _, rfl, by decide, rfl, tk2 180 rfl rfl⟩
theorem gw_X_74 : FW "BracketRoom" 74 11 16 := ⟨_, _, _, rfl, by decide, rfl, tk2 181 rfl rfl⟩
theorem gw_X_81 : FW "BracketRoom" 81 11 17 := ⟨_, _, _, rfl, by decide, rfl, tk2 182 rfl rfl⟩
theorem gw_X_88 : FW "BracketRoom" 88 11 18 := ⟨_, _, _, rfl, by decide, rfl, tk2 183 rfl rfl⟩
theorem gw_X_95 : FW "BracketRoom" 95 11 19 := ⟨_, _, _, rfl, by decide, rfl, tk2 184 rfl rfl⟩
theorem n_Room {d a : Nat} {σ : SG} {Q : SG → Prop} (ha : a = 0) (hk : kds a [(11, 20), (101, 240), (100, 4), (100, 4), (100, 25), (100, 5), (1, 3), (10, 4), (100, 125), (105, 4), (6, 6), (100, 360), (100, 3), (10, 4), (100, 125), (10, 4), (100, 125), (10, 4), (100, 125), (10, 4), (100, 125), (104, 3), (8, 9), (102, 600), (1, 3), (10, 4), (100, 125), (105, 4), (6, 6), (100, 360), (100, 3), (10, 4), (100, 125), (10, 4), (100, 125), (10, 4), (100, 125), (10, 4), (100, 125), (2, 7), (100, 25), (100, 5), (0, 9), (2, 7), (100, 25), (100, 5), (2, 7), (100, 25), (100, 5), (2, 7), (100, 25), (100, 5), (2, 7), (100, 25), (100, 5), (2, 7), (100, 25), (100, 5), (2, 7), (100, 25), (100, 5), (7, 7), (2, 7), (100, 25), (100, 5), (100, 25), (100, 5), (100, 25), (4, 7), (2, 7), (100, 625), (100, 25), (100, 25), (100, 25), (100, 25), (100, 25), (100, 5), (100, 32), (3, 11), (100, 25), (100, 125), (100, 25), (100, 5), (106, 5), (10, 4), (100, 125), (10, 4), (100, 125), (100, 512), (2, 7), (100, 25), (100, 5), (2, 7), (100, 25), (100, 5), (2, 7), (100, 25), (100, 5), (2, 7), (100, 25), (100, 5), (2, 7), (100, 25), (100, 5), (9, 6), (10, 4), (100, 125), (2, 7), (100, 625), (100, 25), (100, 25), (100, 10), (100, 5), (100, 5), (5, 5), (100, 60), (1, 3), (10, 4), (100, 125), (105, 4), (6, 6), (100, 360), (100, 3), (10, 4), (100, 125), (10, 4), (100, 125), (10, 4), (100, 125), (10, 4), (100, 125), (1, 3), (10, 4), (100, 125), (105, 4), (6, 6), (100, 360), (100, 3), (10, 4), (100, 125), (10, 4), (100, 125), (10, 4), (100, 125), (10, 4), (100, 125), (1, 3), (10, 4), (100, 125), (105, 4), (6, 6), (100, 360), (100, 3), (10, 4), (100, 125), (10, 4), (100, 125), (10, 4), (100, 125), (10, 4), (100, 125)]) (h : Q (pat σ a (a + 161))) : TN (d + 4) (a + 1) (a + 161) M_X_init [vA a] (bl σ a) Q := by
  have hlt := hk.lt 160 rfl (by decide)
  refine TN_intro (ls := [vA (a : Int), vU]) rfl (Nat.le_of_ble_eq_true rfl) rfl ?_
  refine LN_aload_n dX_init_0 rfl (by omega) ?_
  refine LN_objInit (tk1 27 rfl rfl) (by omega) (Nat.le_of_ble_eq_true rfl) dX_init_1 ?_
  refine LN_aload_n dX_init_4 rfl (by omega) ?_
  refine LN_lconst (x := 1) dX_init_5 rfl ⟨by decide, by decide⟩ ?_
  refine LN_putf gw_X_7 rfl rfl (t := 1) rfl (fun _ => ⟨rfl, rfl⟩) (ob_k (hk.at 0 rfl)) (by omega) dX_init_6 ?_
  refine LN_aload_n dX_init_9 rfl (by omega) ?_
  refine LN_iconst dX_init_10 ⟨by decide, by decide⟩ ?_
  refine LN_putf gw_X_13 rfl rfl (t := 0) rfl (fun _ => ⟨rfl, rfl⟩) (ob_k (hk.at 0 rfl)) (by omega) dX_init_11 ?_
  refine LN_aload_n dX_init_14 rfl (by omega) ?_
  refine LN_sipush dX_init_15 (by decide) ⟨by decide, by decide⟩ ?_
  refine LN_newA (t := 101) (N := 240) (by decide) rfl (hk.at 1 rfl) rfl (by decide) (by omega) dX_init_18 ?_
  refine LN_putf gw_X_17 rfl rfl (t := 2) rfl fit_ra (ob_k (hk.at 0 rfl)) (by omega) dX_init_20 ?_
  refine LN_aload_n dX_init_23 rfl (by omega) ?_
  refine LN_iconst dX_init_24 ⟨by decide, by decide⟩ ?_
  refine LN_newA (t := 100) (N := 4) (by decide) rfl (hk.at 2 rfl) rfl (by decide) (by omega) dX_init_25 ?_
  refine LN_putf gw_X_21 rfl rfl (t := 2) rfl fit_ra (ob_k (hk.at 0 rfl)) (by omega) dX_init_27 ?_
  refine LN_aload_n dX_init_30 rfl (by omega) ?_
  refine LN_iconst dX_init_31 ⟨by decide, by decide⟩ ?_
  refine LN_newA (t := 100) (N := 4) (by decide) rfl (hk.at 3 rfl) rfl (by decide) (by omega) dX_init_32 ?_
  refine LN_putf gw_X_25 rfl rfl (t := 2) rfl fit_ra (ob_k (hk.at 0 rfl)) (by omega) dX_init_34 ?_
  refine LN_aload_n dX_init_37 rfl (by omega) ?_
  refine LN_bipush dX_init_38 (by decide) ⟨by decide, by decide⟩ ?_
  refine LN_newA (t := 100) (N := 25) (by decide) rfl (hk.at 4 rfl) rfl (by decide) (by omega) dX_init_40 ?_
  refine LN_putf gw_X_28 rfl rfl (t := 2) rfl fit_ra (ob_k (hk.at 0 rfl)) (by omega) dX_init_42 ?_
  refine LN_aload_n dX_init_45 rfl (by omega) ?_
  refine LN_iconst dX_init_46 ⟨by decide, by decide⟩ ?_
  refine LN_newA (t := 100) (N := 5) (by decide) rfl (hk.at 5 rfl) rfl (by decide) (by omega) dX_init_47 ?_
  refine LN_putf gw_X_31 rfl rfl (t := 2) rfl fit_ra (ob_k (hk.at 0 rfl)) (by omega) dX_init_49 ?_
  refine LN_aload_n dX_init_52 rfl (by omega) ?_
  refine LN_new (ci := 1) rfl (hk.at 6 rfl) (by omega) (tk1 30 rfl rfl) (tk1 31 rfl rfl) (tk1 2 rfl rfl) dX_init_53 ?_
  refine LN_dup dX_init_56 n21 ?_
  refine LN_callI (N := M_De_init) (n' := a + 21) (As := []) ci_De_init rfl (Or.inl (tk1 32 rfl rfl)) rfl (by omega) (by omega) (by omega) (Nat.le_of_ble_eq_true rfl) dX_init_57 (n_Desk (a := a + 6) (hk.sub 6 15 rfl) ?_)
  refine LN_putf gw_X_37 rfl rfl (t := 2) rfl fit_ro (ob_k (hk.at 0 rfl)) (by omega) dX_init_60 ?_
  refine LN_aload_n dX_init_63 rfl (by omega) ?_
  refine LN_iconst dX_init_64 ⟨by decide, by decide⟩ ?_
  refine LN_newQ (C0 := 4) (N := 3) (C := "BracketRoom$Desk") (fun g => rfl) (by decide) (by decide) (hk.at 21 rfl) rfl (by decide) (by omega) (tk1 30 rfl rfl) dX_init_65 ?_
  refine LN_putf gw_X_41 rfl rfl (t := 2) rfl fit_ra (ob_k (hk.at 0 rfl)) (by omega) dX_init_68 ?_
  refine LN_aload_n dX_init_71 rfl (by omega) ?_
  refine LN_new (ci := 8) rfl (hk.at 22 rfl) (by omega) (tk1 118 rfl rfl) (tk1 119 rfl rfl) (tk1 5 rfl rfl) dX_init_72 ?_
  refine LN_dup dX_init_75 n21 ?_
  refine LN_callI (N := M_To_init) (n' := a + 24) (As := []) ci_To_init rfl (Or.inr (by decide +kernel)) rfl (by omega) (by omega) (by omega) (Nat.le_of_ble_eq_true rfl) dX_init_76 (n_Tokens (a := a + 22) (hk.sub 22 2 rfl) ?_)
  refine LN_putf gw_X_48 rfl rfl (t := 2) rfl fit_ro (ob_k (hk.at 0 rfl)) (by omega) dX_init_79 ?_
  refine LN_aload_n dX_init_82 rfl (by omega) ?_
  refine LN_new (ci := 1) rfl (hk.at 24 rfl) (by omega) (tk1 30 rfl rfl) (tk1 31 rfl rfl) (tk1 2 rfl rfl) dX_init_83 ?_
  refine LN_dup dX_init_86 n21 ?_
  refine LN_callI (N := M_De_init) (n' := a + 39) (As := []) ci_De_init rfl (Or.inl (tk1 32 rfl rfl)) rfl (by omega) (by omega) (by omega) (Nat.le_of_ble_eq_true rfl) dX_init_87 (n_Desk (a := a + 24) (hk.sub 24 15 rfl) ?_)
  refine LN_putf gw_X_52 rfl rfl (t := 2) rfl fit_ro (ob_k (hk.at 0 rfl)) (by omega) dX_init_90 ?_
  refine LN_aload_n dX_init_93 rfl (by omega) ?_
  refine LN_new (ci := 2) rfl (hk.at 39 rfl) (by omega) (tk1 158 rfl rfl) (tk1 159 rfl rfl) (tk1 6 rfl rfl) dX_init_94 ?_
  refine LN_dup dX_init_97 n21 ?_
  refine LN_iconst dX_init_98 ⟨by decide, by decide⟩ ?_
  refine LN_callI (N := M_Ec_init) (n' := a + 42) (As := [vI 5]) ci_Ec_init rfl (Or.inl (tk1 160 rfl rfl)) rfl (by omega) (by omega) (by omega) (Nat.le_of_ble_eq_true rfl) dX_init_99 (n_Ech5 (a := a + 39) (hk.sub 39 3 rfl) ?_)
  refine LN_putf gw_X_60 rfl rfl (t := 2) rfl fit_ro (ob_k (hk.at 0 rfl)) (by omega) dX_init_102 ?_
  refine LN_aload_n dX_init_105 rfl (by omega) ?_
  refine LN_new (ci := 0) rfl (hk.at 42 rfl) (by omega) (tk1 202 rfl rfl) (tk1 203 rfl rfl) (tk1 8 rfl rfl) dX_init_106 ?_
  refine LN_dup dX_init_109 n21 ?_
  refine LN_callI (N := M_An_init) (n' := a + 68) (As := []) ci_An_init rfl (Or.inr (by decide +kernel)) rfl (by omega) (by omega) (by omega) (Nat.le_of_ble_eq_true rfl) dX_init_110 (n_Anatomy (a := a + 42) (hk.sub 42 26 rfl) ?_)
  refine LN_putf gw_X_67 rfl rfl (t := 2) rfl fit_ro (ob_k (hk.at 0 rfl)) (by omega) dX_init_113 ?_
  refine LN_aload_n dX_init_116 rfl (by omega) ?_
  refine LN_new (ci := 4) rfl (hk.at 68 rfl) (by omega) (tk2 29 rfl rfl) (tk2 30 rfl rfl) (tk1 10 rfl rfl) dX_init_117 ?_
  refine LN_dup dX_init_120 n21 ?_
  refine LN_callI (N := M_Me_init) (n' := a + 78) (As := []) ci_Me_init rfl (Or.inr (by decide +kernel)) rfl (by omega) (by omega) (by omega) (Nat.le_of_ble_eq_true rfl) dX_init_121 (n_Measures (a := a + 68) (hk.sub 68 10 rfl) ?_)
  refine LN_putf gw_X_74 rfl rfl (t := 2) rfl fit_ro (ob_k (hk.at 0 rfl)) (by omega) dX_init_124 ?_
  refine LN_aload_n dX_init_127 rfl (by omega) ?_
  refine LN_new (ci := 3) rfl (hk.at 78 rfl) (by omega) (tk2 59 rfl rfl) (tk2 60 rfl rfl) (tk1 11 rfl rfl) dX_init_128 ?_
  refine LN_dup dX_init_131 n21 ?_
  refine LN_callI (N := M_Ma_init) (n' := a + 104) (As := []) ci_Ma_init rfl (Or.inl (tk2 61 rfl rfl)) rfl (by omega) (by omega) (by omega) (Nat.le_of_ble_eq_true rfl) dX_init_132 (n_MapSearch (a := a + 78) (hk.sub 78 26 rfl) ?_)
  refine LN_putf gw_X_81 rfl rfl (t := 2) rfl fit_ro (ob_k (hk.at 0 rfl)) (by omega) dX_init_135 ?_
  refine LN_aload_n dX_init_138 rfl (by omega) ?_
  refine LN_new (ci := 9) rfl (hk.at 104 rfl) (by omega) (tk2 107 rfl rfl) (tk2 108 rfl rfl) (tk1 12 rfl rfl) dX_init_139 ?_
  refine LN_dup dX_init_142 n21 ?_
  refine LN_callI (N := M_Wo_init) (n' := a + 114) (As := []) ci_Wo_init rfl (Or.inr (by decide +kernel)) rfl (by omega) (by omega) (by omega) (Nat.le_of_ble_eq_true rfl) dX_init_143 (n_Workshop (a := a + 104) (hk.sub 104 10 rfl) ?_)
  refine LN_putf gw_X_88 rfl rfl (t := 2) rfl fit_ro (ob_k (hk.at 0 rfl)) (by omega) dX_init_146 ?_
  refine LN_aload_n dX_init_149 rfl (by omega) ?_
  refine LN_new (ci := 5) rfl (hk.at 114 rfl) (by omega) (tk2 136 rfl rfl) (tk2 137 rfl rfl) (tk1 13 rfl rfl) dX_init_150 ?_
  refine LN_dup dX_init_153 n21 ?_
  refine LN_callI (N := M_Ru_init) (n' := a + 116) (As := []) ci_Ru_init rfl (Or.inr (by decide +kernel)) rfl (by omega) (by omega) (by omega) (Nat.le_of_ble_eq_true rfl) dX_init_154 (n_Runner (a := a + 114) (hk.sub 114 2 rfl) ?_)
  refine LN_putf gw_X_95 rfl rfl (t := 2) rfl fit_ro (ob_k (hk.at 0 rfl)) (by omega) dX_init_157 ?_
  refine LN_aload_n dX_init_160 rfl (by omega) ?_
  refine LN_getf (x := ((a + 3 : Nat) : Int)) gw_X_25 (t := 2) rfl (by (repeat (first | rw [up_ne (by omega)] | rw [bl_ne (by omega)] | rw [pat_out (by omega)])); exact up_at (by omega) (by omega)) trivial (ob_k (hk.at 0 rfl)) (by omega) dX_init_161 ?_
  refine LN_iconst dX_init_164 ⟨by decide, by decide⟩ ?_
  refine LN_callS (N := M_JA_fill___II_V) (As := [vA ((a + 3 : Nat) : Int), vI (-1)]) cs_JA_fill___II_V rfl rfl (tk2 162 rfl rfl) rfl (by omega) (Nat.le_of_ble_eq_true rfl) dX_init_165 (n_fill4 (by rw [kd_nat]; exact (hk.at 3 rfl)) (by omega) (by omega) (by omega) ?_)
  refine LN_iconst dX_init_168 ⟨by decide, by decide⟩ ?_
  refine LN_istore_n dX_init_169 (by decide) ?_
  refine LN_iload_n dX_init_170 rfl ?_
  refine LN_iconst dX_init_171 ⟨by decide, by decide⟩ ?_
  refine LN_icmp_ge (tgt := 194) dX_init_172 (by omega) ⟨fun q => absurd q (by decide), fun _ => ?_⟩
  refine LN_aload_n dX_init_175 rfl (by omega) ?_
  refine LN_getf (x := ((a + 21 : Nat) : Int)) gw_X_41 (t := 2) rfl (by (repeat (first | rw [up_ne (by omega)] | rw [bl_ne (by omega)] | rw [pat_out (by omega)])); exact up_at (by omega) (by omega)) trivial (ob_k (hk.at 0 rfl)) (by omega) dX_init_176 ?_
  refine LN_iload_n dX_init_179 rfl ?_
  refine LN_new (ci := 1) rfl (hk.at 116 rfl) (by omega) (tk1 30 rfl rfl) (tk1 31 rfl rfl) (tk1 2 rfl rfl) dX_init_180 ?_
  refine LN_dup dX_init_183 n21 ?_
  refine LN_callI (N := M_De_init) (n' := a + 131) (As := []) ci_De_init rfl (Or.inl (tk1 32 rfl rfl)) rfl (by omega) (by omega) (by omega) (Nat.le_of_ble_eq_true rfl) dX_init_184 (n_Desk (a := a + 116) (hk.sub 116 15 rfl) ?_)
  refine LN_aastore (C0 := 4) (ci := 1) (fun g => rfl) (by decide) rfl (wr_k (hk.at 21 rfl) ⟨by decide, by decide⟩) (by omega) (ob_k (hk.at 116 rfl)) (by omega) dX_init_187 ?_
  refine LN_iincC (x' := 1) dX_init_188 rfl (by decide) (by decide) ?_
  refine LN_goto (tgt := 170) dX_init_191 (by omega) ?_
  refine LN_iload_n dX_init_170 rfl ?_
  refine LN_iconst dX_init_171 ⟨by decide, by decide⟩ ?_
  refine LN_icmp_ge (tgt := 194) dX_init_172 (by omega) ⟨fun q => absurd q (by decide), fun _ => ?_⟩
  refine LN_aload_n dX_init_175 rfl (by omega) ?_
  refine LN_getf (x := ((a + 21 : Nat) : Int)) gw_X_41 (t := 2) rfl (by (repeat (first | rw [up_ne (by omega)] | rw [bl_ne (by omega)] | rw [pat_out (by omega)])); exact up_at (by omega) (by omega)) trivial (ob_k (hk.at 0 rfl)) (by omega) dX_init_176 ?_
  refine LN_iload_n dX_init_179 rfl ?_
  refine LN_new (ci := 1) rfl (hk.at 131 rfl) (by omega) (tk1 30 rfl rfl) (tk1 31 rfl rfl) (tk1 2 rfl rfl) dX_init_180 ?_
  refine LN_dup dX_init_183 n21 ?_
  refine LN_callI (N := M_De_init) (n' := a + 146) (As := []) ci_De_init rfl (Or.inl (tk1 32 rfl rfl)) rfl (by omega) (by omega) (by omega) (Nat.le_of_ble_eq_true rfl) dX_init_184 (n_Desk (a := a + 131) (hk.sub 131 15 rfl) ?_)
  refine LN_aastore (C0 := 4) (ci := 1) (fun g => rfl) (by decide) rfl (wr_k (hk.at 21 rfl) ⟨by decide, by decide⟩) (by omega) (ob_k (hk.at 131 rfl)) (by omega) dX_init_187 ?_
  refine LN_iincC (x' := 2) dX_init_188 rfl (by decide) (by decide) ?_
  refine LN_goto (tgt := 170) dX_init_191 (by omega) ?_
  refine LN_iload_n dX_init_170 rfl ?_
  refine LN_iconst dX_init_171 ⟨by decide, by decide⟩ ?_
  refine LN_icmp_ge (tgt := 194) dX_init_172 (by omega) ⟨fun q => absurd q (by decide), fun _ => ?_⟩
  refine LN_aload_n dX_init_175 rfl (by omega) ?_
  refine LN_getf (x := ((a + 21 : Nat) : Int)) gw_X_41 (t := 2) rfl (by (repeat (first | rw [up_ne (by omega)] | rw [bl_ne (by omega)] | rw [pat_out (by omega)])); exact up_at (by omega) (by omega)) trivial (ob_k (hk.at 0 rfl)) (by omega) dX_init_176 ?_
  refine LN_iload_n dX_init_179 rfl ?_
  refine LN_new (ci := 1) rfl (hk.at 146 rfl) (by omega) (tk1 30 rfl rfl) (tk1 31 rfl rfl) (tk1 2 rfl rfl) dX_init_180 ?_
  refine LN_dup dX_init_183 n21 ?_
  refine LN_callI (N := M_De_init) (n' := a + 161) (As := []) ci_De_init rfl (Or.inl (tk1 32 rfl rfl)) rfl (by omega) (by omega) (by omega) (Nat.le_of_ble_eq_true rfl) dX_init_184 (n_Desk (a := a + 146) (hk.sub 146 15 rfl) ?_)
  refine LN_aastore (C0 := 4) (ci := 1) (fun g => rfl) (by decide) rfl (wr_k (hk.at 21 rfl) ⟨by decide, by decide⟩) (by omega) (ob_k (hk.at 146 rfl)) (by omega) dX_init_187 ?_
  refine LN_iincC (x' := 3) dX_init_188 rfl (by decide) (by decide) ?_
  refine LN_goto (tgt := 170) dX_init_191 (by omega) ?_
  refine LN_iload_n dX_init_170 rfl ?_
  refine LN_iconst dX_init_171 ⟨by decide, by decide⟩ ?_
  refine LN_icmp_ge (tgt := 194) dX_init_172 (by omega) ⟨fun _ => ?_, fun q => absurd q (by decide)⟩
  refine LN_return (σ' := pat σ a (a + 161)) (by omega) rfl dX_init_194 (fun b hb j hj => ?_) h
  rcases (show b < a ∨ b = a ∨ b = a + 1 ∨ b = a + 2 ∨ b = a + 3 ∨ b = a + 4 ∨ b = a + 5 ∨ b = a + 21 ∨ (a + 6 ≤ b ∧ b < a + 21) ∨ (a + 22 ≤ b ∧ b < a + 24) ∨ (a + 24 ≤ b ∧ b < a + 39) ∨ (a + 39 ≤ b ∧ b < a + 42) ∨ (a + 42 ≤ b ∧ b < a + 68) ∨ (a + 68 ≤ b ∧ b < a + 78) ∨ (a + 78 ≤ b ∧ b < a + 104) ∨ (a + 104 ≤ b ∧ b < a + 114) ∨ (a + 114 ≤ b ∧ b < a + 116) ∨ (a + 116 ≤ b ∧ b < a + 131) ∨ (a + 131 ≤ b ∧ b < a + 146) ∨ (a + 146 ≤ b ∧ b < a + 161) by omega) with q | q | q | q | q | q | q | q | q | q | q | q | q | q | q | q | q | q | q | q
  · (repeat (first | rw [up_ne (by omega)] | rw [bl_ne (by omega)] | rw [pat_out (by omega)]))
  · subst q
    have hkj := (hk.at0 rfl)
    rw [hkj] at hj; simp only at hj
    rcases (show j = 0 ∨ j = 1 ∨ j = 2 ∨ j = 3 ∨ j = 4 ∨ j = 5 ∨ j = 6 ∨ j = 7 ∨ j = 8 ∨ j = 9 ∨ j = 10 ∨ j = 11 ∨ j = 12 ∨ j = 13 ∨ j = 14 ∨ j = 15 ∨ j = 16 ∨ j = 17 ∨ j = 18 ∨ j = 19 by omega) with rfl | rfl | rfl | rfl | rfl | rfl | rfl | rfl | rfl | rfl | rfl | rfl | rfl | rfl | rfl | rfl | rfl | rfl | rfl | rfl
    · (repeat (first | rw [up_ne (by omega)] | rw [bl_ne (by omega)] | rw [pat_out (by omega)])); rw [pat_in (by omega)]; exact s0_bl hkj (by decide) rfl (Or.inr rfl)
    · (repeat (first | rw [up_ne (by omega)] | rw [bl_ne (by omega)] | rw [pat_out (by omega)])); rw [pat_in (by omega)]; exact s0_bl hkj (by decide) rfl (Or.inr rfl)
    · (repeat (first | rw [up_ne (by omega)] | rw [bl_ne (by omega)] | rw [pat_out (by omega)])); rw [up_at (by omega) (by omega), pat_in (by omega)]; exact s0_c hkj (by decide) rfl (by decide) rfl
    · (repeat (first | rw [up_ne (by omega)] | rw [bl_ne (by omega)] | rw [pat_out (by omega)])); rw [up_at (by omega) (by omega), pat_in (by omega)]; exact s0_c hkj (by decide) rfl (by decide) rfl
    · (repeat (first | rw [up_ne (by omega)] | rw [bl_ne (by omega)] | rw [pat_out (by omega)])); rw [pat_in (by omega)]; exact s0_bl hkj (by decide) rfl (Or.inr rfl)
    · (repeat (first | rw [up_ne (by omega)] | rw [bl_ne (by omega)] | rw [pat_out (by omega)])); rw [up_at (by omega) (by omega), pat_in (by omega)]; exact s0_fo hkj (by decide) (o := 1) rfl (by omega)
    · (repeat (first | rw [up_ne (by omega)] | rw [bl_ne (by omega)] | rw [pat_out (by omega)])); rw [up_at (by omega) (by omega), pat_in (by omega)]; exact s0_fo hkj (by decide) (o := 2) rfl (by omega)
    · (repeat (first | rw [up_ne (by omega)] | rw [bl_ne (by omega)] | rw [pat_out (by omega)])); rw [up_at (by omega) (by omega), pat_in (by omega)]; exact s0_fo hkj (by decide) (o := 3) rfl (by omega)
    · (repeat (first | rw [up_ne (by omega)] | rw [bl_ne (by omega)] | rw [pat_out (by omega)])); rw [up_at (by omega) (by omega), pat_in (by omega)]; exact s0_fo hkj (by decide) (o := 4) rfl (by omega)
    · (repeat (first | rw [up_ne (by omega)] | rw [bl_ne (by omega)] | rw [pat_out (by omega)])); rw [up_at (by omega) (by omega), pat_in (by omega)]; exact s0_fo hkj (by decide) (o := 5) rfl (by omega)
    · (repeat (first | rw [up_ne (by omega)] | rw [bl_ne (by omega)] | rw [pat_out (by omega)])); rw [up_at (by omega) (by omega), pat_in (by omega)]; exact s0_fo hkj (by decide) (o := 6) rfl (by omega)
    · (repeat (first | rw [up_ne (by omega)] | rw [bl_ne (by omega)] | rw [pat_out (by omega)])); rw [up_at (by omega) (by omega), pat_in (by omega)]; exact s0_fo hkj (by decide) (o := 21) rfl (by omega)
    · (repeat (first | rw [up_ne (by omega)] | rw [bl_ne (by omega)] | rw [pat_out (by omega)])); rw [up_at (by omega) (by omega), pat_in (by omega)]; exact s0_fo hkj (by decide) (o := 22) rfl (by omega)
    · (repeat (first | rw [up_ne (by omega)] | rw [bl_ne (by omega)] | rw [pat_out (by omega)])); rw [up_at (by omega) (by omega), pat_in (by omega)]; exact s0_fo hkj (by decide) (o := 24) rfl (by omega)
    · (repeat (first | rw [up_ne (by omega)] | rw [bl_ne (by omega)] | rw [pat_out (by omega)])); rw [up_at (by omega) (by omega), pat_in (by omega)]; exact s0_fo hkj (by decide) (o := 39) rfl (by omega)
    · (repeat (first | rw [up_ne (by omega)] | rw [bl_ne (by omega)] | rw [pat_out (by omega)])); rw [up_at (by omega) (by omega), pat_in (by omega)]; exact s0_fo hkj (by decide) (o := 42) rfl (by omega)
    · (repeat (first | rw [up_ne (by omega)] | rw [bl_ne (by omega)] | rw [pat_out (by omega)])); rw [up_at (by omega) (by omega), pat_in (by omega)]; exact s0_fo hkj (by decide) (o := 68) rfl (by omega)
    · (repeat (first | rw [up_ne (by omega)] | rw [bl_ne (by omega)] | rw [pat_out (by omega)])); rw [up_at (by omega) (by omega), pat_in (by omega)]; exact s0_fo hkj (by decide) (o := 78) rfl (by omega)
    · (repeat (first | rw [up_ne (by omega)] | rw [bl_ne (by omega)] | rw [pat_out (by omega)])); rw [up_at (by omega) (by omega), pat_in (by omega)]; exact s0_fo hkj (by decide) (o := 104) rfl (by omega)
    · (repeat (first | rw [up_ne (by omega)] | rw [bl_ne (by omega)] | rw [pat_out (by omega)])); rw [up_at (by omega) (by omega), pat_in (by omega)]; exact s0_fo hkj (by decide) (o := 114) rfl (by omega)
  · subst q; (repeat (first | rw [up_ne (by omega)] | rw [bl_ne (by omega)] | rw [pat_out (by omega)])); rw [pat_in (by omega)]; exact bl_s0 (hk.at 1 rfl) (by decide) ⟨by omega, by omega, by omega⟩
  · subst q; (repeat (first | rw [up_ne (by omega)] | rw [bl_ne (by omega)] | rw [pat_out (by omega)])); rw [pat_in (by omega)]; exact bl_s0 (hk.at 2 rfl) (by decide) ⟨by omega, by omega, by omega⟩
  · subst q
    have hkj := (hk.at 3 rfl)
    rw [hkj] at hj; simp only at hj
    rcases (show j = 0 ∨ j = 1 ∨ j = 2 ∨ j = 3 by omega) with rfl | rfl | rfl | rfl
    · (repeat (first | rw [up_ne (by omega)] | rw [bl_ne (by omega)] | rw [pat_out (by omega)])); rw [up_at (by omega) (by omega), pat_in (by omega)]; exact s0_m1 (by omega)
    · (repeat (first | rw [up_ne (by omega)] | rw [bl_ne (by omega)] | rw [pat_out (by omega)])); rw [up_at (by omega) (by omega), pat_in (by omega)]; exact s0_m1 (by omega)
    · (repeat (first | rw [up_ne (by omega)] | rw [bl_ne (by omega)] | rw [pat_out (by omega)])); rw [up_at (by omega) (by omega), pat_in (by omega)]; exact s0_m1 (by omega)
    · (repeat (first | rw [up_ne (by omega)] | rw [bl_ne (by omega)] | rw [pat_out (by omega)])); rw [up_at (by omega) (by omega), pat_in (by omega)]; exact s0_m1 (by omega)
  · subst q; (repeat (first | rw [up_ne (by omega)] | rw [bl_ne (by omega)] | rw [pat_out (by omega)])); rw [pat_in (by omega)]; exact bl_s0 (hk.at 4 rfl) (by decide) ⟨by omega, by omega, by omega⟩
  · subst q; (repeat (first | rw [up_ne (by omega)] | rw [bl_ne (by omega)] | rw [pat_out (by omega)])); rw [pat_in (by omega)]; exact bl_s0 (hk.at 5 rfl) (by decide) ⟨by omega, by omega, by omega⟩
  · subst q
    have hkj := (hk.at 21 rfl)
    rw [hkj] at hj; simp only at hj
    rcases (show j = 0 ∨ j = 1 ∨ j = 2 by omega) with rfl | rfl | rfl
    · (repeat (first | rw [up_ne (by omega)] | rw [bl_ne (by omega)] | rw [pat_out (by omega)])); rw [up_at (by omega) (by omega), pat_in (by omega)]; exact s0_ao hkj (by decide) rfl (o1 := 95) (o2 := 15) rfl (by omega)
    · (repeat (first | rw [up_ne (by omega)] | rw [bl_ne (by omega)] | rw [pat_out (by omega)])); rw [up_at (by omega) (by omega), pat_in (by omega)]; exact s0_ao hkj (by decide) rfl (o1 := 95) (o2 := 15) rfl (by omega)
    · (repeat (first | rw [up_ne (by omega)] | rw [bl_ne (by omega)] | rw [pat_out (by omega)])); rw [up_at (by omega) (by omega), pat_in (by omega)]; exact s0_ao hkj (by decide) rfl (o1 := 95) (o2 := 15) rfl (by omega)
  · (repeat (first | rw [up_ne (by omega)] | rw [bl_ne (by omega)] | rw [pat_out (by omega)])); rw [pat_in (by omega), pat_in (by omega)]
  · (repeat (first | rw [up_ne (by omega)] | rw [bl_ne (by omega)] | rw [pat_out (by omega)])); rw [pat_in (by omega), pat_in (by omega)]
  · (repeat (first | rw [up_ne (by omega)] | rw [bl_ne (by omega)] | rw [pat_out (by omega)])); rw [pat_in (by omega), pat_in (by omega)]
  · (repeat (first | rw [up_ne (by omega)] | rw [bl_ne (by omega)] | rw [pat_out (by omega)])); rw [pat_in (by omega), pat_in (by omega)]
  · (repeat (first | rw [up_ne (by omega)] | rw [bl_ne (by omega)] | rw [pat_out (by omega)])); rw [pat_in (by omega), pat_in (by omega)]
  · (repeat (first | rw [up_ne (by omega)] | rw [bl_ne (by omega)] | rw [pat_out (by omega)])); rw [pat_in (by omega), pat_in (by omega)]
  · (repeat (first | rw [up_ne (by omega)] | rw [bl_ne (by omega)] | rw [pat_out (by omega)])); rw [pat_in (by omega), pat_in (by omega)]
  · (repeat (first | rw [up_ne (by omega)] | rw [bl_ne (by omega)] | rw [pat_out (by omega)])); rw [pat_in (by omega), pat_in (by omega)]
  · (repeat (first | rw [up_ne (by omega)] | rw [bl_ne (by omega)] | rw [pat_out (by omega)])); rw [pat_in (by omega), pat_in (by omega)]
  · (repeat (first | rw [up_ne (by omega)] | rw [bl_ne (by omega)] | rw [pat_out (by omega)])); rw [pat_in (by omega), pat_in (by omega)]
  · (repeat (first | rw [up_ne (by omega)] | rw [bl_ne (by omega)] | rw [pat_out (by omega)])); rw [pat_in (by omega), pat_in (by omega)]
  · (repeat (first | rw [up_ne (by omega)] | rw [bl_ne (by omega)] | rw [pat_out (by omega)])); rw [pat_in (by omega), pat_in (by omega)]
