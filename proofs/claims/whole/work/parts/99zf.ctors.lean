/-! ===== the constructors (written by gen4.py) ===== -/
abbrev M_Wd_init : MR := (⟨"BracketRoom$World", "<init>", "()V"⟩, prog_12_method_1_code, 1, none)
theorem ci_Wd_init : CI M_Wd_init 0 := ⟨tk1 40 rfl rfl, rfl, tk1 39 rfl rfl, tk1 3 rfl rfl, by decide, rfl, by decide, by decide, by decide +kernel⟩
theorem dWd_init_0 : decode prog_12_method_1_code 0 = .ok (.aload_n 0, 1) := by decide +kernel
theorem dWd_init_1 : decode prog_12_method_1_code 1 = .ok (.invokespecial 3, 3) := by decide +kernel
theorem dWd_init_4 : decode prog_12_method_1_code 4 = .ok (.aload_n 0, 1) := by decide +kernel
theorem dWd_init_5 : decode prog_12_method_1_code 5 = .ok (.bipush 125, 2) := by decide +kernel
theorem dWd_init_7 : decode prog_12_method_1_code 7 = .ok (.newarray .int, 2) := by decide +kernel
theorem dWd_init_9 : decode prog_12_method_1_code 9 = .ok (.putfield 9, 3) := by decide +kernel
theorem dWd_init_12 : decode prog_12_method_1_code 12 = .ok (.aload_n 0, 1) := by decide +kernel
theorem dWd_init_13 : decode prog_12_method_1_code 13 = .ok (.iconst 2, 1) := by decide +kernel
theorem dWd_init_14 : decode prog_12_method_1_code 14 = .ok (.putfield 15, 3) := by decide +kernel
theorem dWd_init_17 : decode prog_12_method_1_code 17 = .ok (.aload_n 0, 1) := by decide +kernel
theorem dWd_init_18 : decode prog_12_method_1_code 18 = .ok (.iconst 1, 1) := by decide +kernel
theorem dWd_init_19 : decode prog_12_method_1_code 19 = .ok (.putfield 19, 3) := by decide +kernel
theorem dWd_init_22 : decode prog_12_method_1_code 22 = .ok (.return_, 1) := by decide +kernel
theorem gw_Wd_9 : FW "BracketRoom$World" 9 10 0 := ⟨_, _, _, rfl, by decide, rfl, tk1 42 rfl rfl⟩
theorem gw_Wd_15 : FW "BracketRoom$World" 15 10 1 := ⟨_, _, _, rfl, by decide, rfl, tk1 44 rfl rfl⟩
theorem gw_Wd_19 : FW "BracketRoom$World" 19 10 2 := ⟨_, _, _, rfl, by decide, rfl, tk1 51 rfl rfl⟩
theorem n_World {d a : Nat} {σ : SG} {Q : SG → Prop} (hk : kds a [(10, 4), (100, 125)]) (h : Q (pat σ a (a + 2))) : TN (d + 1) (a + 1) (a + 2) M_Wd_init [vA a] (bl σ a) Q := by
  have hlt := hk.lt 1 rfl (by decide)
  refine TN_intro (ls := [vA (a : Int)]) rfl (Nat.le_of_ble_eq_true rfl) rfl ?_
  refine LN_aload_n dWd_init_0 rfl (by omega) ?_
  refine LN_objInit (tk1 41 rfl rfl) (by omega) (Nat.le_of_ble_eq_true rfl) dWd_init_1 ?_
  refine LN_aload_n dWd_init_4 rfl (by omega) ?_
  refine LN_bipush dWd_init_5 (by decide) ⟨by decide, by decide⟩ ?_
  refine LN_newA (t := 100) (N := 125) (by decide) rfl (hk.at 1 rfl) rfl (by decide) (by omega) dWd_init_7 ?_
  refine LN_putf gw_Wd_9 rfl rfl (t := 2) rfl fit_ra (ob_k (hk.at 0 rfl)) (by omega) dWd_init_9 ?_
  refine LN_aload_n dWd_init_12 rfl (by omega) ?_
  refine LN_iconst dWd_init_13 ⟨by decide, by decide⟩ ?_
  refine LN_putf gw_Wd_15 rfl rfl (t := 0) rfl (fun _ => ⟨rfl, rfl⟩) (ob_k (hk.at 0 rfl)) (by omega) dWd_init_14 ?_
  refine LN_aload_n dWd_init_17 rfl (by omega) ?_
  refine LN_iconst dWd_init_18 ⟨by decide, by decide⟩ ?_
  refine LN_putf gw_Wd_19 rfl rfl (t := 0) rfl (fun _ => ⟨rfl, rfl⟩) (ob_k (hk.at 0 rfl)) (by omega) dWd_init_19 ?_
  refine LN_return (σ' := pat σ a (a + 2)) (by omega) rfl dWd_init_22 (fun b hb j hj => ?_) h
  rcases (show b < a ∨ b = a ∨ b = a + 1 by omega) with q | q | q
  · (repeat (first | rw [up_ne (by omega)] | rw [bl_ne (by omega)] | rw [pat_out (by omega)]))
  · subst q
    have hkj := (hk.at0 rfl)
    rw [hkj] at hj; simp only at hj
    rcases (show j = 0 ∨ j = 1 ∨ j = 2 ∨ j = 3 by omega) with rfl | rfl | rfl | rfl
    · (repeat (first | rw [up_ne (by omega)] | rw [bl_ne (by omega)] | rw [pat_out (by omega)])); rw [up_at (by omega) (by omega), pat_in (by omega)]; exact s0_fo hkj (by decide) (o := 1) rfl (by omega)
    · (repeat (first | rw [up_ne (by omega)] | rw [bl_ne (by omega)] | rw [pat_out (by omega)])); rw [up_at (by omega) (by omega), pat_in (by omega)]; exact s0_c hkj (by decide) rfl (by decide) rfl
    · (repeat (first | rw [up_ne (by omega)] | rw [bl_ne (by omega)] | rw [pat_out (by omega)])); rw [up_at (by omega) (by omega), pat_in (by omega)]; exact s0_c hkj (by decide) rfl (by decide) rfl
    · (repeat (first | rw [up_ne (by omega)] | rw [bl_ne (by omega)] | rw [pat_out (by omega)])); rw [pat_in (by omega)]; exact s0_bl hkj (by decide) rfl (Or.inr rfl)
  · subst q; (repeat (first | rw [up_ne (by omega)] | rw [bl_ne (by omega)] | rw [pat_out (by omega)])); rw [pat_in (by omega)]; exact bl_s0 (hk.at 1 rfl) (by decide) (arr_sp (hk.at 1 rfl) (by decide))
abbrev M_Sc_init : MR := (⟨"BracketRoom$Script", "<init>", "()V"⟩, prog_8_method_1_code, 1, none)
theorem ci_Sc_init : CI M_Sc_init 0 := ⟨tk1 77 rfl rfl, rfl, tk1 76 rfl rfl, tk1 4 rfl rfl, by decide, rfl, by decide, by decide, by decide +kernel⟩
theorem dSc_init_0 : decode prog_8_method_1_code 0 = .ok (.aload_n 0, 1) := by decide +kernel
theorem dSc_init_1 : decode prog_8_method_1_code 1 = .ok (.invokespecial 3, 3) := by decide +kernel
theorem dSc_init_4 : decode prog_8_method_1_code 4 = .ok (.aload_n 0, 1) := by decide +kernel
theorem dSc_init_5 : decode prog_8_method_1_code 5 = .ok (.sipush 360, 3) := by decide +kernel
theorem dSc_init_8 : decode prog_8_method_1_code 8 = .ok (.newarray .int, 2) := by decide +kernel
theorem dSc_init_10 : decode prog_8_method_1_code 10 = .ok (.putfield 11, 3) := by decide +kernel
theorem dSc_init_13 : decode prog_8_method_1_code 13 = .ok (.aload_n 0, 1) := by decide +kernel
theorem dSc_init_14 : decode prog_8_method_1_code 14 = .ok (.iconst 3, 1) := by decide +kernel
theorem dSc_init_15 : decode prog_8_method_1_code 15 = .ok (.newarray .int, 2) := by decide +kernel
theorem dSc_init_17 : decode prog_8_method_1_code 17 = .ok (.putfield 15, 3) := by decide +kernel
theorem dSc_init_20 : decode prog_8_method_1_code 20 = .ok (.return_, 1) := by decide +kernel
theorem gw_Sc_11 : FW "BracketRoom$Script" 11 6 3 := ⟨_, _, _, rfl, by decide, rfl, tk1 85 rfl rfl⟩
theorem gw_Sc_15 : FW "BracketRoom$Script" 15 6 4 := ⟨_, _, _, rfl, by decide, rfl, tk1 86 rfl rfl⟩
theorem n_Script {d a : Nat} {σ : SG} {Q : SG → Prop} (hk : kds a [(6, 6), (100, 360), (100, 3)]) (h : Q (pat σ a (a + 3))) : TN (d + 1) (a + 1) (a + 3) M_Sc_init [vA a] (bl σ a) Q := by
  have hlt := hk.lt 2 rfl (by decide)
  refine TN_intro (ls := [vA (a : Int)]) rfl (Nat.le_of_ble_eq_true rfl) rfl ?_
  refine LN_aload_n dSc_init_0 rfl (by omega) ?_
  refine LN_objInit (tk1 78 rfl rfl) (by omega) (Nat.le_of_ble_eq_true rfl) dSc_init_1 ?_
  refine LN_aload_n dSc_init_4 rfl (by omega) ?_
  refine LN_sipush dSc_init_5 (by decide) ⟨by decide, by decide⟩ ?_
  refine LN_newA (t := 100) (N := 360) (by decide) rfl (hk.at 1 rfl) rfl (by decide) (by omega) dSc_init_8 ?_
  refine LN_putf gw_Sc_11 rfl rfl (t := 2) rfl fit_ra (ob_k (hk.at 0 rfl)) (by omega) dSc_init_10 ?_
  refine LN_aload_n dSc_init_13 rfl (by omega) ?_
  refine LN_iconst dSc_init_14 ⟨by decide, by decide⟩ ?_
  refine LN_newA (t := 100) (N := 3) (by decide) rfl (hk.at 2 rfl) rfl (by decide) (by omega) dSc_init_15 ?_
  refine LN_putf gw_Sc_15 rfl rfl (t := 2) rfl fit_ra (ob_k (hk.at 0 rfl)) (by omega) dSc_init_17 ?_
  refine LN_return (σ' := pat σ a (a + 3)) (by omega) rfl dSc_init_20 (fun b hb j hj => ?_) h
  rcases (show b < a ∨ b = a ∨ b = a + 1 ∨ b = a + 2 by omega) with q | q | q | q
  · (repeat (first | rw [up_ne (by omega)] | rw [bl_ne (by omega)] | rw [pat_out (by omega)]))
  · subst q
    have hkj := (hk.at0 rfl)
    rw [hkj] at hj; simp only at hj
    rcases (show j = 0 ∨ j = 1 ∨ j = 2 ∨ j = 3 ∨ j = 4 ∨ j = 5 by omega) with rfl | rfl | rfl | rfl | rfl | rfl
    · (repeat (first | rw [up_ne (by omega)] | rw [bl_ne (by omega)] | rw [pat_out (by omega)])); rw [pat_in (by omega)]; exact s0_bl hkj (by decide) rfl (Or.inr rfl)
    · (repeat (first | rw [up_ne (by omega)] | rw [bl_ne (by omega)] | rw [pat_out (by omega)])); rw [pat_in (by omega)]; exact s0_bl hkj (by decide) rfl (Or.inr rfl)
    · (repeat (first | rw [up_ne (by omega)] | rw [bl_ne (by omega)] | rw [pat_out (by omega)])); rw [pat_in (by omega)]; exact s0_bl hkj (by decide) rfl (Or.inr rfl)
    · (repeat (first | rw [up_ne (by omega)] | rw [bl_ne (by omega)] | rw [pat_out (by omega)])); rw [up_at (by omega) (by omega), pat_in (by omega)]; exact s0_fo hkj (by decide) (o := 1) rfl (by omega)
    · (repeat (first | rw [up_ne (by omega)] | rw [bl_ne (by omega)] | rw [pat_out (by omega)])); rw [up_at (by omega) (by omega), pat_in (by omega)]; exact s0_fo hkj (by decide) (o := 2) rfl (by omega)
    · (repeat (first | rw [up_ne (by omega)] | rw [bl_ne (by omega)] | rw [pat_out (by omega)])); rw [pat_in (by omega)]; exact s0_bl hkj (by decide) rfl (Or.inr rfl)
  · subst q; (repeat (first | rw [up_ne (by omega)] | rw [bl_ne (by omega)] | rw [pat_out (by omega)])); rw [pat_in (by omega)]; exact bl_s0 (hk.at 1 rfl) (by decide) (arr_sp (hk.at 1 rfl) (by decide))
  · subst q; (repeat (first | rw [up_ne (by omega)] | rw [bl_ne (by omega)] | rw [pat_out (by omega)])); rw [pat_in (by omega)]; exact bl_s0 (hk.at 2 rfl) (by decide) (arr_sp (hk.at 2 rfl) (by decide))
abbrev M_Ec_init : MR := (⟨"BracketRoom$Echelon", "<init>", "(I)V"⟩, prog_4_method_1_code, 2, none)
theorem ci_Ec_init : CI M_Ec_init 1 := ⟨tk1 162 rfl rfl, rfl, tk1 161 rfl rfl, tk1 6 rfl rfl, by decide, rfl, by decide, by decide, by decide +kernel⟩
theorem dEc_init_0 : decode prog_4_method_1_code 0 = .ok (.aload_n 0, 1) := by decide +kernel
theorem dEc_init_1 : decode prog_4_method_1_code 1 = .ok (.invokespecial 3, 3) := by decide +kernel
theorem dEc_init_4 : decode prog_4_method_1_code 4 = .ok (.aload_n 0, 1) := by decide +kernel
theorem dEc_init_5 : decode prog_4_method_1_code 5 = .ok (.iconst 2, 1) := by decide +kernel
theorem dEc_init_6 : decode prog_4_method_1_code 6 = .ok (.putfield 9, 3) := by decide +kernel
theorem dEc_init_9 : decode prog_4_method_1_code 9 = .ok (.aload_n 0, 1) := by decide +kernel
theorem dEc_init_10 : decode prog_4_method_1_code 10 = .ok (.iconst 1, 1) := by decide +kernel
theorem dEc_init_11 : decode prog_4_method_1_code 11 = .ok (.iload_n 1, 1) := by decide +kernel
theorem dEc_init_12 : decode prog_4_method_1_code 12 = .ok (.bipush 25, 2) := by decide +kernel
theorem dEc_init_14 : decode prog_4_method_1_code 14 = .ok (.invokestatic 15, 3) := by decide +kernel
theorem dEc_init_17 : decode prog_4_method_1_code 17 = .ok (.invokestatic 21, 3) := by decide +kernel
theorem dEc_init_20 : decode prog_4_method_1_code 20 = .ok (.putfield 24, 3) := by decide +kernel
theorem dEc_init_23 : decode prog_4_method_1_code 23 = .ok (.aload_n 0, 1) := by decide +kernel
theorem dEc_init_24 : decode prog_4_method_1_code 24 = .ok (.aload_n 0, 1) := by decide +kernel
theorem dEc_init_25 : decode prog_4_method_1_code 25 = .ok (.getfield 24, 3) := by decide +kernel
theorem dEc_init_28 : decode prog_4_method_1_code 28 = .ok (.aload_n 0, 1) := by decide +kernel
theorem dEc_init_29 : decode prog_4_method_1_code 29 = .ok (.getfield 24, 3) := by decide +kernel
theorem dEc_init_32 : decode prog_4_method_1_code 32 = .ok (.imul, 1) := by decide +kernel
theorem dEc_init_33 : decode prog_4_method_1_code 33 = .ok (.newarray .int, 2) := by decide +kernel
theorem dEc_init_35 : decode prog_4_method_1_code 35 = .ok (.putfield 27, 3) := by decide +kernel
theorem dEc_init_38 : decode prog_4_method_1_code 38 = .ok (.aload_n 0, 1) := by decide +kernel
theorem dEc_init_39 : decode prog_4_method_1_code 39 = .ok (.aload_n 0, 1) := by decide +kernel
theorem dEc_init_40 : decode prog_4_method_1_code 40 = .ok (.getfield 24, 3) := by decide +kernel
theorem dEc_init_43 : decode prog_4_method_1_code 43 = .ok (.newarray .int, 2) := by decide +kernel
theorem dEc_init_45 : decode prog_4_method_1_code 45 = .ok (.putfield 31, 3) := by decide +kernel
theorem dEc_init_48 : decode prog_4_method_1_code 48 = .ok (.return_, 1) := by decide +kernel
theorem gw_Ec_9 : FW "BracketRoom$Echelon" 9 2 3 := ⟨_, _, _, rfl, by decide, rfl, tk1 177 rfl rfl⟩
theorem gw_Ec_24 : FW "BracketRoom$Echelon" 24 2 0 := ⟨_, _, _, rfl, by decide, rfl, tk1 170 rfl rfl⟩
theorem gw_Ec_27 : FW "BracketRoom$Echelon" 27 2 1 := ⟨_, _, _, rfl, by decide, rfl, tk1 172 rfl rfl⟩
theorem gw_Ec_31 : FW "BracketRoom$Echelon" 31 2 2 := ⟨_, _, _, rfl, by decide, rfl, tk1 176 rfl rfl⟩
theorem n_Ech5 {d a : Nat} {σ : SG} {Q : SG → Prop} (hk : kds a [(2, 7), (100, 25), (100, 5)]) (h : Q (pat σ a (a + 3))) : TN (d + 1) (a + 1) (a + 3) M_Ec_init [vA a, vI 5] (bl σ a) Q := by
  have hlt := hk.lt 2 rfl (by decide)
  refine TN_intro (ls := [vA (a : Int), vI 5]) rfl (Nat.le_of_ble_eq_true rfl) rfl ?_
  refine LN_aload_n dEc_init_0 rfl (by omega) ?_
  refine LN_objInit (tk1 163 rfl rfl) (by omega) (Nat.le_of_ble_eq_true rfl) dEc_init_1 ?_
  refine LN_aload_n dEc_init_4 rfl (by omega) ?_
  refine LN_iconst dEc_init_5 ⟨by decide, by decide⟩ ?_
  refine LN_putf gw_Ec_9 rfl rfl (t := 0) rfl (fun _ => ⟨rfl, rfl⟩) (ob_k (hk.at 0 rfl)) (by omega) dEc_init_6 ?_
  refine LN_aload_n dEc_init_9 rfl (by omega) ?_
  refine LN_iconst dEc_init_10 ⟨by decide, by decide⟩ ?_
  refine LN_iload_n dEc_init_11 rfl ?_
  refine LN_bipush dEc_init_12 (by decide) ⟨by decide, by decide⟩ ?_
  refine LN_min (by omega) (tk1 164 rfl rfl) (Nat.le_of_ble_eq_true rfl) dEc_init_14 (LN_eqI (y := 5) (by decide) ?_)
  refine LN_max (by omega) (tk1 167 rfl rfl) (Nat.le_of_ble_eq_true rfl) dEc_init_17 (LN_eqI (y := 5) (by decide) ?_)
  refine LN_putf gw_Ec_24 rfl rfl (t := 0) rfl (fun _ => ⟨rfl, rfl⟩) (ob_k (hk.at 0 rfl)) (by omega) dEc_init_20 ?_
  refine LN_aload_n dEc_init_23 rfl (by omega) ?_
  refine LN_aload_n dEc_init_24 rfl (by omega) ?_
  refine LN_getf (x := 5) gw_Ec_24 (t := 0) rfl (by (repeat (first | rw [up_ne (by omega)] | rw [bl_ne (by omega)] | rw [pat_out (by omega)])); exact up_at (by omega) (by omega)) ⟨by decide, by decide⟩ (ob_k (hk.at 0 rfl)) (by omega) dEc_init_25 ?_
  refine LN_aload_n dEc_init_28 rfl (by omega) ?_
  refine LN_getf (x := 5) gw_Ec_24 (t := 0) rfl (by (repeat (first | rw [up_ne (by omega)] | rw [bl_ne (by omega)] | rw [pat_out (by omega)])); exact up_at (by omega) (by omega)) ⟨by decide, by decide⟩ (ob_k (hk.at 0 rfl)) (by omega) dEc_init_29 ?_
  refine LN_imul dEc_init_32 (LN_eqI (y := 25) (by decide) ?_)
  refine LN_newA (t := 100) (N := 25) (by decide) rfl (hk.at 1 rfl) rfl (by decide) (by omega) dEc_init_33 ?_
  refine LN_putf gw_Ec_27 rfl rfl (t := 2) rfl fit_ra (ob_k (hk.at 0 rfl)) (by omega) dEc_init_35 ?_
  refine LN_aload_n dEc_init_38 rfl (by omega) ?_
  refine LN_aload_n dEc_init_39 rfl (by omega) ?_
  refine LN_getf (x := 5) gw_Ec_24 (t := 0) rfl (by (repeat (first | rw [up_ne (by omega)] | rw [bl_ne (by omega)] | rw [pat_out (by omega)])); exact up_at (by omega) (by omega)) ⟨by decide, by decide⟩ (ob_k (hk.at 0 rfl)) (by omega) dEc_init_40 ?_
  refine LN_newA (t := 100) (N := 5) (by decide) rfl (hk.at 2 rfl) rfl (by decide) (by omega) dEc_init_43 ?_
  refine LN_putf gw_Ec_31 rfl rfl (t := 2) rfl fit_ra (ob_k (hk.at 0 rfl)) (by omega) dEc_init_45 ?_
  refine LN_return (σ' := pat σ a (a + 3)) (by omega) rfl dEc_init_48 (fun b hb j hj => ?_) h
  rcases (show b < a ∨ b = a ∨ b = a + 1 ∨ b = a + 2 by omega) with q | q | q | q
  · (repeat (first | rw [up_ne (by omega)] | rw [bl_ne (by omega)] | rw [pat_out (by omega)]))
  · subst q
    have hkj := (hk.at0 rfl)
    rw [hkj] at hj; simp only at hj
    rcases (show j = 0 ∨ j = 1 ∨ j = 2 ∨ j = 3 ∨ j = 4 ∨ j = 5 ∨ j = 6 by omega) with rfl | rfl | rfl | rfl | rfl | rfl | rfl
    · (repeat (first | rw [up_ne (by omega)] | rw [bl_ne (by omega)] | rw [pat_out (by omega)])); rw [up_at (by omega) (by omega), pat_in (by omega)]; exact s0_c hkj (by decide) rfl (by decide) (c1_5 (hk.at 1 rfl))
    · (repeat (first | rw [up_ne (by omega)] | rw [bl_ne (by omega)] | rw [pat_out (by omega)])); rw [up_at (by omega) (by omega), pat_in (by omega)]; exact s0_fo hkj (by decide) (o := 1) rfl (by omega)
    · (repeat (first | rw [up_ne (by omega)] | rw [bl_ne (by omega)] | rw [pat_out (by omega)])); rw [up_at (by omega) (by omega), pat_in (by omega)]; exact s0_fo hkj (by decide) (o := 2) rfl (by omega)
    · (repeat (first | rw [up_ne (by omega)] | rw [bl_ne (by omega)] | rw [pat_out (by omega)])); rw [up_at (by omega) (by omega), pat_in (by omega)]; exact s0_c hkj (by decide) rfl (by decide) rfl
    · (repeat (first | rw [up_ne (by omega)] | rw [bl_ne (by omega)] | rw [pat_out (by omega)])); rw [pat_in (by omega)]; exact s0_bl hkj (by decide) rfl (Or.inr rfl)
    · (repeat (first | rw [up_ne (by omega)] | rw [bl_ne (by omega)] | rw [pat_out (by omega)])); rw [pat_in (by omega)]; exact s0_bl hkj (by decide) rfl (Or.inr rfl)
    · (repeat (first | rw [up_ne (by omega)] | rw [bl_ne (by omega)] | rw [pat_out (by omega)])); rw [pat_in (by omega)]; exact s0_bl hkj (by decide) rfl (Or.inr rfl)
  · subst q; (repeat (first | rw [up_ne (by omega)] | rw [bl_ne (by omega)] | rw [pat_out (by omega)])); rw [pat_in (by omega)]; exact bl_s0 (hk.at 1 rfl) (by decide) (arr_sp (hk.at 1 rfl) (by decide))
  · subst q; (repeat (first | rw [up_ne (by omega)] | rw [bl_ne (by omega)] | rw [pat_out (by omega)])); rw [pat_in (by omega)]; exact bl_s0 (hk.at 2 rfl) (by decide) (arr_sp (hk.at 2 rfl) (by decide))
theorem n_Ech25 {d a : Nat} {σ : SG} {Q : SG → Prop} (hk : kds a [(2, 7), (100, 625), (100, 25)]) (h : Q (pat σ a (a + 3))) : TN (d + 1) (a + 1) (a + 3) M_Ec_init [vA a, vI 25] (bl σ a) Q := by
  have hlt := hk.lt 2 rfl (by decide)
  refine TN_intro (ls := [vA (a : Int), vI 25]) rfl (Nat.le_of_ble_eq_true rfl) rfl ?_
  refine LN_aload_n dEc_init_0 rfl (by omega) ?_
  refine LN_objInit (tk1 163 rfl rfl) (by omega) (Nat.le_of_ble_eq_true rfl) dEc_init_1 ?_
  refine LN_aload_n dEc_init_4 rfl (by omega) ?_
  refine LN_iconst dEc_init_5 ⟨by decide, by decide⟩ ?_
  refine LN_putf gw_Ec_9 rfl rfl (t := 0) rfl (fun _ => ⟨rfl, rfl⟩) (ob_k (hk.at 0 rfl)) (by omega) dEc_init_6 ?_
  refine LN_aload_n dEc_init_9 rfl (by omega) ?_
  refine LN_iconst dEc_init_10 ⟨by decide, by decide⟩ ?_
  refine LN_iload_n dEc_init_11 rfl ?_
  refine LN_bipush dEc_init_12 (by decide) ⟨by decide, by decide⟩ ?_
  refine LN_min (by omega) (tk1 164 rfl rfl) (Nat.le_of_ble_eq_true rfl) dEc_init_14 (LN_eqI (y := 25) (by decide) ?_)
  refine LN_max (by omega) (tk1 167 rfl rfl) (Nat.le_of_ble_eq_true rfl) dEc_init_17 (LN_eqI (y := 25) (by decide) ?_)
  refine LN_putf gw_Ec_24 rfl rfl (t := 0) rfl (fun _ => ⟨rfl, rfl⟩) (ob_k (hk.at 0 rfl)) (by omega) dEc_init_20 ?_
  refine LN_aload_n dEc_init_23 rfl (by omega) ?_
  refine LN_aload_n dEc_init_24 rfl (by omega) ?_
  refine LN_getf (x := 25) gw_Ec_24 (t := 0) rfl (by (repeat (first | rw [up_ne (by omega)] | rw [bl_ne (by omega)] | rw [pat_out (by omega)])); exact up_at (by omega) (by omega)) ⟨by decide, by decide⟩ (ob_k (hk.at 0 rfl)) (by omega) dEc_init_25 ?_
  refine LN_aload_n dEc_init_28 rfl (by omega) ?_
  refine LN_getf (x := 25) gw_Ec_24 (t := 0) rfl (by (repeat (first | rw [up_ne (by omega)] | rw [bl_ne (by omega)] | rw [pat_out (by omega)])); exact up_at (by omega) (by omega)) ⟨by decide, by decide⟩ (ob_k (hk.at 0 rfl)) (by omega) dEc_init_29 ?_
  refine LN_imul dEc_init_32 (LN_eqI (y := 625) (by decide) ?_)
  refine LN_newA (t := 100) (N := 625) (by decide) rfl (hk.at 1 rfl) rfl (by decide) (by omega) dEc_init_33 ?_
  refine LN_putf gw_Ec_27 rfl rfl (t := 2) rfl fit_ra (ob_k (hk.at 0 rfl)) (by omega) dEc_init_35 ?_
  refine LN_aload_n dEc_init_38 rfl (by omega) ?_
  refine LN_aload_n dEc_init_39 rfl (by omega) ?_
  refine LN_getf (x := 25) gw_Ec_24 (t := 0) rfl (by (repeat (first | rw [up_ne (by omega)] | rw [bl_ne (by omega)] | rw [pat_out (by omega)])); exact up_at (by omega) (by omega)) ⟨by decide, by decide⟩ (ob_k (hk.at 0 rfl)) (by omega) dEc_init_40 ?_
  refine LN_newA (t := 100) (N := 25) (by decide) rfl (hk.at 2 rfl) rfl (by decide) (by omega) dEc_init_43 ?_
  refine LN_putf gw_Ec_31 rfl rfl (t := 2) rfl fit_ra (ob_k (hk.at 0 rfl)) (by omega) dEc_init_45 ?_
  refine LN_return (σ' := pat σ a (a + 3)) (by omega) rfl dEc_init_48 (fun b hb j hj => ?_) h
  rcases (show b < a ∨ b = a ∨ b = a + 1 ∨ b = a + 2 by omega) with q | q | q | q
  · (repeat (first | rw [up_ne (by omega)] | rw [bl_ne (by omega)] | rw [pat_out (by omega)]))
  · subst q
    have hkj := (hk.at0 rfl)
    rw [hkj] at hj; simp only at hj
    rcases (show j = 0 ∨ j = 1 ∨ j = 2 ∨ j = 3 ∨ j = 4 ∨ j = 5 ∨ j = 6 by omega) with rfl | rfl | rfl | rfl | rfl | rfl | rfl
    · (repeat (first | rw [up_ne (by omega)] | rw [bl_ne (by omega)] | rw [pat_out (by omega)])); rw [up_at (by omega) (by omega), pat_in (by omega)]; exact s0_c hkj (by decide) rfl (by decide) (c1_25 (hk.at 1 rfl))
    · (repeat (first | rw [up_ne (by omega)] | rw [bl_ne (by omega)] | rw [pat_out (by omega)])); rw [up_at (by omega) (by omega), pat_in (by omega)]; exact s0_fo hkj (by decide) (o := 1) rfl (by omega)
    · (repeat (first | rw [up_ne (by omega)] | rw [bl_ne (by omega)] | rw [pat_out (by omega)])); rw [up_at (by omega) (by omega), pat_in (by omega)]; exact s0_fo hkj (by decide) (o := 2) rfl (by omega)
    · (repeat (first | rw [up_ne (by omega)] | rw [bl_ne (by omega)] | rw [pat_out (by omega)])); rw [up_at (by omega) (by omega), pat_in (by omega)]; exact s0_c hkj (by decide) rfl (by decide) rfl
    · (repeat (first | rw [up_ne (by omega)] | rw [bl_ne (by omega)] | rw [pat_out (by omega)])); rw [pat_in (by omega)]; exact s0_bl hkj (by decide) rfl (Or.inr rfl)
    · (repeat (first | rw [up_ne (by omega)] | rw [bl_ne (by omega)] | rw [pat_out (by omega)])); rw [pat_in (by omega)]; exact s0_bl hkj (by decide) rfl (Or.inr rfl)
    · (repeat (first | rw [up_ne (by omega)] | rw [bl_ne (by omega)] | rw [pat_out (by omega)])); rw [pat_in (by omega)]; exact s0_bl hkj (by decide) rfl (Or.inr rfl)
  · subst q; (repeat (first | rw [up_ne (by omega)] | rw [bl_ne (by omega)] | rw [pat_out (by omega)])); rw [pat_in (by omega)]; exact bl_s0 (hk.at 1 rfl) (by decide) (arr_sp (hk.at 1 rfl) (by decide))
  · subst q; (repeat (first | rw [up_ne (by omega)] | rw [bl_ne (by omega)] | rw [pat_out (by omega)])); rw [pat_in (by omega)]; exact bl_s0 (hk.at 2 rfl) (by decide) (arr_sp (hk.at 2 rfl) (by decide))
abbrev M_To_init : MR := (⟨"BracketRoom$Tokens", "<init>", "()V"⟩, prog_10_method_1_code, 1, none)
theorem ci_To_init : CI M_To_init 0 := ⟨tk1 122 rfl rfl, rfl, tk1 121 rfl rfl, tk1 5 rfl rfl, by decide, rfl, by decide, by decide, by decide +kernel⟩
theorem dTo_init_0 : decode prog_10_method_1_code 0 = .ok (.aload_n 0, 1) := by decide +kernel
theorem dTo_init_1 : decode prog_10_method_1_code 1 = .ok (.invokespecial 3, 3) := by decide +kernel
theorem dTo_init_4 : decode prog_10_method_1_code 4 = .ok (.aload_n 0, 1) := by decide +kernel
theorem dTo_init_5 : decode prog_10_method_1_code 5 = .ok (.iconst (-1), 1) := by decide +kernel
theorem dTo_init_6 : decode prog_10_method_1_code 6 = .ok (.putfield 9, 3) := by decide +kernel
theorem dTo_init_9 : decode prog_10_method_1_code 9 = .ok (.aload_n 0, 1) := by decide +kernel
theorem dTo_init_10 : decode prog_10_method_1_code 10 = .ok (.iconst (-1), 1) := by decide +kernel
theorem dTo_init_11 : decode prog_10_method_1_code 11 = .ok (.putfield 15, 3) := by decide +kernel
theorem dTo_init_14 : decode prog_10_method_1_code 14 = .ok (.aload_n 0, 1) := by decide +kernel
theorem dTo_init_15 : decode prog_10_method_1_code 15 = .ok (.sipush 600, 3) := by decide +kernel
theorem dTo_init_18 : decode prog_10_method_1_code 18 = .ok (.newarray .byte, 2) := by decide +kernel
theorem dTo_init_20 : decode prog_10_method_1_code 20 = .ok (.putfield 18, 3) := by decide +kernel
theorem dTo_init_23 : decode prog_10_method_1_code 23 = .ok (.return_, 1) := by decide +kernel
theorem gw_To_9 : FW "BracketRoom$Tokens" 9 8 2 := ⟨_, _, _, rfl, by decide, rfl, tk1 129 rfl rfl⟩
theorem gw_To_15 : FW "BracketRoom$Tokens" 15 8 3 := ⟨_, _, _, rfl, by decide, rfl, tk1 131 rfl rfl⟩
theorem gw_To_18 : FW "BracketRoom$Tokens" 18 8 4 := ⟨_, _, _, rfl, by decide, rfl, tk1 133 rfl rfl⟩
theorem n_Tokens {d a : Nat} {σ : SG} {Q : SG → Prop} (hk : kds a [(8, 9), (102, 600)]) (h : Q (pat σ a (a + 2))) : TN (d + 1) (a + 1) (a + 2) M_To_init [vA a] (bl σ a) Q := by
  have hlt := hk.lt 1 rfl (by decide)
  refine TN_intro (ls := [vA (a : Int)]) rfl (Nat.le_of_ble_eq_true rfl) rfl ?_
  refine LN_aload_n dTo_init_0 rfl (by omega) ?_
  refine LN_objInit (tk1 123 rfl rfl) (by omega) (Nat.le_of_ble_eq_true rfl) dTo_init_1 ?_
  refine LN_aload_n dTo_init_4 rfl (by omega) ?_
  refine LN_iconst dTo_init_5 ⟨by decide, by decide⟩ ?_
  refine LN_putf gw_To_9 rfl rfl (t := 0) rfl (fun _ => ⟨rfl, rfl⟩) (ob_k (hk.at 0 rfl)) (by omega) dTo_init_6 ?_
  refine LN_aload_n dTo_init_9 rfl (by omega) ?_
  refine LN_iconst dTo_init_10 ⟨by decide, by decide⟩ ?_
  refine LN_putf gw_To_15 rfl rfl (t := 0) rfl (fun _ => ⟨rfl, rfl⟩) (ob_k (hk.at 0 rfl)) (by omega) dTo_init_11 ?_
  refine LN_aload_n dTo_init_14 rfl (by omega) ?_
  refine LN_sipush dTo_init_15 (by decide) ⟨by decide, by decide⟩ ?_
  refine LN_newA (t := 102) (N := 600) (by decide) rfl (hk.at 1 rfl) rfl (by decide) (by omega) dTo_init_18 ?_
  refine LN_putf gw_To_18 rfl rfl (t := 2) rfl fit_ra (ob_k (hk.at 0 rfl)) (by omega) dTo_init_20 ?_
  refine LN_return (σ' := pat σ a (a + 2)) (by omega) rfl dTo_init_23 (fun b hb j hj => ?_) h
  rcases (show b < a ∨ b = a ∨ b = a + 1 by omega) with q | q | q
  · (repeat (first | rw [up_ne (by omega)] | rw [bl_ne (by omega)] | rw [pat_out (by omega)]))
  · subst q
    have hkj := (hk.at0 rfl)
    rw [hkj] at hj; simp only at hj
    rcases (show j = 0 ∨ j = 1 ∨ j = 2 ∨ j = 3 ∨ j = 4 ∨ j = 5 ∨ j = 6 ∨ j = 7 ∨ j = 8 by omega) with rfl | rfl | rfl | rfl | rfl | rfl | rfl | rfl | rfl
    · (repeat (first | rw [up_ne (by omega)] | rw [bl_ne (by omega)] | rw [pat_out (by omega)])); rw [pat_in (by omega)]; exact s0_bl hkj (by decide) rfl (Or.inr rfl)
    · (repeat (first | rw [up_ne (by omega)] | rw [bl_ne (by omega)] | rw [pat_out (by omega)])); rw [pat_in (by omega)]; exact s0_bl hkj (by decide) rfl (Or.inr rfl)
    · (repeat (first | rw [up_ne (by omega)] | rw [bl_ne (by omega)] | rw [pat_out (by omega)])); rw [up_at (by omega) (by omega), pat_in (by omega)]; exact s0_c hkj (by decide) rfl (by decide) rfl
    · (repeat (first | rw [up_ne (by omega)] | rw [bl_ne (by omega)] | rw [pat_out (by omega)])); rw [up_at (by omega) (by omega), pat_in (by omega)]; exact s0_c hkj (by decide) rfl (by decide) rfl
    · (repeat (first | rw [up_ne (by omega)] | rw [bl_ne (by omega)] | rw [pat_out (by omega)])); rw [up_at (by omega) (by omega), pat_in (by omega)]; exact s0_fo hkj (by decide) (o := 1) rfl (by omega)
    · (repeat (first | rw [up_ne (by omega)] | rw [bl_ne (by omega)] | rw [pat_out (by omega)])); rw [pat_in (by omega)]; exact s0_bl hkj (by decide) rfl (Or.inr rfl)
    · (repeat (first | rw [up_ne (by omega)] | rw [bl_ne (by omega)] | rw [pat_out (by omega)])); rw [pat_in (by omega)]; exact s0_bl hkj (by decide) rfl (Or.inr rfl)
    · (repeat (first | rw [up_ne (by omega)] | rw [bl_ne (by omega)] | rw [pat_out (by omega)])); rw [pat_in (by omega)]; exact s0_bl hkj (by decide) rfl (Or.inr rfl)
    · (repeat (first | rw [up_ne (by omega)] | rw [bl_ne (by omega)] | rw [pat_out (by omega)])); rw [pat_in (by omega)]; exact s0_bl hkj (by decide) rfl (Or.inr rfl)
  · subst q; (repeat (first | rw [up_ne (by omega)] | rw [bl_ne (by omega)] | rw [pat_out (by omega)])); rw [pat_in (by omega)]; exact bl_s0 (hk.at 1 rfl) (by decide) (arr_sp (hk.at 1 rfl) (by decide))
abbrev M_Ru_init : MR := (⟨"BracketRoom$Runner", "<init>", "()V"⟩, prog_7_method_1_code, 1, none)
theorem ci_Ru_init : CI M_Ru_init 0 := ⟨tk2 140 rfl rfl, rfl, tk2 139 rfl rfl, tk1 13 rfl rfl, by decide, rfl, by decide, by decide, by decide +kernel⟩
theorem dRu_init_0 : decode prog_7_method_1_code 0 = .ok (.aload_n 0, 1) := by decide +kernel
theorem dRu_init_1 : decode prog_7_method_1_code 1 = .ok (.invokespecial 3, 3) := by decide +kernel
theorem dRu_init_4 : decode prog_7_method_1_code 4 = .ok (.aload_n 0, 1) := by decide +kernel
theorem dRu_init_5 : decode prog_7_method_1_code 5 = .ok (.bipush 60, 2) := by decide +kernel
theorem dRu_init_7 : decode prog_7_method_1_code 7 = .ok (.newarray .int, 2) := by decide +kernel
theorem dRu_init_9 : decode prog_7_method_1_code 9 = .ok (.putfield 11, 3) := by decide +kernel
theorem dRu_init_12 : decode prog_7_method_1_code 12 = .ok (.return_, 1) := by decide +kernel
theorem gw_Ru_11 : FW "BracketRoom$Runner" 11 5 4 := ⟨_, _, _, rfl, by decide, rfl, tk2 150 rfl rfl⟩
theorem n_Runner {d a : Nat} {σ : SG} {Q : SG → Prop} (hk : kds a [(5, 5), (100, 60)]) (h : Q (pat σ a (a + 2))) : TN (d + 1) (a + 1) (a + 2) M_Ru_init [vA a] (bl σ a) Q := by
  have hlt := hk.lt 1 rfl (by decide)
  refine TN_intro (ls := [vA (a : Int)]) rfl (Nat.le_of_ble_eq_true rfl) rfl ?_
  refine LN_aload_n dRu_init_0 rfl (by omega) ?_
  refine LN_objInit (tk2 141 rfl rfl) (by omega) (Nat.le_of_ble_eq_true rfl) dRu_init_1 ?_
  refine LN_aload_n dRu_init_4 rfl (by omega) ?_
  refine LN_bipush dRu_init_5 (by decide) ⟨by decide, by decide⟩ ?_
  refine LN_newA (t := 100) (N := 60) (by decide) rfl (hk.at 1 rfl) rfl (by decide) (by omega) dRu_init_7 ?_
  refine LN_putf gw_Ru_11 rfl rfl (t := 2) rfl fit_ra (ob_k (hk.at 0 rfl)) (by omega) dRu_init_9 ?_
  refine LN_return (σ' := pat σ a (a + 2)) (by omega) rfl dRu_init_12 (fun b hb j hj => ?_) h
  rcases (show b < a ∨ b = a ∨ b = a + 1 by omega) with q | q | q
  · (repeat (first | rw [up_ne (by omega)] | rw [bl_ne (by omega)] | rw [pat_out (by omega)]))
  · subst q
    have hkj := (hk.at0 rfl)
    rw [hkj] at hj; simp only at hj
    rcases (show j = 0 ∨ j = 1 ∨ j = 2 ∨ j = 3 ∨ j = 4 by omega) with rfl | rfl | rfl | rfl | rfl
    · (repeat (first | rw [up_ne (by omega)] | rw [bl_ne (by omega)] | rw [pat_out (by omega)])); rw [pat_in (by omega)]; exact s0_bl hkj (by decide) rfl (Or.inr rfl)
    · (repeat (first | rw [up_ne (by omega)] | rw [bl_ne (by omega)] | rw [pat_out (by omega)])); rw [pat_in (by omega)]; exact s0_bl hkj (by decide) rfl (Or.inr rfl)
    · (repeat (first | rw [up_ne (by omega)] | rw [bl_ne (by omega)] | rw [pat_out (by omega)])); rw [pat_in (by omega)]; exact s0_bl hkj (by decide) rfl (Or.inr rfl)
    · (repeat (first | rw [up_ne (by omega)] | rw [bl_ne (by omega)] | rw [pat_out (by omega)])); rw [pat_in (by omega)]; exact s0_bl hkj (by decide) rfl (Or.inr rfl)
    · (repeat (first | rw [up_ne (by omega)] | rw [bl_ne (by omega)] | rw [pat_out (by omega)])); rw [up_at (by omega) (by omega), pat_in (by omega)]; exact s0_fo hkj (by decide) (o := 1) rfl (by omega)
  · subst q; (repeat (first | rw [up_ne (by omega)] | rw [bl_ne (by omega)] | rw [pat_out (by omega)])); rw [pat_in (by omega)]; exact bl_s0 (hk.at 1 rfl) (by decide) (arr_sp (hk.at 1 rfl) (by decide))
abbrev M_De_init : MR := (⟨"BracketRoom$Desk", "<init>", "()V"⟩, prog_3_method_1_code, 2, none)
theorem ci_De_init : CI M_De_init 0 := ⟨tk1 34 rfl rfl, rfl, tk1 33 rfl rfl, tk1 2 rfl rfl, by decide, rfl, by decide, by decide, by decide +kernel⟩
theorem dDe_init_0 : decode prog_3_method_1_code 0 = .ok (.aload_n 0, 1) := by decide +kernel
theorem dDe_init_1 : decode prog_3_method_1_code 1 = .ok (.invokespecial 3, 3) := by decide +kernel
theorem dDe_init_4 : decode prog_3_method_1_code 4 = .ok (.aload_n 0, 1) := by decide +kernel
theorem dDe_init_5 : decode prog_3_method_1_code 5 = .ok (.new 9, 3) := by decide +kernel
theorem dDe_init_8 : decode prog_3_method_1_code 8 = .ok (.dup, 1) := by decide +kernel
theorem dDe_init_9 : decode prog_3_method_1_code 9 = .ok (.invokespecial 11, 3) := by decide +kernel
theorem dDe_init_12 : decode prog_3_method_1_code 12 = .ok (.putfield 12, 3) := by decide +kernel
theorem dDe_init_15 : decode prog_3_method_1_code 15 = .ok (.aload_n 0, 1) := by decide +kernel
theorem dDe_init_16 : decode prog_3_method_1_code 16 = .ok (.iconst 4, 1) := by decide +kernel
theorem dDe_init_17 : decode prog_3_method_1_code 17 = .ok (.anewarray 9, 3) := by decide +kernel
theorem dDe_init_20 : decode prog_3_method_1_code 20 = .ok (.putfield 18, 3) := by decide +kernel
theorem dDe_init_23 : decode prog_3_method_1_code 23 = .ok (.aload_n 0, 1) := by decide +kernel
theorem dDe_init_24 : decode prog_3_method_1_code 24 = .ok (.new 22, 3) := by decide +kernel
theorem dDe_init_27 : decode prog_3_method_1_code 27 = .ok (.dup, 1) := by decide +kernel
theorem dDe_init_28 : decode prog_3_method_1_code 28 = .ok (.invokespecial 24, 3) := by decide +kernel
theorem dDe_init_31 : decode prog_3_method_1_code 31 = .ok (.putfield 25, 3) := by decide +kernel
theorem dDe_init_34 : decode prog_3_method_1_code 34 = .ok (.iconst 0, 1) := by decide +kernel
theorem dDe_init_35 : decode prog_3_method_1_code 35 = .ok (.istore_n 1, 1) := by decide +kernel
theorem dDe_init_36 : decode prog_3_method_1_code 36 = .ok (.iload_n 1, 1) := by decide +kernel
theorem dDe_init_37 : decode prog_3_method_1_code 37 = .ok (.iconst 4, 1) := by decide +kernel
theorem dDe_init_38 : decode prog_3_method_1_code 38 = .ok (.if_icmp .ge 22, 3) := by decide +kernel
theorem dDe_init_41 : decode prog_3_method_1_code 41 = .ok (.aload_n 0, 1) := by decide +kernel
theorem dDe_init_42 : decode prog_3_method_1_code 42 = .ok (.getfield 18, 3) := by decide +kernel
theorem dDe_init_45 : decode prog_3_method_1_code 45 = .ok (.iload_n 1, 1) := by decide +kernel
theorem dDe_init_46 : decode prog_3_method_1_code 46 = .ok (.new 9, 3) := by decide +kernel
theorem dDe_init_49 : decode prog_3_method_1_code 49 = .ok (.dup, 1) := by decide +kernel
theorem dDe_init_50 : decode prog_3_method_1_code 50 = .ok (.invokespecial 11, 3) := by decide +kernel
theorem dDe_init_53 : decode prog_3_method_1_code 53 = .ok (.aastore, 1) := by decide +kernel
theorem dDe_init_54 : decode prog_3_method_1_code 54 = .ok (.iinc 1 1, 3) := by decide +kernel
theorem dDe_init_57 : decode prog_3_method_1_code 57 = .ok (.goto (-21), 3) := by decide +kernel
theorem dDe_init_60 : decode prog_3_method_1_code 60 = .ok (.return_, 1) := by decide +kernel
theorem gw_De_12 : FW "BracketRoom$Desk" 12 1 0 := ⟨_, _, _, rfl, by decide, rfl, tk1 101 rfl rfl⟩
theorem gw_De_18 : FW "BracketRoom$Desk" 18 1 1 := ⟨_, _, _, rfl, by decide, rfl, tk1 104 rfl rfl⟩
theorem gw_De_25 : FW "BracketRoom$Desk" 25 1 2 := ⟨_, _, _, rfl, by decide, rfl, tk1 107 rfl rfl⟩
theorem n_Desk {d a : Nat} {σ : SG} {Q : SG → Prop} (hk : kds a [(1, 3), (10, 4), (100, 125), (105, 4), (6, 6), (100, 360), (100, 3), (10, 4), (100, 125), (10, 4), (100, 125), (10, 4), (100, 125), (10, 4), (100, 125)]) (h : Q (pat σ a (a + 15))) : TN (d + 2) (a + 1) (a + 15) M_De_init [vA a] (bl σ a) Q := by
  have hlt := hk.lt 14 rfl (by decide)
  refine TN_intro (ls := [vA (a : Int), vU]) rfl (Nat.le_of_ble_eq_true rfl) rfl ?_
  refine LN_aload_n dDe_init_0 rfl (by omega) ?_
  refine LN_objInit (tk1 35 rfl rfl) (by omega) (Nat.le_of_ble_eq_true rfl) dDe_init_1 ?_
  refine LN_aload_n dDe_init_4 rfl (by omega) ?_
  refine LN_new (ci := 10) rfl (hk.at 1 rfl) (by omega) (tk1 36 rfl rfl) (tk1 37 rfl rfl) (tk1 3 rfl rfl) dDe_init_5 ?_
  refine LN_dup dDe_init_8 n21 ?_
  refine LN_callI (N := M_Wd_init) (n' := a + 3) (As := []) ci_Wd_init rfl (Or.inr (by decide +kernel)) rfl (by omega) (by omega) (by omega) (Nat.le_of_ble_eq_true rfl) dDe_init_9 (n_World (a := a + 1) (hk.sub 1 2 rfl) ?_)
  refine LN_putf gw_De_12 rfl rfl (t := 2) rfl fit_ro (ob_k (hk.at 0 rfl)) (by omega) dDe_init_12 ?_
  refine LN_aload_n dDe_init_15 rfl (by omega) ?_
  refine LN_iconst dDe_init_16 ⟨by decide, by decide⟩ ?_
  refine LN_newQ (C0 := 5) (N := 4) (C := "BracketRoom$World") (fun g => rfl) (by decide) (by decide) (hk.at 3 rfl) rfl (by decide) (by omega) (tk1 36 rfl rfl) dDe_init_17 ?_
  refine LN_putf gw_De_18 rfl rfl (t := 2) rfl fit_ra (ob_k (hk.at 0 rfl)) (by omega) dDe_init_20 ?_
  refine LN_aload_n dDe_init_23 rfl (by omega) ?_
  refine LN_new (ci := 6) rfl (hk.at 4 rfl) (by omega) (tk1 73 rfl rfl) (tk1 74 rfl rfl) (tk1 4 rfl rfl) dDe_init_24 ?_
  refine LN_dup dDe_init_27 n21 ?_
  refine LN_callI (N := M_Sc_init) (n' := a + 7) (As := []) ci_Sc_init rfl (Or.inr (by decide +kernel)) rfl (by omega) (by omega) (by omega) (Nat.le_of_ble_eq_true rfl) dDe_init_28 (n_Script (a := a + 4) (hk.sub 4 3 rfl) ?_)
  refine LN_putf gw_De_25 rfl rfl (t := 2) rfl fit_ro (ob_k (hk.at 0 rfl)) (by omega) dDe_init_31 ?_
  refine LN_iconst dDe_init_34 ⟨by decide, by decide⟩ ?_
  refine LN_istore_n dDe_init_35 (by decide) ?_
  refine LN_iload_n dDe_init_36 rfl ?_
  refine LN_iconst dDe_init_37 ⟨by decide, by decide⟩ ?_
  refine LN_icmp_ge (tgt := 60) dDe_init_38 (by omega) ⟨fun q => absurd q (by decide), fun _ => ?_⟩
  refine LN_aload_n dDe_init_41 rfl (by omega) ?_
  refine LN_getf (x := ((a + 3 : Nat) : Int)) gw_De_18 (t := 2) rfl (by (repeat (first | rw [up_ne (by omega)] | rw [bl_ne (by omega)] | rw [pat_out (by omega)])); exact up_at (by omega) (by omega)) trivial (ob_k (hk.at 0 rfl)) (by omega) dDe_init_42 ?_
  refine LN_iload_n dDe_init_45 rfl ?_
  refine LN_new (ci := 10) rfl (hk.at 7 rfl) (by omega) (tk1 36 rfl rfl) (tk1 37 rfl rfl) (tk1 3 rfl rfl) dDe_init_46 ?_
  refine LN_dup dDe_init_49 n21 ?_
  refine LN_callI (N := M_Wd_init) (n' := a + 9) (As := []) ci_Wd_init rfl (Or.inr (by decide +kernel)) rfl (by omega) (by omega) (by omega) (Nat.le_of_ble_eq_true rfl) dDe_init_50 (n_World (a := a + 7) (hk.sub 7 2 rfl) ?_)
  refine LN_aastore (C0 := 5) (ci := 10) (fun g => rfl) (by decide) rfl (wr_k (hk.at 3 rfl) ⟨by decide, by decide⟩) (by omega) (ob_k (hk.at 7 rfl)) (by omega) dDe_init_53 ?_
  refine LN_iincC (x' := 1) dDe_init_54 rfl (by decide) (by decide) ?_
  refine LN_goto (tgt := 36) dDe_init_57 (by omega) ?_
  refine LN_iload_n dDe_init_36 rfl ?_
  refine LN_iconst dDe_init_37 ⟨by decide, by decide⟩ ?_
  refine LN_icmp_ge (tgt := 60) dDe_init_38 (by omega) ⟨fun q => absurd q (by decide), fun _ => ?_⟩
  refine LN_aload_n dDe_init_41 rfl (by omega) ?_
  refine LN_getf (x := ((a + 3 : Nat) : Int)) gw_De_18 (t := 2) rfl (by (repeat (first | rw [up_ne (by omega)] | rw [bl_ne (by omega)] | rw [pat_out (by omega)])); exact up_at (by omega) (by omega)) trivial (ob_k (hk.at 0 rfl)) (by omega) dDe_init_42 ?_
  refine LN_iload_n dDe_init_45 rfl ?_
  refine LN_new (ci := 10) rfl (hk.at 9 rfl) (by omega) (tk1 36 rfl rfl) (tk1 37 rfl rfl) (tk1 3 rfl rfl) dDe_init_46 ?_
  refine LN_dup dDe_init_49 n21 ?_
  refine LN_callI (N := M_Wd_init) (n' := a + 11) (As := []) ci_Wd_init rfl (Or.inr (by decide +kernel)) rfl (by omega) (by omega) (by omega) (Nat.le_of_ble_eq_true rfl) dDe_init_50 (n_World (a := a + 9) (hk.sub 9 2 rfl) ?_)
  refine LN_aastore (C0 := 5) (ci := 10) (fun g => rfl) (by decide) rfl (wr_k (hk.at 3 rfl) ⟨by decide, by decide⟩) (by omega) (ob_k (hk.at 9 rfl)) (by omega) dDe_init_53 ?_
  refine LN_iincC (x' := 2) dDe_init_54 rfl (by decide) (by decide) ?_
  refine LN_goto (tgt := 36) dDe_init_57 (by omega) ?_
  refine LN_iload_n dDe_init_36 rfl ?_
  refine LN_iconst dDe_init_37 ⟨by decide, by decide⟩ ?_
  refine LN_icmp_ge (tgt := 60) dDe_init_38 (by omega) ⟨fun q => absurd q (by decide), fun _ => ?_⟩
  refine LN_aload_n dDe_init_41 rfl (by omega) ?_
  refine LN_getf (x := ((a + 3 : Nat) : Int)) gw_De_18 (t := 2) rfl (by (repeat (first | rw [up_ne (by omega)] | rw [bl_ne (by omega)] | rw [pat_out (by omega)])); exact up_at (by omega) (by omega)) trivial (ob_k (hk.at 0 rfl)) (by omega) dDe_init_42 ?_
  refine LN_iload_n dDe_init_45 rfl ?_
  refine LN_new (ci := 10) rfl (hk.at 11 rfl) (by omega) (tk1 36 rfl rfl) (tk1 37 rfl rfl) (tk1 3 rfl rfl) dDe_init_46 ?_
  refine LN_dup dDe_init_49 n21 ?_
  refine LN_callI (N := M_Wd_init) (n' := a + 13) (As := []) ci_Wd_init rfl (Or.inr (by decide +kernel)) rfl (by omega) (by omega) (by omega) (Nat.le_of_ble_eq_true rfl) dDe_init_50 (n_World (a := a + 11) (hk.sub 11 2 rfl) ?_)
  refine LN_aastore (C0 := 5) (ci := 10) (fun g => rfl) (by decide) rfl (wr_k (hk.at 3 rfl) ⟨by decide, by decide⟩) (by omega) (ob_k (hk.at 11 rfl)) (by omega) dDe_init_53 ?_
  refine LN_iincC (x' := 3) dDe_init_54 rfl (by decide) (by decide) ?_
  refine LN_goto (tgt := 36) dDe_init_57 (by omega) ?_
  refine LN_iload_n dDe_init_36 rfl ?_
  refine LN_iconst dDe_init_37 ⟨by decide, by decide⟩ ?_
  refine LN_icmp_ge (tgt := 60) dDe_init_38 (by omega) ⟨fun q => absurd q (by decide), fun _ => ?_⟩
  refine LN_aload_n dDe_init_41 rfl (by omega) ?_
  refine LN_getf (x := ((a + 3 : Nat) : Int)) gw_De_18 (t := 2) rfl (by (repeat (first | rw [up_ne (by omega)] | rw [bl_ne (by omega)] | rw [pat_out (by omega)])); exact up_at (by omega) (by omega)) trivial (ob_k (hk.at 0 rfl)) (by omega) dDe_init_42 ?_
  refine LN_iload_n dDe_init_45 rfl ?_
  refine LN_new (ci := 10) rfl (hk.at 13 rfl) (by omega) (tk1 36 rfl rfl) (tk1 37 rfl rfl) (tk1 3 rfl rfl) dDe_init_46 ?_
  refine LN_dup dDe_init_49 n21 ?_
  refine LN_callI (N := M_Wd_init) (n' := a + 15) (As := []) ci_Wd_init rfl (Or.inr (by decide +kernel)) rfl (by omega) (by omega) (by omega) (Nat.le_of_ble_eq_true rfl) dDe_init_50 (n_World (a := a + 13) (hk.sub 13 2 rfl) ?_)
  refine LN_aastore (C0 := 5) (ci := 10) (fun g => rfl) (by decide) rfl (wr_k (hk.at 3 rfl) ⟨by decide, by decide⟩) (by omega) (ob_k (hk.at 13 rfl)) (by omega) dDe_init_53 ?_
  refine LN_iincC (x' := 4) dDe_init_54 rfl (by decide) (by decide) ?_
  refine LN_goto (tgt := 36) dDe_init_57 (by omega) ?_
  refine LN_iload_n dDe_init_36 rfl ?_
  refine LN_iconst dDe_init_37 ⟨by decide, by decide⟩ ?_
  refine LN_icmp_ge (tgt := 60) dDe_init_38 (by omega) ⟨fun _ => ?_, fun q => absurd q (by decide)⟩
  refine LN_return (σ' := pat σ a (a + 15)) (by omega) rfl dDe_init_60 (fun b hb j hj => ?_) h
  rcases (show b < a ∨ b = a ∨ b = a + 3 ∨ (a + 1 ≤ b ∧ b < a + 3) ∨ (a + 4 ≤ b ∧ b < a + 7) ∨ (a + 7 ≤ b ∧ b < a + 9) ∨ (a + 9 ≤ b ∧ b < a + 11) ∨ (a + 11 ≤ b ∧ b < a + 13) ∨ (a + 13 ≤ b ∧ b < a + 15) by omega) with q | q | q | q | q | q | q | q | q
  · (repeat (first | rw [up_ne (by omega)] | rw [bl_ne (by omega)] | rw [pat_out (by omega)]))
  · subst q
    have hkj := (hk.at0 rfl)
    rw [hkj] at hj; simp only at hj
    rcases (show j = 0 ∨ j = 1 ∨ j = 2 by omega) with rfl | rfl | rfl
    · (repeat (first | rw [up_ne (by omega)] | rw [bl_ne (by omega)] | rw [pat_out (by omega)])); rw [up_at (by omega) (by omega), pat_in (by omega)]; exact s0_fo hkj (by decide) (o := 1) rfl (by omega)
    · (repeat (first | rw [up_ne (by omega)] | rw [bl_ne (by omega)] | rw [pat_out (by omega)])); rw [up_at (by omega) (by omega), pat_in (by omega)]; exact s0_fo hkj (by decide) (o := 3) rfl (by omega)
    · (repeat (first | rw [up_ne (by omega)] | rw [bl_ne (by omega)] | rw [pat_out (by omega)])); rw [up_at (by omega) (by omega), pat_in (by omega)]; exact s0_fo hkj (by decide) (o := 4) rfl (by omega)
  · subst q
    have hkj := (hk.at 3 rfl)
    rw [hkj] at hj; simp only at hj
    rcases (show j = 0 ∨ j = 1 ∨ j = 2 ∨ j = 3 by omega) with rfl | rfl | rfl | rfl
    · (repeat (first | rw [up_ne (by omega)] | rw [bl_ne (by omega)] | rw [pat_out (by omega)])); rw [up_at (by omega) (by omega), pat_in (by omega)]; exact s0_ao hkj (by decide) rfl (o1 := 4) (o2 := 2) rfl (by omega)
    · (repeat (first | rw [up_ne (by omega)] | rw [bl_ne (by omega)] | rw [pat_out (by omega)])); rw [up_at (by omega) (by omega), pat_in (by omega)]; exact s0_ao hkj (by decide) rfl (o1 := 4) (o2 := 2) rfl (by omega)
    · (repeat (first | rw [up_ne (by omega)] | rw [bl_ne (by omega)] | rw [pat_out (by omega)])); rw [up_at (by omega) (by omega), pat_in (by omega)]; exact s0_ao hkj (by decide) rfl (o1 := 4) (o2 := 2) rfl (by omega)
    · (repeat (first | rw [up_ne (by omega)] | rw [bl_ne (by omega)] | rw [pat_out (by omega)])); rw [up_at (by omega) (by omega), pat_in (by omega)]; exact s0_ao hkj (by decide) rfl (o1 := 4) (o2 := 2) rfl (by omega)
  · (repeat (first | rw [up_ne (by omega)] | rw [bl_ne (by omega)] | rw [pat_out (by omega)])); rw [pat_in (by omega), pat_in (by omega)]
  · (repeat (first | rw [up_ne (by omega)] | rw [bl_ne (by omega)] | rw [pat_out (by omega)])); rw [pat_in (by omega), pat_in (by omega)]
  · (repeat (first | rw [up_ne (by omega)] | rw [bl_ne (by omega)] | rw [pat_out (by omega)])); rw [pat_in (by omega), pat_in (by omega)]
  · (repeat (first | rw [up_ne (by omega)] | rw [bl_ne (by omega)] | rw [pat_out (by omega)])); rw [pat_in (by omega), pat_in (by omega)]
  · (repeat (first | rw [up_ne (by omega)] | rw [bl_ne (by omega)] | rw [pat_out (by omega)])); rw [pat_in (by omega), pat_in (by omega)]
  · (repeat (first | rw [up_ne (by omega)] | rw [bl_ne (by omega)] | rw [pat_out (by omega)])); rw [pat_in (by omega), pat_in (by omega)]
abbrev M_Sp_init : MR := (⟨"BracketRoom$SpanWalk", "<init>", "()V"⟩, prog_9_method_1_code, 1, none)
theorem ci_Sp_init : CI M_Sp_init 0 := ⟨tk1 214 rfl rfl, rfl, tk1 213 rfl rfl, tk1 9 rfl rfl, by decide, rfl, by decide, by decide, by decide +kernel⟩
theorem dSp_init_0 : decode prog_9_method_1_code 0 = .ok (.aload_n 0, 1) := by decide +kernel
theorem dSp_init_1 : decode prog_9_method_1_code 1 = .ok (.invokespecial 3, 3) := by decide +kernel
theorem dSp_init_4 : decode prog_9_method_1_code 4 = .ok (.aload_n 0, 1) := by decide +kernel
theorem dSp_init_5 : decode prog_9_method_1_code 5 = .ok (.new 9, 3) := by decide +kernel
theorem dSp_init_8 : decode prog_9_method_1_code 8 = .ok (.dup, 1) := by decide +kernel
theorem dSp_init_9 : decode prog_9_method_1_code 9 = .ok (.iconst 5, 1) := by decide +kernel
theorem dSp_init_10 : decode prog_9_method_1_code 10 = .ok (.invokespecial 11, 3) := by decide +kernel
theorem dSp_init_13 : decode prog_9_method_1_code 13 = .ok (.putfield 14, 3) := by decide +kernel
theorem dSp_init_16 : decode prog_9_method_1_code 16 = .ok (.aload_n 0, 1) := by decide +kernel
theorem dSp_init_17 : decode prog_9_method_1_code 17 = .ok (.bipush 25, 2) := by decide +kernel
theorem dSp_init_19 : decode prog_9_method_1_code 19 = .ok (.newarray .int, 2) := by decide +kernel
theorem dSp_init_21 : decode prog_9_method_1_code 21 = .ok (.putfield 20, 3) := by decide +kernel
theorem dSp_init_24 : decode prog_9_method_1_code 24 = .ok (.aload_n 0, 1) := by decide +kernel
theorem dSp_init_25 : decode prog_9_method_1_code 25 = .ok (.iconst 2, 1) := by decide +kernel
theorem dSp_init_26 : decode prog_9_method_1_code 26 = .ok (.putfield 24, 3) := by decide +kernel
theorem dSp_init_29 : decode prog_9_method_1_code 29 = .ok (.return_, 1) := by decide +kernel
theorem gw_Sp_14 : FW "BracketRoom$SpanWalk" 14 7 0 := ⟨_, _, _, rfl, by decide, rfl, tk1 218 rfl rfl⟩
theorem gw_Sp_20 : FW "BracketRoom$SpanWalk" 20 7 1 := ⟨_, _, _, rfl, by decide, rfl, tk1 220 rfl rfl⟩
theorem gw_Sp_24 : FW "BracketRoom$SpanWalk" 24 7 3 := ⟨_, _, _, rfl, by decide, rfl, tk1 222 rfl rfl⟩
theorem n_SpanWalk {d a : Nat} {σ : SG} {Q : SG → Prop} (hk : kds a [(7, 7), (2, 7), (100, 25), (100, 5), (100, 25)]) (h : Q (pat σ a (a + 5))) : TN (d + 2) (a + 1) (a + 5) M_Sp_init [vA a] (bl σ a) Q := by
  have hlt := hk.lt 4 rfl (by decide)
  refine TN_intro (ls := [vA (a : Int)]) rfl (Nat.le_of_ble_eq_true rfl) rfl ?_
  refine LN_aload_n dSp_init_0 rfl (by omega) ?_
  refine LN_objInit (tk1 215 rfl rfl) (by omega) (Nat.le_of_ble_eq_true rfl) dSp_init_1 ?_
  refine LN_aload_n dSp_init_4 rfl (by omega) ?_
  refine LN_new (ci := 2) rfl (hk.at 1 rfl) (by omega) (tk1 216 rfl rfl) (tk1 159 rfl rfl) (tk1 6 rfl rfl) dSp_init_5 ?_
  refine LN_dup dSp_init_8 n21 ?_
  refine LN_iconst dSp_init_9 ⟨by decide, by decide⟩ ?_
  refine LN_callI (N := M_Ec_init) (n' := a + 4) (As := [vI 5]) ci_Ec_init rfl (Or.inl (tk1 217 rfl rfl)) rfl (by omega) (by omega) (by omega) (Nat.le_of_ble_eq_true rfl) dSp_init_10 (n_Ech5 (a := a + 1) (hk.sub 1 3 rfl) ?_)
  refine LN_putf gw_Sp_14 rfl rfl (t := 2) rfl fit_ro (ob_k (hk.at 0 rfl)) (by omega) dSp_init_13 ?_
  refine LN_aload_n dSp_init_16 rfl (by omega) ?_
  refine LN_bipush dSp_init_17 (by decide) ⟨by decide, by decide⟩ ?_
  refine LN_newA (t := 100) (N := 25) (by decide) rfl (hk.at 4 rfl) rfl (by decide) (by omega) dSp_init_19 ?_
  refine LN_putf gw_Sp_20 rfl rfl (t := 2) rfl fit_ra (ob_k (hk.at 0 rfl)) (by omega) dSp_init_21 ?_
  refine LN_aload_n dSp_init_24 rfl (by omega) ?_
  refine LN_iconst dSp_init_25 ⟨by decide, by decide⟩ ?_
  refine LN_putf gw_Sp_24 rfl rfl (t := 0) rfl (fun _ => ⟨rfl, rfl⟩) (ob_k (hk.at 0 rfl)) (by omega) dSp_init_26 ?_
  refine LN_return (σ' := pat σ a (a + 5)) (by omega) rfl dSp_init_29 (fun b hb j hj => ?_) h
  rcases (show b < a ∨ b = a ∨ b = a + 4 ∨ (a + 1 ≤ b ∧ b < a + 4) by omega) with q | q | q | q
  · (repeat (first | rw [up_ne (by omega)] | rw [bl_ne (by omega)] | rw [pat_out (by omega)]))
  · subst q
    have hkj := (hk.at0 rfl)
    rw [hkj] at hj; simp only at hj
    rcases (show j = 0 ∨ j = 1 ∨ j = 2 ∨ j = 3 ∨ j = 4 ∨ j = 5 ∨ j = 6 by omega) with rfl | rfl | rfl | rfl | rfl | rfl | rfl
    · (repeat (first | rw [up_ne (by omega)] | rw [bl_ne (by omega)] | rw [pat_out (by omega)])); rw [up_at (by omega) (by omega), pat_in (by omega)]; exact s0_fo hkj (by decide) (o := 1) rfl (by omega)
    · (repeat (first | rw [up_ne (by omega)] | rw [bl_ne (by omega)] | rw [pat_out (by omega)])); rw [up_at (by omega) (by omega), pat_in (by omega)]; exact s0_fo hkj (by decide) (o := 4) rfl (by omega)
    · (repeat (first | rw [up_ne (by omega)] | rw [bl_ne (by omega)] | rw [pat_out (by omega)])); rw [pat_in (by omega)]; exact s0_bl hkj (by decide) rfl (Or.inr rfl)
    · (repeat (first | rw [up_ne (by omega)] | rw [bl_ne (by omega)] | rw [pat_out (by omega)])); rw [up_at (by omega) (by omega), pat_in (by omega)]; exact s0_c hkj (by decide) rfl (by decide) rfl
    · (repeat (first | rw [up_ne (by omega)] | rw [bl_ne (by omega)] | rw [pat_out (by omega)])); rw [pat_in (by omega)]; exact s0_bl hkj (by decide) rfl (Or.inr rfl)
    · (repeat (first | rw [up_ne (by omega)] | rw [bl_ne (by omega)] | rw [pat_out (by omega)])); rw [pat_in (by omega)]; exact s0_bl hkj (by decide) rfl (Or.inr rfl)
    · (repeat (first | rw [up_ne (by omega)] | rw [bl_ne (by omega)] | rw [pat_out (by omega)])); rw [pat_in (by omega)]; exact s0_bl hkj (by decide) rfl (Or.inr rfl)
  · subst q; (repeat (first | rw [up_ne (by omega)] | rw [bl_ne (by omega)] | rw [pat_out (by omega)])); rw [pat_in (by omega)]; exact bl_s0 (hk.at 4 rfl) (by decide) (arr_sp (hk.at 4 rfl) (by decide))
  · (repeat (first | rw [up_ne (by omega)] | rw [bl_ne (by omega)] | rw [pat_out (by omega)])); rw [pat_in (by omega), pat_in (by omega)]
abbrev M_An_init : MR := (⟨"BracketRoom$Anatomy", "<init>", "()V"⟩, prog_2_method_1_code, 1, none)
theorem ci_An_init : CI M_An_init 0 := ⟨tk1 206 rfl rfl, rfl, tk1 205 rfl rfl, tk1 8 rfl rfl, by decide, rfl, by decide, by decide, by decide +kernel⟩
theorem dAn_init_0 : decode prog_2_method_1_code 0 = .ok (.aload_n 0, 1) := by decide +kernel
theorem dAn_init_1 : decode prog_2_method_1_code 1 = .ok (.invokespecial 3, 3) := by decide +kernel
theorem dAn_init_4 : decode prog_2_method_1_code 4 = .ok (.aload_n 0, 1) := by decide +kernel
theorem dAn_init_5 : decode prog_2_method_1_code 5 = .ok (.new 9, 3) := by decide +kernel
theorem dAn_init_8 : decode prog_2_method_1_code 8 = .ok (.dup, 1) := by decide +kernel
theorem dAn_init_9 : decode prog_2_method_1_code 9 = .ok (.iconst 5, 1) := by decide +kernel
theorem dAn_init_10 : decode prog_2_method_1_code 10 = .ok (.invokespecial 11, 3) := by decide +kernel
theorem dAn_init_13 : decode prog_2_method_1_code 13 = .ok (.putfield 14, 3) := by decide +kernel
theorem dAn_init_16 : decode prog_2_method_1_code 16 = .ok (.aload_n 0, 1) := by decide +kernel
theorem dAn_init_17 : decode prog_2_method_1_code 17 = .ok (.new 9, 3) := by decide +kernel
theorem dAn_init_20 : decode prog_2_method_1_code 20 = .ok (.dup, 1) := by decide +kernel
theorem dAn_init_21 : decode prog_2_method_1_code 21 = .ok (.iconst 5, 1) := by decide +kernel
theorem dAn_init_22 : decode prog_2_method_1_code 22 = .ok (.invokespecial 11, 3) := by decide +kernel
theorem dAn_init_25 : decode prog_2_method_1_code 25 = .ok (.putfield 20, 3) := by decide +kernel
theorem dAn_init_28 : decode prog_2_method_1_code 28 = .ok (.aload_n 0, 1) := by decide +kernel
theorem dAn_init_29 : decode prog_2_method_1_code 29 = .ok (.new 9, 3) := by decide +kernel
theorem dAn_init_32 : decode prog_2_method_1_code 32 = .ok (.dup, 1) := by decide +kernel
theorem dAn_init_33 : decode prog_2_method_1_code 33 = .ok (.iconst 5, 1) := by decide +kernel
theorem dAn_init_34 : decode prog_2_method_1_code 34 = .ok (.invokespecial 11, 3) := by decide +kernel
theorem dAn_init_37 : decode prog_2_method_1_code 37 = .ok (.putfield 23, 3) := by decide +kernel
theorem dAn_init_40 : decode prog_2_method_1_code 40 = .ok (.aload_n 0, 1) := by decide +kernel
theorem dAn_init_41 : decode prog_2_method_1_code 41 = .ok (.new 9, 3) := by decide +kernel
theorem dAn_init_44 : decode prog_2_method_1_code 44 = .ok (.dup, 1) := by decide +kernel
theorem dAn_init_45 : decode prog_2_method_1_code 45 = .ok (.iconst 5, 1) := by decide +kernel
theorem dAn_init_46 : decode prog_2_method_1_code 46 = .ok (.invokespecial 11, 3) := by decide +kernel
theorem dAn_init_49 : decode prog_2_method_1_code 49 = .ok (.putfield 26, 3) := by decide +kernel
theorem dAn_init_52 : decode prog_2_method_1_code 52 = .ok (.aload_n 0, 1) := by decide +kernel
theorem dAn_init_53 : decode prog_2_method_1_code 53 = .ok (.new 9, 3) := by decide +kernel
theorem dAn_init_56 : decode prog_2_method_1_code 56 = .ok (.dup, 1) := by decide +kernel
theorem dAn_init_57 : decode prog_2_method_1_code 57 = .ok (.iconst 5, 1) := by decide +kernel
theorem dAn_init_58 : decode prog_2_method_1_code 58 = .ok (.invokespecial 11, 3) := by decide +kernel
theorem dAn_init_61 : decode prog_2_method_1_code 61 = .ok (.putfield 29, 3) := by decide +kernel
theorem dAn_init_64 : decode prog_2_method_1_code 64 = .ok (.aload_n 0, 1) := by decide +kernel
theorem dAn_init_65 : decode prog_2_method_1_code 65 = .ok (.new 9, 3) := by decide +kernel
theorem dAn_init_68 : decode prog_2_method_1_code 68 = .ok (.dup, 1) := by decide +kernel
theorem dAn_init_69 : decode prog_2_method_1_code 69 = .ok (.iconst 5, 1) := by decide +kernel
theorem dAn_init_70 : decode prog_2_method_1_code 70 = .ok (.invokespecial 11, 3) := by decide +kernel
theorem dAn_init_73 : decode prog_2_method_1_code 73 = .ok (.putfield 32, 3) := by decide +kernel
theorem dAn_init_76 : decode prog_2_method_1_code 76 = .ok (.aload_n 0, 1) := by decide +kernel
theorem dAn_init_77 : decode prog_2_method_1_code 77 = .ok (.new 35, 3) := by decide +kernel
theorem dAn_init_80 : decode prog_2_method_1_code 80 = .ok (.dup, 1) := by decide +kernel
theorem dAn_init_81 : decode prog_2_method_1_code 81 = .ok (.invokespecial 37, 3) := by decide +kernel
theorem dAn_init_84 : decode prog_2_method_1_code 84 = .ok (.putfield 38, 3) := by decide +kernel
theorem dAn_init_87 : decode prog_2_method_1_code 87 = .ok (.aload_n 0, 1) := by decide +kernel
theorem dAn_init_88 : decode prog_2_method_1_code 88 = .ok (.iconst 5, 1) := by decide +kernel
theorem dAn_init_89 : decode prog_2_method_1_code 89 = .ok (.newarray .int, 2) := by decide +kernel
theorem dAn_init_91 : decode prog_2_method_1_code 91 = .ok (.putfield 42, 3) := by decide +kernel
theorem dAn_init_94 : decode prog_2_method_1_code 94 = .ok (.aload_n 0, 1) := by decide +kernel
theorem dAn_init_95 : decode prog_2_method_1_code 95 = .ok (.bipush 25, 2) := by decide +kernel
theorem dAn_init_97 : decode prog_2_method_1_code 97 = .ok (.newarray .int, 2) := by decide +kernel
theorem dAn_init_99 : decode prog_2_method_1_code 99 = .ok (.putfield 46, 3) := by decide +kernel
theorem dAn_init_102 : decode prog_2_method_1_code 102 = .ok (.return_, 1) := by decide +kernel
theorem gw_An_14 : FW "BracketRoom$Anatomy" 14 0 0 := ⟨_, _, _, rfl, by decide, rfl, tk2 1 rfl rfl⟩
theorem gw_An_20 : FW "BracketRoom$Anatomy" 20 0 1 := ⟨_, _, _, rfl, by decide, rfl, tk2 2 rfl rfl⟩
theorem gw_An_23 : FW "BracketRoom$Anatomy" 23 0 2 := ⟨_, _, _, rfl, by decide, rfl, tk2 3 rfl rfl⟩
theorem gw_An_26 : FW "BracketRoom$Anatomy" 26 0 3 := ⟨_, _, _, rfl, by decide, rfl, tk2 4 rfl rfl⟩
theorem gw_An_29 : FW "BracketRoom$Anatomy" 29 0 4 := ⟨_, _, _, rfl, by decide, rfl, tk2 5 rfl rfl⟩
theorem gw_An_32 : FW "BracketRoom$Anatomy" 32 0 5 := ⟨_, _, _, rfl, by decide, rfl, tk2 6 rfl rfl⟩
theorem gw_An_38 : FW "BracketRoom$Anatomy" 38 0 6 := ⟨_, _, _, rfl, by decide, rfl, tk2 7 rfl rfl⟩
theorem gw_An_42 : FW "BracketRoom$Anatomy" 42 0 7 := ⟨_, _, _, rfl, by decide, rfl, tk2 8 rfl rfl⟩
theorem gw_An_46 : FW "BracketRoom$Anatomy" 46 0 8 := ⟨_, _, _, rfl, by decide, rfl, tk2 9 rfl rfl⟩
theorem n_Anatomy {d a : Nat} {σ : SG} {Q : SG → Prop} (hk : kds a [(0, 9), (2, 7), (100, 25), (100, 5), (2, 7), (100, 25), (100, 5), (2, 7), (100, 25), (100, 5), (2, 7), (100, 25), (100, 5), (2, 7), (100, 25), (100, 5), (2, 7), (100, 25), (100, 5), (7, 7), (2, 7), (100, 25), (100, 5), (100, 25), (100, 5), (100, 25)]) (h : Q (pat σ a (a + 26))) : TN (d + 3) (a + 1) (a + 26) M_An_init [vA a] (bl σ a) Q := by
  have hlt := hk.lt 25 rfl (by decide)
  refine TN_intro (ls := [vA (a : Int)]) rfl (Nat.le_of_ble_eq_true rfl) rfl ?_
  refine LN_aload_n dAn_init_0 rfl (by omega) ?_
  refine LN_objInit (tk1 207 rfl rfl) (by omega) (Nat.le_of_ble_eq_true rfl) dAn_init_1 ?_
  refine LN_aload_n dAn_init_4 rfl (by omega) ?_
  refine LN_new (ci := 2) rfl (hk.at 1 rfl) (by omega) (tk1 208 rfl rfl) (tk1 159 rfl rfl) (tk1 6 rfl rfl) dAn_init_5 ?_
  refine LN_dup dAn_init_8 n21 ?_
  refine LN_iconst dAn_init_9 ⟨by decide, by decide⟩ ?_
  refine LN_callI (N := M_Ec_init) (n' := a + 4) (As := [vI 5]) ci_Ec_init rfl (Or.inl (tk1 209 rfl rfl)) rfl (by omega) (by omega) (by omega) (Nat.le_of_ble_eq_true rfl) dAn_init_10 (n_Ech5 (a := a + 1) (hk.sub 1 3 rfl) ?_)
  refine LN_putf gw_An_14 rfl rfl (t := 2) rfl fit_ro (ob_k (hk.at 0 rfl)) (by omega) dAn_init_13 ?_
  refine LN_aload_n dAn_init_16 rfl (by omega) ?_
  refine LN_new (ci := 2) rfl (hk.at 4 rfl) (by omega) (tk1 208 rfl rfl) (tk1 159 rfl rfl) (tk1 6 rfl rfl) dAn_init_17 ?_
  refine LN_dup dAn_init_20 n21 ?_
  refine LN_iconst dAn_init_21 ⟨by decide, by decide⟩ ?_
  refine LN_callI (N := M_Ec_init) (n' := a + 7) (As := [vI 5]) ci_Ec_init rfl (Or.inl (tk1 209 rfl rfl)) rfl (by omega) (by omega) (by omega) (Nat.le_of_ble_eq_true rfl) dAn_init_22 (n_Ech5 (a := a + 4) (hk.sub 4 3 rfl) ?_)
  refine LN_putf gw_An_20 rfl rfl (t := 2) rfl fit_ro (ob_k (hk.at 0 rfl)) (by omega) dAn_init_25 ?_
  refine LN_aload_n dAn_init_28 rfl (by omega) ?_
  refine LN_new (ci := 2) rfl (hk.at 7 rfl) (by omega) (tk1 208 rfl rfl) (tk1 159 rfl rfl) (tk1 6 rfl rfl) dAn_init_29 ?_
  refine LN_dup dAn_init_32 n21 ?_
  refine LN_iconst dAn_init_33 ⟨by decide, by decide⟩ ?_
  refine LN_callI (N := M_Ec_init) (n' := a + 10) (As := [vI 5]) ci_Ec_init rfl (Or.inl (tk1 209 rfl rfl)) rfl (by omega) (by omega) (by omega) (Nat.le_of_ble_eq_true rfl) dAn_init_34 (n_Ech5 (a := a + 7) (hk.sub 7 3 rfl) ?_)
  refine LN_putf gw_An_23 rfl rfl (t := 2) rfl fit_ro (ob_k (hk.at 0 rfl)) (by omega) dAn_init_37 ?_
  refine LN_aload_n dAn_init_40 rfl (by omega) ?_
  refine LN_new (ci := 2) rfl (hk.at 10 rfl) (by omega) (tk1 208 rfl rfl) (tk1 159 rfl rfl) (tk1 6 rfl rfl) dAn_init_41 ?_
  refine LN_dup dAn_init_44 n21 ?_
  refine LN_iconst dAn_init_45 ⟨by decide, by decide⟩ ?_
  refine LN_callI (N := M_Ec_init) (n' := a + 13) (As := [vI 5]) ci_Ec_init rfl (Or.inl (tk1 209 rfl rfl)) rfl (by omega) (by omega) (by omega) (Nat.le_of_ble_eq_true rfl) dAn_init_46 (n_Ech5 (a := a + 10) (hk.sub 10 3 rfl) ?_)
  refine LN_putf gw_An_26 rfl rfl (t := 2) rfl fit_ro (ob_k (hk.at 0 rfl)) (by omega) dAn_init_49 ?_
  refine LN_aload_n dAn_init_52 rfl (by omega) ?_
  refine LN_new (ci := 2) rfl (hk.at 13 rfl) (by omega) (tk1 208 rfl rfl) (tk1 159 rfl rfl) (tk1 6 rfl rfl) dAn_init_53 ?_
  refine LN_dup dAn_init_56 n21 ?_
  refine LN_iconst dAn_init_57 ⟨by decide, by decide⟩ ?_
  refine LN_callI (N := M_Ec_init) (n' := a + 16) (As := [vI 5]) ci_Ec_init rfl (Or.inl (tk1 209 rfl rfl)) rfl (by omega) (by omega) (by omega) (Nat.le_of_ble_eq_true rfl) dAn_init_58 (n_Ech5 (a := a + 13) (hk.sub 13 3 rfl) ?_)
  refine LN_putf gw_An_29 rfl rfl (t := 2) rfl fit_ro (ob_k (hk.at 0 rfl)) (by omega) dAn_init_61 ?_
  refine LN_aload_n dAn_init_64 rfl (by omega) ?_
  refine LN_new (ci := 2) rfl (hk.at 16 rfl) (by omega) (tk1 208 rfl rfl) (tk1 159 rfl rfl) (tk1 6 rfl rfl) dAn_init_65 ?_
  refine LN_dup dAn_init_68 n21 ?_
  refine LN_iconst dAn_init_69 ⟨by decide, by decide⟩ ?_
  refine LN_callI (N := M_Ec_init) (n' := a + 19) (As := [vI 5]) ci_Ec_init rfl (Or.inl (tk1 209 rfl rfl)) rfl (by omega) (by omega) (by omega) (Nat.le_of_ble_eq_true rfl) dAn_init_70 (n_Ech5 (a := a + 16) (hk.sub 16 3 rfl) ?_)
  refine LN_putf gw_An_32 rfl rfl (t := 2) rfl fit_ro (ob_k (hk.at 0 rfl)) (by omega) dAn_init_73 ?_
  refine LN_aload_n dAn_init_76 rfl (by omega) ?_
  refine LN_new (ci := 7) rfl (hk.at 19 rfl) (by omega) (tk1 210 rfl rfl) (tk1 211 rfl rfl) (tk1 9 rfl rfl) dAn_init_77 ?_
  refine LN_dup dAn_init_80 n21 ?_
  refine LN_callI (N := M_Sp_init) (n' := a + 24) (As := []) ci_Sp_init rfl (Or.inr (by decide +kernel)) rfl (by omega) (by omega) (by omega) (Nat.le_of_ble_eq_true rfl) dAn_init_81 (n_SpanWalk (a := a + 19) (hk.sub 19 5 rfl) ?_)
  refine LN_putf gw_An_38 rfl rfl (t := 2) rfl fit_ro (ob_k (hk.at 0 rfl)) (by omega) dAn_init_84 ?_
  refine LN_aload_n dAn_init_87 rfl (by omega) ?_
  refine LN_iconst dAn_init_88 ⟨by decide, by decide⟩ ?_
  refine LN_newA (t := 100) (N := 5) (by decide) rfl (hk.at 24 rfl) rfl (by decide) (by omega) dAn_init_89 ?_
  refine LN_putf gw_An_42 rfl rfl (t := 2) rfl fit_ra (ob_k (hk.at 0 rfl)) (by omega) dAn_init_91 ?_
  refine LN_aload_n dAn_init_94 rfl (by omega) ?_
  refine LN_bipush dAn_init_95 (by decide) ⟨by decide, by decide⟩ ?_
  refine LN_newA (t := 100) (N := 25) (by decide) rfl (hk.at 25 rfl) rfl (by decide) (by omega) dAn_init_97 ?_
  refine LN_putf gw_An_46 rfl rfl (t := 2) rfl fit_ra (ob_k (hk.at 0 rfl)) (by omega) dAn_init_99 ?_
  refine LN_return (σ' := pat σ a (a + 26)) (by omega) rfl dAn_init_102 (fun b hb j hj => ?_) h
  rcases (show b < a ∨ b = a ∨ b = a + 24 ∨ b = a + 25 ∨ (a + 1 ≤ b ∧ b < a + 4) ∨ (a + 4 ≤ b ∧ b < a + 7) ∨ (a + 7 ≤ b ∧ b < a + 10) ∨ (a + 10 ≤ b ∧ b < a + 13) ∨ (a + 13 ≤ b ∧ b < a + 16) ∨ (a + 16 ≤ b ∧ b < a + 19) ∨ (a + 19 ≤ b ∧ b < a + 24) by omega) with q | q | q | q | q | q | q | q | q | q | q
  · (repeat (first | rw [up_ne (by omega)] | rw [bl_ne (by omega)] | rw [pat_out (by omega)]))
  · subst q
    have hkj := (hk.at0 rfl)
    rw [hkj] at hj; simp only at hj
    rcases (show j = 0 ∨ j = 1 ∨ j = 2 ∨ j = 3 ∨ j = 4 ∨ j = 5 ∨ j = 6 ∨ j = 7 ∨ j = 8 by omega) with rfl | rfl | rfl | rfl | rfl | rfl | rfl | rfl | rfl
    · (repeat (first | rw [up_ne (by omega)] | rw [bl_ne (by omega)] | rw [pat_out (by omega)])); rw [up_at (by omega) (by omega), pat_in (by omega)]; exact s0_fo hkj (by decide) (o := 1) rfl (by omega)
    · (repeat (first | rw [up_ne (by omega)] | rw [bl_ne (by omega)] | rw [pat_out (by omega)])); rw [up_at (by omega) (by omega), pat_in (by omega)]; exact s0_fo hkj (by decide) (o := 4) rfl (by omega)
    · (repeat (first | rw [up_ne (by omega)] | rw [bl_ne (by omega)] | rw [pat_out (by omega)])); rw [up_at (by omega) (by omega), pat_in (by omega)]; exact s0_fo hkj (by decide) (o := 7) rfl (by omega)
    · (repeat (first | rw [up_ne (by omega)] | rw [bl_ne (by omega)] | rw [pat_out (by omega)])); rw [up_at (by omega) (by omega), pat_in (by omega)]; exact s0_fo hkj (by decide) (o := 10) rfl (by omega)
    · (repeat (first | rw [up_ne (by omega)] | rw [bl_ne (by omega)] | rw [pat_out (by omega)])); rw [up_at (by omega) (by omega), pat_in (by omega)]; exact s0_fo hkj (by decide) (o := 13) rfl (by omega)
    · (repeat (first | rw [up_ne (by omega)] | rw [bl_ne (by omega)] | rw [pat_out (by omega)])); rw [up_at (by omega) (by omega), pat_in (by omega)]; exact s0_fo hkj (by decide) (o := 16) rfl (by omega)
    · (repeat (first | rw [up_ne (by omega)] | rw [bl_ne (by omega)] | rw [pat_out (by omega)])); rw [up_at (by omega) (by omega), pat_in (by omega)]; exact s0_fo hkj (by decide) (o := 19) rfl (by omega)
    · (repeat (first | rw [up_ne (by omega)] | rw [bl_ne (by omega)] | rw [pat_out (by omega)])); rw [up_at (by omega) (by omega), pat_in (by omega)]; exact s0_fo hkj (by decide) (o := 24) rfl (by omega)
    · (repeat (first | rw [up_ne (by omega)] | rw [bl_ne (by omega)] | rw [pat_out (by omega)])); rw [up_at (by omega) (by omega), pat_in (by omega)]; exact s0_fo hkj (by decide) (o := 25) rfl (by omega)
  · subst q; (repeat (first | rw [up_ne (by omega)] | rw [bl_ne (by omega)] | rw [pat_out (by omega)])); rw [pat_in (by omega)]; exact bl_s0 (hk.at 24 rfl) (by decide) (arr_sp (hk.at 24 rfl) (by decide))
  · subst q; (repeat (first | rw [up_ne (by omega)] | rw [bl_ne (by omega)] | rw [pat_out (by omega)])); rw [pat_in (by omega)]; exact bl_s0 (hk.at 25 rfl) (by decide) (arr_sp (hk.at 25 rfl) (by decide))
  · (repeat (first | rw [up_ne (by omega)] | rw [bl_ne (by omega)] | rw [pat_out (by omega)])); rw [pat_in (by omega), pat_in (by omega)]
  · (repeat (first | rw [up_ne (by omega)] | rw [bl_ne (by omega)] | rw [pat_out (by omega)])); rw [pat_in (by omega), pat_in (by omega)]
  · (repeat (first | rw [up_ne (by omega)] | rw [bl_ne (by omega)] | rw [pat_out (by omega)])); rw [pat_in (by omega), pat_in (by omega)]
  · (repeat (first | rw [up_ne (by omega)] | rw [bl_ne (by omega)] | rw [pat_out (by omega)])); rw [pat_in (by omega), pat_in (by omega)]
  · (repeat (first | rw [up_ne (by omega)] | rw [bl_ne (by omega)] | rw [pat_out (by omega)])); rw [pat_in (by omega), pat_in (by omega)]
  · (repeat (first | rw [up_ne (by omega)] | rw [bl_ne (by omega)] | rw [pat_out (by omega)])); rw [pat_in (by omega), pat_in (by omega)]
  · (repeat (first | rw [up_ne (by omega)] | rw [bl_ne (by omega)] | rw [pat_out (by omega)])); rw [pat_in (by omega), pat_in (by omega)]
abbrev M_Me_init : MR := (⟨"BracketRoom$Measures", "<init>", "()V"⟩, prog_6_method_1_code, 1, none)
theorem ci_Me_init : CI M_Me_init 0 := ⟨tk2 33 rfl rfl, rfl, tk2 32 rfl rfl, tk1 10 rfl rfl, by decide, rfl, by decide, by decide, by decide +kernel⟩
theorem dMe_init_0 : decode prog_6_method_1_code 0 = .ok (.aload_n 0, 1) := by decide +kernel
theorem dMe_init_1 : decode prog_6_method_1_code 1 = .ok (.invokespecial 3, 3) := by decide +kernel
theorem dMe_init_4 : decode prog_6_method_1_code 4 = .ok (.aload_n 0, 1) := by decide +kernel
theorem dMe_init_5 : decode prog_6_method_1_code 5 = .ok (.new 9, 3) := by decide +kernel
theorem dMe_init_8 : decode prog_6_method_1_code 8 = .ok (.dup, 1) := by decide +kernel
theorem dMe_init_9 : decode prog_6_method_1_code 9 = .ok (.bipush 25, 2) := by decide +kernel
theorem dMe_init_11 : decode prog_6_method_1_code 11 = .ok (.invokespecial 11, 3) := by decide +kernel
theorem dMe_init_14 : decode prog_6_method_1_code 14 = .ok (.putfield 14, 3) := by decide +kernel
theorem dMe_init_17 : decode prog_6_method_1_code 17 = .ok (.aload_n 0, 1) := by decide +kernel
theorem dMe_init_18 : decode prog_6_method_1_code 18 = .ok (.bipush 25, 2) := by decide +kernel
theorem dMe_init_20 : decode prog_6_method_1_code 20 = .ok (.newarray .int, 2) := by decide +kernel
theorem dMe_init_22 : decode prog_6_method_1_code 22 = .ok (.putfield 20, 3) := by decide +kernel
theorem dMe_init_25 : decode prog_6_method_1_code 25 = .ok (.aload_n 0, 1) := by decide +kernel
theorem dMe_init_26 : decode prog_6_method_1_code 26 = .ok (.bipush 25, 2) := by decide +kernel
theorem dMe_init_28 : decode prog_6_method_1_code 28 = .ok (.newarray .int, 2) := by decide +kernel
theorem dMe_init_30 : decode prog_6_method_1_code 30 = .ok (.putfield 24, 3) := by decide +kernel
theorem dMe_init_33 : decode prog_6_method_1_code 33 = .ok (.aload_n 0, 1) := by decide +kernel
theorem dMe_init_34 : decode prog_6_method_1_code 34 = .ok (.bipush 25, 2) := by decide +kernel
theorem dMe_init_36 : decode prog_6_method_1_code 36 = .ok (.newarray .int, 2) := by decide +kernel
theorem dMe_init_38 : decode prog_6_method_1_code 38 = .ok (.putfield 27, 3) := by decide +kernel
theorem dMe_init_41 : decode prog_6_method_1_code 41 = .ok (.aload_n 0, 1) := by decide +kernel
theorem dMe_init_42 : decode prog_6_method_1_code 42 = .ok (.bipush 25, 2) := by decide +kernel
theorem dMe_init_44 : decode prog_6_method_1_code 44 = .ok (.newarray .int, 2) := by decide +kernel
theorem dMe_init_46 : decode prog_6_method_1_code 46 = .ok (.putfield 30, 3) := by decide +kernel
theorem dMe_init_49 : decode prog_6_method_1_code 49 = .ok (.aload_n 0, 1) := by decide +kernel
theorem dMe_init_50 : decode prog_6_method_1_code 50 = .ok (.iconst 5, 1) := by decide +kernel
theorem dMe_init_51 : decode prog_6_method_1_code 51 = .ok (.newarray .int, 2) := by decide +kernel
theorem dMe_init_53 : decode prog_6_method_1_code 53 = .ok (.putfield 33, 3) := by decide +kernel
theorem dMe_init_56 : decode prog_6_method_1_code 56 = .ok (.aload_n 0, 1) := by decide +kernel
theorem dMe_init_57 : decode prog_6_method_1_code 57 = .ok (.bipush 32, 2) := by decide +kernel
theorem dMe_init_59 : decode prog_6_method_1_code 59 = .ok (.newarray .int, 2) := by decide +kernel
theorem dMe_init_61 : decode prog_6_method_1_code 61 = .ok (.putfield 36, 3) := by decide +kernel
theorem dMe_init_64 : decode prog_6_method_1_code 64 = .ok (.return_, 1) := by decide +kernel
theorem gw_Me_14 : FW "BracketRoom$Measures" 14 4 0 := ⟨_, _, _, rfl, by decide, rfl, tk2 37 rfl rfl⟩
theorem gw_Me_20 : FW "BracketRoom$Measures" 20 4 1 := ⟨_, _, _, rfl, by decide, rfl, tk2 38 rfl rfl⟩
theorem gw_Me_24 : FW "BracketRoom$Measures" 24 4 2 := ⟨_, _, _, rfl, by decide, rfl, tk2 39 rfl rfl⟩
theorem gw_Me_27 : FW "BracketRoom$Measures" 27 4 3 := ⟨_, _, _, rfl, by decide, rfl, tk2 40 rfl rfl⟩
theorem gw_Me_30 : FW "BracketRoom$Measures" 30 4 4 := ⟨_, _, _, rfl, by decide, rfl, tk2 41 rfl rfl⟩
theorem gw_Me_33 : FW "BracketRoom$Measures" 33 4 5 := ⟨_, _, _, rfl, by decide, rfl, tk2 42 rfl rfl⟩
theorem gw_Me_36 : FW "BracketRoom$Measures" 36 4 6 := ⟨_, _, _, rfl, by decide, rfl, tk2 43 rfl rfl⟩
theorem n_Measures {d a : Nat} {σ : SG} {Q : SG → Prop} (hk : kds a [(4, 7), (2, 7), (100, 625), (100, 25), (100, 25), (100, 25), (100, 25), (100, 25), (100, 5), (100, 32)]) (h : Q (pat σ a (a + 10))) : TN (d + 2) (a + 1) (a + 10) M_Me_init [vA a] (bl σ a) Q := by
  have hlt := hk.lt 9 rfl (by decide)
  refine TN_intro (ls := [vA (a : Int)]) rfl (Nat.le_of_ble_eq_true rfl) rfl ?_
  refine LN_aload_n dMe_init_0 rfl (by omega) ?_
  refine LN_objInit (tk2 34 rfl rfl) (by omega) (Nat.le_of_ble_eq_true rfl) dMe_init_1 ?_
  refine LN_aload_n dMe_init_4 rfl (by omega) ?_
  refine LN_new (ci := 2) rfl (hk.at 1 rfl) (by omega) (tk2 35 rfl rfl) (tk1 159 rfl rfl) (tk1 6 rfl rfl) dMe_init_5 ?_
  refine LN_dup dMe_init_8 n21 ?_
  refine LN_bipush dMe_init_9 (by decide) ⟨by decide, by decide⟩ ?_
  refine LN_callI (N := M_Ec_init) (n' := a + 4) (As := [vI 25]) ci_Ec_init rfl (Or.inl (tk2 36 rfl rfl)) rfl (by omega) (by omega) (by omega) (Nat.le_of_ble_eq_true rfl) dMe_init_11 (n_Ech25 (a := a + 1) (hk.sub 1 3 rfl) ?_)
  refine LN_putf gw_Me_14 rfl rfl (t := 2) rfl fit_ro (ob_k (hk.at 0 rfl)) (by omega) dMe_init_14 ?_
  refine LN_aload_n dMe_init_17 rfl (by omega) ?_
  refine LN_bipush dMe_init_18 (by decide) ⟨by decide, by decide⟩ ?_
  refine LN_newA (t := 100) (N := 25) (by decide) rfl (hk.at 4 rfl) rfl (by decide) (by omega) dMe_init_20 ?_
  refine LN_putf gw_Me_20 rfl rfl (t := 2) rfl fit_ra (ob_k (hk.at 0 rfl)) (by omega) dMe_init_22 ?_
  refine LN_aload_n dMe_init_25 rfl (by omega) ?_
  refine LN_bipush dMe_init_26 (by decide) ⟨by decide, by decide⟩ ?_
  refine LN_newA (t := 100) (N := 25) (by decide) rfl (hk.at 5 rfl) rfl (by decide) (by omega) dMe_init_28 ?_
  refine LN_putf gw_Me_24 rfl rfl (t := 2) rfl fit_ra (ob_k (hk.at 0 rfl)) (by omega) dMe_init_30 ?_
  refine LN_aload_n dMe_init_33 rfl (by omega) ?_
  refine LN_bipush dMe_init_34 (by decide) ⟨by decide, by decide⟩ ?_
  refine LN_newA (t := 100) (N := 25) (by decide) rfl (hk.at 6 rfl) rfl (by decide) (by omega) dMe_init_36 ?_
  refine LN_putf gw_Me_27 rfl rfl (t := 2) rfl fit_ra (ob_k (hk.at 0 rfl)) (by omega) dMe_init_38 ?_
  refine LN_aload_n dMe_init_41 rfl (by omega) ?_
  refine LN_bipush dMe_init_42 (by decide) ⟨by decide, by decide⟩ ?_
  refine LN_newA (t := 100) (N := 25) (by decide) rfl (hk.at 7 rfl) rfl (by decide) (by omega) dMe_init_44 ?_
  refine LN_putf gw_Me_30 rfl rfl (t := 2) rfl fit_ra (ob_k (hk.at 0 rfl)) (by omega) dMe_init_46 ?_
  refine LN_aload_n dMe_init_49 rfl (by omega) ?_
  refine LN_iconst dMe_init_50 ⟨by decide, by decide⟩ ?_
  refine LN_newA (t := 100) (N := 5) (by decide) rfl (hk.at 8 rfl) rfl (by decide) (by omega) dMe_init_51 ?_
  refine LN_putf gw_Me_33 rfl rfl (t := 2) rfl fit_ra (ob_k (hk.at 0 rfl)) (by omega) dMe_init_53 ?_
  refine LN_aload_n dMe_init_56 rfl (by omega) ?_
  refine LN_bipush dMe_init_57 (by decide) ⟨by decide, by decide⟩ ?_
  refine LN_newA (t := 100) (N := 32) (by decide) rfl (hk.at 9 rfl) rfl (by decide) (by omega) dMe_init_59 ?_
  refine LN_putf gw_Me_36 rfl rfl (t := 2) rfl fit_ra (ob_k (hk.at 0 rfl)) (by omega) dMe_init_61 ?_
  refine LN_return (σ' := pat σ a (a + 10)) (by omega) rfl dMe_init_64 (fun b hb j hj => ?_) h
  rcases (show b < a ∨ b = a ∨ b = a + 4 ∨ b = a + 5 ∨ b = a + 6 ∨ b = a + 7 ∨ b = a + 8 ∨ b = a + 9 ∨ (a + 1 ≤ b ∧ b < a + 4) by omega) with q | q | q | q | q | q | q | q | q
  · (repeat (first | rw [up_ne (by omega)] | rw [bl_ne (by omega)] | rw [pat_out (by omega)]))
  · subst q
    have hkj := (hk.at0 rfl)
    rw [hkj] at hj; simp only at hj
    rcases (show j = 0 ∨ j = 1 ∨ j = 2 ∨ j = 3 ∨ j = 4 ∨ j = 5 ∨ j = 6 by omega) with rfl | rfl | rfl | rfl | rfl | rfl | rfl
    · (repeat (first | rw [up_ne (by omega)] | rw [bl_ne (by omega)] | rw [pat_out (by omega)])); rw [up_at (by omega) (by omega), pat_in (by omega)]; exact s0_fo hkj (by decide) (o := 1) rfl (by omega)
    · (repeat (first | rw [up_ne (by omega)] | rw [bl_ne (by omega)] | rw [pat_out (by omega)])); rw [up_at (by omega) (by omega), pat_in (by omega)]; exact s0_fo hkj (by decide) (o := 4) rfl (by omega)
    · (repeat (first | rw [up_ne (by omega)] | rw [bl_ne (by omega)] | rw [pat_out (by omega)])); rw [up_at (by omega) (by omega), pat_in (by omega)]; exact s0_fo hkj (by decide) (o := 5) rfl (by omega)
    · (repeat (first | rw [up_ne (by omega)] | rw [bl_ne (by omega)] | rw [pat_out (by omega)])); rw [up_at (by omega) (by omega), pat_in (by omega)]; exact s0_fo hkj (by decide) (o := 6) rfl (by omega)
    · (repeat (first | rw [up_ne (by omega)] | rw [bl_ne (by omega)] | rw [pat_out (by omega)])); rw [up_at (by omega) (by omega), pat_in (by omega)]; exact s0_fo hkj (by decide) (o := 7) rfl (by omega)
    · (repeat (first | rw [up_ne (by omega)] | rw [bl_ne (by omega)] | rw [pat_out (by omega)])); rw [up_at (by omega) (by omega), pat_in (by omega)]; exact s0_fo hkj (by decide) (o := 8) rfl (by omega)
    · (repeat (first | rw [up_ne (by omega)] | rw [bl_ne (by omega)] | rw [pat_out (by omega)])); rw [up_at (by omega) (by omega), pat_in (by omega)]; exact s0_fo hkj (by decide) (o := 9) rfl (by omega)
  · subst q; (repeat (first | rw [up_ne (by omega)] | rw [bl_ne (by omega)] | rw [pat_out (by omega)])); rw [pat_in (by omega)]; exact bl_s0 (hk.at 4 rfl) (by decide) (arr_sp (hk.at 4 rfl) (by decide))
  · subst q; (repeat (first | rw [up_ne (by omega)] | rw [bl_ne (by omega)] | rw [pat_out (by omega)])); rw [pat_in (by omega)]; exact bl_s0 (hk.at 5 rfl) (by decide) (arr_sp (hk.at 5 rfl) (by decide))
  · subst q; (repeat (first | rw [up_ne (by omega)] | rw [bl_ne (by omega)] | rw [pat_out (by omega)])); rw [pat_in (by omega)]; exact bl_s0 (hk.at 6 rfl) (by decide) (arr_sp (hk.at 6 rfl) (by decide))
  · subst q; (repeat (first | rw [up_ne (by omega)] | rw [bl_ne (by omega)] | rw [pat_out (by omega)])); rw [pat_in (by omega)]; exact bl_s0 (hk.at 7 rfl) (by decide) (arr_sp (hk.at 7 rfl) (by decide))
  · subst q; (repeat (first | rw [up_ne (by omega)] | rw [bl_ne (by omega)] | rw [pat_out (by omega)])); rw [pat_in (by omega)]; exact bl_s0 (hk.at 8 rfl) (by decide) (arr_sp (hk.at 8 rfl) (by decide))
  · subst q; (repeat (first | rw [up_ne (by omega)] | rw [bl_ne (by omega)] | rw [pat_out (by omega)])); rw [pat_in (by omega)]; exact bl_s0 (hk.at 9 rfl) (by decide) (arr_sp (hk.at 9 rfl) (by decide))
  · (repeat (first | rw [up_ne (by omega)] | rw [bl_ne (by omega)] | rw [pat_out (by omega)])); rw [pat_in (by omega), pat_in (by omega)]
abbrev M_Ma_init : MR := (⟨"BracketRoom$MapSearch", "<init>", "()V"⟩, prog_5_method_1_code, 2, none)
theorem ci_Ma_init : CI M_Ma_init 0 := ⟨tk2 63 rfl rfl, rfl, tk2 62 rfl rfl, tk1 11 rfl rfl, by decide, rfl, by decide, by decide, by decide +kernel⟩
theorem dMa_init_0 : decode prog_5_method_1_code 0 = .ok (.aload_n 0, 1) := by decide +kernel
theorem dMa_init_1 : decode prog_5_method_1_code 1 = .ok (.invokespecial 3, 3) := by decide +kernel
theorem dMa_init_4 : decode prog_5_method_1_code 4 = .ok (.aload_n 0, 1) := by decide +kernel
theorem dMa_init_5 : decode prog_5_method_1_code 5 = .ok (.bipush 25, 2) := by decide +kernel
theorem dMa_init_7 : decode prog_5_method_1_code 7 = .ok (.newarray .int, 2) := by decide +kernel
theorem dMa_init_9 : decode prog_5_method_1_code 9 = .ok (.putfield 9, 3) := by decide +kernel
theorem dMa_init_12 : decode prog_5_method_1_code 12 = .ok (.aload_n 0, 1) := by decide +kernel
theorem dMa_init_13 : decode prog_5_method_1_code 13 = .ok (.bipush 125, 2) := by decide +kernel
theorem dMa_init_15 : decode prog_5_method_1_code 15 = .ok (.newarray .int, 2) := by decide +kernel
theorem dMa_init_17 : decode prog_5_method_1_code 17 = .ok (.putfield 15, 3) := by decide +kernel
theorem dMa_init_20 : decode prog_5_method_1_code 20 = .ok (.aload_n 0, 1) := by decide +kernel
theorem dMa_init_21 : decode prog_5_method_1_code 21 = .ok (.bipush 25, 2) := by decide +kernel
theorem dMa_init_23 : decode prog_5_method_1_code 23 = .ok (.newarray .int, 2) := by decide +kernel
theorem dMa_init_25 : decode prog_5_method_1_code 25 = .ok (.putfield 18, 3) := by decide +kernel
theorem dMa_init_28 : decode prog_5_method_1_code 28 = .ok (.aload_n 0, 1) := by decide +kernel
theorem dMa_init_29 : decode prog_5_method_1_code 29 = .ok (.iconst 5, 1) := by decide +kernel
theorem dMa_init_30 : decode prog_5_method_1_code 30 = .ok (.newarray .int, 2) := by decide +kernel
theorem dMa_init_32 : decode prog_5_method_1_code 32 = .ok (.putfield 21, 3) := by decide +kernel
theorem dMa_init_35 : decode prog_5_method_1_code 35 = .ok (.aload_n 0, 1) := by decide +kernel
theorem dMa_init_36 : decode prog_5_method_1_code 36 = .ok (.iconst 5, 1) := by decide +kernel
theorem dMa_init_37 : decode prog_5_method_1_code 37 = .ok (.anewarray 24, 3) := by decide +kernel
theorem dMa_init_40 : decode prog_5_method_1_code 40 = .ok (.putfield 26, 3) := by decide +kernel
theorem dMa_init_43 : decode prog_5_method_1_code 43 = .ok (.aload_n 0, 1) := by decide +kernel
theorem dMa_init_44 : decode prog_5_method_1_code 44 = .ok (.new 30, 3) := by decide +kernel
theorem dMa_init_47 : decode prog_5_method_1_code 47 = .ok (.dup, 1) := by decide +kernel
theorem dMa_init_48 : decode prog_5_method_1_code 48 = .ok (.invokespecial 32, 3) := by decide +kernel
theorem dMa_init_51 : decode prog_5_method_1_code 51 = .ok (.putfield 33, 3) := by decide +kernel
theorem dMa_init_54 : decode prog_5_method_1_code 54 = .ok (.aload_n 0, 1) := by decide +kernel
theorem dMa_init_55 : decode prog_5_method_1_code 55 = .ok (.new 30, 3) := by decide +kernel
theorem dMa_init_58 : decode prog_5_method_1_code 58 = .ok (.dup, 1) := by decide +kernel
theorem dMa_init_59 : decode prog_5_method_1_code 59 = .ok (.invokespecial 32, 3) := by decide +kernel
theorem dMa_init_62 : decode prog_5_method_1_code 62 = .ok (.putfield 37, 3) := by decide +kernel
theorem dMa_init_65 : decode prog_5_method_1_code 65 = .ok (.aload_n 0, 1) := by decide +kernel
theorem dMa_init_66 : decode prog_5_method_1_code 66 = .ok (.sipush 512, 3) := by decide +kernel
theorem dMa_init_69 : decode prog_5_method_1_code 69 = .ok (.newarray .int, 2) := by decide +kernel
theorem dMa_init_71 : decode prog_5_method_1_code 71 = .ok (.putfield 40, 3) := by decide +kernel
theorem dMa_init_74 : decode prog_5_method_1_code 74 = .ok (.iconst 0, 1) := by decide +kernel
theorem dMa_init_75 : decode prog_5_method_1_code 75 = .ok (.istore_n 1, 1) := by decide +kernel
theorem dMa_init_76 : decode prog_5_method_1_code 76 = .ok (.iload_n 1, 1) := by decide +kernel
theorem dMa_init_77 : decode prog_5_method_1_code 77 = .ok (.iconst 5, 1) := by decide +kernel
theorem dMa_init_78 : decode prog_5_method_1_code 78 = .ok (.if_icmp .ge 23, 3) := by decide +kernel
theorem dMa_init_81 : decode prog_5_method_1_code 81 = .ok (.aload_n 0, 1) := by decide +kernel
theorem dMa_init_82 : decode prog_5_method_1_code 82 = .ok (.getfield 26, 3) := by decide +kernel
theorem dMa_init_85 : decode prog_5_method_1_code 85 = .ok (.iload_n 1, 1) := by decide +kernel
theorem dMa_init_86 : decode prog_5_method_1_code 86 = .ok (.new 24, 3) := by decide +kernel
theorem dMa_init_89 : decode prog_5_method_1_code 89 = .ok (.dup, 1) := by decide +kernel
theorem dMa_init_90 : decode prog_5_method_1_code 90 = .ok (.iconst 5, 1) := by decide +kernel
theorem dMa_init_91 : decode prog_5_method_1_code 91 = .ok (.invokespecial 43, 3) := by decide +kernel
theorem dMa_init_94 : decode prog_5_method_1_code 94 = .ok (.aastore, 1) := by decide +kernel
theorem dMa_init_95 : decode prog_5_method_1_code 95 = .ok (.iinc 1 1, 3) := by decide +kernel
theorem dMa_init_98 : decode prog_5_method_1_code 98 = .ok (.goto (-22), 3) := by decide +kernel
theorem dMa_init_101 : decode prog_5_method_1_code 101 = .ok (.return_, 1) := by decide +kernel
theorem gw_Ma_9 : FW "BracketRoom$MapSearch" 9 3 3 := ⟨_, _, _, rfl, by decide, rfl, tk2 76 rfl rfl⟩
theorem gw_Ma_15 : FW "BracketRoom$MapSearch" 15 3 4 := ⟨_, _, _, rfl, by decide, rfl, tk2 77 rfl rfl⟩
theorem gw_Ma_18 : FW "BracketRoom$MapSearch" 18 3 5 := ⟨_, _, _, rfl, by decide, rfl, tk2 78 rfl rfl⟩
theorem gw_Ma_21 : FW "BracketRoom$MapSearch" 21 3 6 := ⟨_, _, _, rfl, by decide, rfl, tk2 79 rfl rfl⟩
theorem gw_Ma_26 : FW "BracketRoom$MapSearch" 26 3 7 := ⟨_, _, _, rfl, by decide, rfl, tk2 80 rfl rfl⟩
theorem gw_Ma_33 : FW "BracketRoom$MapSearch" 33 3 8 := ⟨_, _, _, rfl, by decide, rfl, tk2 81 rfl rfl⟩
theorem gw_Ma_37 : FW "BracketRoom$MapSearch" 37 3 9 := ⟨_, _, _, rfl, by decide, rfl, tk2 82 rfl rfl⟩
theorem gw_Ma_40 : FW "BracketRoom$MapSearch" 40 3 10 := ⟨_, _, _, rfl, by decide, rfl, tk2 83 rfl rfl⟩
theorem n_MapSearch {d a : Nat} {σ : SG} {Q : SG → Prop} (hk : kds a [(3, 11), (100, 25), (100, 125), (100, 25), (100, 5), (106, 5), (10, 4), (100, 125), (10, 4), (100, 125), (100, 512), (2, 7), (100, 25), (100, 5), (2, 7), (100, 25), (100, 5), (2, 7), (100, 25), (100, 5), (2, 7), (100, 25), (100, 5), (2, 7), (100, 25), (100, 5)]) (h : Q (pat σ a (a + 26))) : TN (d + 2) (a + 1) (a + 26) M_Ma_init [vA a] (bl σ a) Q := by
  have hlt := hk.lt 25 rfl (by decide)
  refine TN_intro (ls := [vA (a : Int), vU]) rfl (Nat.le_of_ble_eq_true rfl) rfl ?_
  refine LN_aload_n dMa_init_0 rfl (by omega) ?_
  refine LN_objInit (tk2 64 rfl rfl) (by omega) (Nat.le_of_ble_eq_true rfl) dMa_init_1 ?_
  refine LN_aload_n dMa_init_4 rfl (by omega) ?_
  refine LN_bipush dMa_init_5 (by decide) ⟨by decide, by decide⟩ ?_
  refine LN_newA (t := 100) (N := 25) (by decide) rfl (hk.at 1 rfl) rfl (by decide) (by omega) dMa_init_7 ?_
  refine LN_putf gw_Ma_9 rfl rfl (t := 2) rfl fit_ra (ob_k (hk.at 0 rfl)) (by omega) dMa_init_9 ?_
  refine LN_aload_n dMa_init_12 rfl (by omega) ?_
  refine LN_bipush dMa_init_13 (by decide) ⟨by decide, by decide⟩ ?_
  refine LN_newA (t := 100) (N := 125) (by decide) rfl (hk.at 2 rfl) rfl (by decide) (by omega) dMa_init_15 ?_
  refine LN_putf gw_Ma_15 rfl rfl (t := 2) rfl fit_ra (ob_k (hk.at 0 rfl)) (by omega) dMa_init_17 ?_
  refine LN_aload_n dMa_init_20 rfl (by omega) ?_
  refine LN_bipush dMa_init_21 (by decide) ⟨by decide, by decide⟩ ?_
  refine LN_newA (t := 100) (N := 25) (by decide) rfl (hk.at 3 rfl) rfl (by decide) (by omega) dMa_init_23 ?_
  refine LN_putf gw_Ma_18 rfl rfl (t := 2) rfl fit_ra (ob_k (hk.at 0 rfl)) (by omega) dMa_init_25 ?_
  refine LN_aload_n dMa_init_28 rfl (by omega) ?_
  refine LN_iconst dMa_init_29 ⟨by decide, by decide⟩ ?_
  refine LN_newA (t := 100) (N := 5) (by decide) rfl (hk.at 4 rfl) rfl (by decide) (by omega) dMa_init_30 ?_
  refine LN_putf gw_Ma_21 rfl rfl (t := 2) rfl fit_ra (ob_k (hk.at 0 rfl)) (by omega) dMa_init_32 ?_
  refine LN_aload_n dMa_init_35 rfl (by omega) ?_
  refine LN_iconst dMa_init_36 ⟨by decide, by decide⟩ ?_
  refine LN_newQ (C0 := 6) (N := 5) (C := "BracketRoom$Echelon") (fun g => rfl) (by decide) (by decide) (hk.at 5 rfl) rfl (by decide) (by omega) (tk2 65 rfl rfl) dMa_init_37 ?_
  refine LN_putf gw_Ma_26 rfl rfl (t := 2) rfl fit_ra (ob_k (hk.at 0 rfl)) (by omega) dMa_init_40 ?_
  refine LN_aload_n dMa_init_43 rfl (by omega) ?_
  refine LN_new (ci := 10) rfl (hk.at 6 rfl) (by omega) (tk2 67 rfl rfl) (tk1 37 rfl rfl) (tk1 3 rfl rfl) dMa_init_44 ?_
  refine LN_dup dMa_init_47 n21 ?_
  refine LN_callI (N := M_Wd_init) (n' := a + 8) (As := []) ci_Wd_init rfl (Or.inr (by decide +kernel)) rfl (by omega) (by omega) (by omega) (Nat.le_of_ble_eq_true rfl) dMa_init_48 (n_World (a := a + 6) (hk.sub 6 2 rfl) ?_)
  refine LN_putf gw_Ma_33 rfl rfl (t := 2) rfl fit_ro (ob_k (hk.at 0 rfl)) (by omega) dMa_init_51 ?_
  refine LN_aload_n dMa_init_54 rfl (by omega) ?_
  refine LN_new (ci := 10) rfl (hk.at 8 rfl) (by omega) (tk2 67 rfl rfl) (tk1 37 rfl rfl) (tk1 3 rfl rfl) dMa_init_55 ?_
  refine LN_dup dMa_init_58 n21 ?_
  refine LN_callI (N := M_Wd_init) (n' := a + 10) (As := []) ci_Wd_init rfl (Or.inr (by decide +kernel)) rfl (by omega) (by omega) (by omega) (Nat.le_of_ble_eq_true rfl) dMa_init_59 (n_World (a := a + 8) (hk.sub 8 2 rfl) ?_)
  refine LN_putf gw_Ma_37 rfl rfl (t := 2) rfl fit_ro (ob_k (hk.at 0 rfl)) (by omega) dMa_init_62 ?_
  refine LN_aload_n dMa_init_65 rfl (by omega) ?_
  refine LN_sipush dMa_init_66 (by decide) ⟨by decide, by decide⟩ ?_
  refine LN_newA (t := 100) (N := 512) (by decide) rfl (hk.at 10 rfl) rfl (by decide) (by omega) dMa_init_69 ?_
  refine LN_putf gw_Ma_40 rfl rfl (t := 2) rfl fit_ra (ob_k (hk.at 0 rfl)) (by omega) dMa_init_71 ?_
  refine LN_iconst dMa_init_74 ⟨by decide, by decide⟩ ?_
  refine LN_istore_n dMa_init_75 (by decide) ?_
  refine LN_iload_n dMa_init_76 rfl ?_
  refine LN_iconst dMa_init_77 ⟨by decide, by decide⟩ ?_
  refine LN_icmp_ge (tgt := 101) dMa_init_78 (by omega) ⟨fun q => absurd q (by decide), fun _ => ?_⟩
  refine LN_aload_n dMa_init_81 rfl (by omega) ?_
  refine LN_getf (x := ((a + 5 : Nat) : Int)) gw_Ma_26 (t := 2) rfl (by (repeat (first | rw [up_ne (by omega)] | rw [bl_ne (by omega)] | rw [pat_out (by omega)])); exact up_at (by omega) (by omega)) trivial (ob_k (hk.at 0 rfl)) (by omega) dMa_init_82 ?_
  refine LN_iload_n dMa_init_85 rfl ?_
  refine LN_new (ci := 2) rfl (hk.at 11 rfl) (by omega) (tk2 65 rfl rfl) (tk1 159 rfl rfl) (tk1 6 rfl rfl) dMa_init_86 ?_
  refine LN_dup dMa_init_89 n21 ?_
  refine LN_iconst dMa_init_90 ⟨by decide, by decide⟩ ?_
  refine LN_callI (N := M_Ec_init) (n' := a + 14) (As := [vI 5]) ci_Ec_init rfl (Or.inl (tk2 69 rfl rfl)) rfl (by omega) (by omega) (by omega) (Nat.le_of_ble_eq_true rfl) dMa_init_91 (n_Ech5 (a := a + 11) (hk.sub 11 3 rfl) ?_)
  refine LN_aastore (C0 := 6) (ci := 2) (fun g => rfl) (by decide) rfl (wr_k (hk.at 5 rfl) ⟨by decide, by decide⟩) (by omega) (ob_k (hk.at 11 rfl)) (by omega) dMa_init_94 ?_
  refine LN_iincC (x' := 1) dMa_init_95 rfl (by decide) (by decide) ?_
  refine LN_goto (tgt := 76) dMa_init_98 (by omega) ?_
  refine LN_iload_n dMa_init_76 rfl ?_
  refine LN_iconst dMa_init_77 ⟨by decide, by decide⟩ ?_
  refine LN_icmp_ge (tgt := 101) dMa_init_78 (by omega) ⟨fun q => absurd q (by decide), fun _ => ?_⟩
  refine LN_aload_n dMa_init_81 rfl (by omega) ?_
  refine LN_getf (x := ((a + 5 : Nat) : Int)) gw_Ma_26 (t := 2) rfl (by (repeat (first | rw [up_ne (by omega)] | rw [bl_ne (by omega)] | rw [pat_out (by omega)])); exact up_at (by omega) (by omega)) trivial (ob_k (hk.at 0 rfl)) (by omega) dMa_init_82 ?_
  refine LN_iload_n dMa_init_85 rfl ?_
  refine LN_new (ci := 2) rfl (hk.at 14 rfl) (by omega) (tk2 65 rfl rfl) (tk1 159 rfl rfl) (tk1 6 rfl rfl) dMa_init_86 ?_
  refine LN_dup dMa_init_89 n21 ?_
  refine LN_iconst dMa_init_90 ⟨by decide, by decide⟩ ?_
  refine LN_callI (N := M_Ec_init) (n' := a + 17) (As := [vI 5]) ci_Ec_init rfl (Or.inl (tk2 69 rfl rfl)) rfl (by omega) (by omega) (by omega) (Nat.le_of_ble_eq_true rfl) dMa_init_91 (n_Ech5 (a := a + 14) (hk.sub 14 3 rfl) ?_)
  refine LN_aastore (C0 := 6) (ci := 2) (fun g => rfl) (by decide) rfl (wr_k (hk.at 5 rfl) ⟨by decide, by decide⟩) (by omega) (ob_k (hk.at 14 rfl)) (by omega) dMa_init_94 ?_
  refine LN_iincC (x' := 2) dMa_init_95 rfl (by decide) (by decide) ?_
  refine LN_goto (tgt := 76) dMa_init_98 (by omega) ?_
  refine LN_iload_n dMa_init_76 rfl ?_
  refine LN_iconst dMa_init_77 ⟨by decide, by decide⟩ ?_
  refine LN_icmp_ge (tgt := 101) dMa_init_78 (by omega) ⟨fun q => absurd q (by decide), fun _ => ?_⟩
  refine LN_aload_n dMa_init_81 rfl (by omega) ?_
  refine LN_getf (x := ((a + 5 : Nat) : Int)) gw_Ma_26 (t := 2) rfl (by (repeat (first | rw [up_ne (by omega)] | rw [bl_ne (by omega)] | rw [pat_out (by omega)])); exact up_at (by omega) (by omega)) trivial (ob_k (hk.at 0 rfl)) (by omega) dMa_init_82 ?_
  refine LN_iload_n dMa_init_85 rfl ?_
  refine LN_new (ci := 2) rfl (hk.at 17 rfl) (by omega) (tk2 65 rfl rfl) (tk1 159 rfl rfl) (tk1 6 rfl rfl) dMa_init_86 ?_
  refine LN_dup dMa_init_89 n21 ?_
  refine LN_iconst dMa_init_90 ⟨by decide, by decide⟩ ?_
  refine LN_callI (N := M_Ec_init) (n' := a + 20) (As := [vI 5]) ci_Ec_init rfl (Or.inl (tk2 69 rfl rfl)) rfl (by omega) (by omega) (by omega) (Nat.le_of_ble_eq_true rfl) dMa_init_91 (n_Ech5 (a := a + 17) (hk.sub 17 3 rfl) ?_)
  refine LN_aastore (C0 := 6) (ci := 2) (fun g => rfl) (by decide) rfl (wr_k (hk.at 5 rfl) ⟨by decide, by decide⟩) (by omega) (ob_k (hk.at 17 rfl)) (by omega) dMa_init_94 ?_
  refine LN_iincC (x' := 3) dMa_init_95 rfl (by decide) (by decide) ?_
  refine LN_goto (tgt := 76) dMa_init_98 (by omega) ?_
  refine LN_iload_n dMa_init_76 rfl ?_
  refine LN_iconst dMa_init_77 ⟨by decide, by decide⟩ ?_
  refine LN_icmp_ge (tgt := 101) dMa_init_78 (by omega) ⟨fun q => absurd q (by decide), fun _ => ?_⟩
  refine LN_aload_n dMa_init_81 rfl (by omega) ?_
  refine LN_getf (x := ((a + 5 : Nat) : Int)) gw_Ma_26 (t := 2) rfl (by (repeat (first | rw [up_ne (by omega)] | rw [bl_ne (by omega)] | rw [pat_out (by omega)])); exact up_at (by omega) (by omega)) trivial (ob_k (hk.at 0 rfl)) (by omega) dMa_init_82 ?_
  refine LN_iload_n dMa_init_85 rfl ?_
  refine LN_new (ci := 2) rfl (hk.at 20 rfl) (by omega) (tk2 65 rfl rfl) (tk1 159 rfl rfl) (tk1 6 rfl rfl) dMa_init_86 ?_
  refine LN_dup dMa_init_89 n21 ?_
  refine LN_iconst dMa_init_90 ⟨by decide, by decide⟩ ?_
  refine LN_callI (N := M_Ec_init) (n' := a + 23) (As := [vI 5]) ci_Ec_init rfl (Or.inl (tk2 69 rfl rfl)) rfl (by omega) (by omega) (by omega) (Nat.le_of_ble_eq_true rfl) dMa_init_91 (n_Ech5 (a := a + 20) (hk.sub 20 3 rfl) ?_)
  refine LN_aastore (C0 := 6) (ci := 2) (fun g => rfl) (by decide) rfl (wr_k (hk.at 5 rfl) ⟨by decide, by decide⟩) (by omega) (ob_k (hk.at 20 rfl)) (by omega) dMa_init_94 ?_
  refine LN_iincC (x' := 4) dMa_init_95 rfl (by decide) (by decide) ?_
  refine LN_goto (tgt := 76) dMa_init_98 (by omega) ?_
  refine LN_iload_n dMa_init_76 rfl ?_
  refine LN_iconst dMa_init_77 ⟨by decide, by decide⟩ ?_
  refine LN_icmp_ge (tgt := 101) dMa_init_78 (by omega) ⟨fun q => absurd q (by decide), fun _ => ?_⟩
  refine LN_aload_n dMa_init_81 rfl (by omega) ?_
  refine LN_getf (x := ((a + 5 : Nat) : Int)) gw_Ma_26 (t := 2) rfl (by (repeat (first | rw [up_ne (by omega)] | rw [bl_ne (by omega)] | rw [pat_out (by omega)])); exact up_at (by omega) (by omega)) trivial (ob_k (hk.at 0 rfl)) (by omega) dMa_init_82 ?_
  refine LN_iload_n dMa_init_85 rfl ?_
  refine LN_new (ci := 2) rfl (hk.at 23 rfl) (by omega) (tk2 65 rfl rfl) (tk1 159 rfl rfl) (tk1 6 rfl rfl) dMa_init_86 ?_
  refine LN_dup dMa_init_89 n21 ?_
  refine LN_iconst dMa_init_90 ⟨by decide, by decide⟩ ?_
  refine LN_callI (N := M_Ec_init) (n' := a + 26) (As := [vI 5]) ci_Ec_init rfl (Or.inl (tk2 69 rfl rfl)) rfl (by omega) (by omega) (by omega) (Nat.le_of_ble_eq_true rfl) dMa_init_91 (n_Ech5 (a := a + 23) (hk.sub 23 3 rfl) ?_)
  refine LN_aastore (C0 := 6) (ci := 2) (fun g => rfl) (by decide) rfl (wr_k (hk.at 5 rfl) ⟨by decide, by decide⟩) (by omega) (ob_k (hk.at 23 rfl)) (by omega) dMa_init_94 ?_
  refine LN_iincC (x' := 5) dMa_init_95 rfl (by decide) (by decide) ?_
  refine LN_goto (tgt := 76) dMa_init_98 (by omega) ?_
  refine LN_iload_n dMa_init_76 rfl ?_
  refine LN_iconst dMa_init_77 ⟨by decide, by decide⟩ ?_
  refine LN_icmp_ge (tgt := 101) dMa_init_78 (by omega) ⟨fun _ => ?_, fun q => absurd q (by decide)⟩
  refine LN_return (σ' := pat σ a (a + 26)) (by omega) rfl dMa_init_101 (fun b hb j hj => ?_) h
  rcases (show b < a ∨ b = a ∨ b = a + 1 ∨ b = a + 2 ∨ b = a + 3 ∨ b = a + 4 ∨ b = a + 5 ∨ b = a + 10 ∨ (a + 6 ≤ b ∧ b < a + 8) ∨ (a + 8 ≤ b ∧ b < a + 10) ∨ (a + 11 ≤ b ∧ b < a + 14) ∨ (a + 14 ≤ b ∧ b < a + 17) ∨ (a + 17 ≤ b ∧ b < a + 20) ∨ (a + 20 ≤ b ∧ b < a + 23) ∨ (a + 23 ≤ b ∧ b < a + 26) by omega) with q | q | q | q | q | q | q | q | q | q | q | q | q | q | q
  · (repeat (first | rw [up_ne (by omega)] | rw [bl_ne (by omega)] | rw [pat_out (by omega)]))
  · subst q
    have hkj := (hk.at0 rfl)
    rw [hkj] at hj; simp only at hj
    rcases (show j = 0 ∨ j = 1 ∨ j = 2 ∨ j = 3 ∨ j = 4 ∨ j = 5 ∨ j = 6 ∨ j = 7 ∨ j = 8 ∨ j = 9 ∨ j = 10 by omega) with rfl | rfl | rfl | rfl | rfl | rfl | rfl | rfl | rfl | rfl | rfl
    · (repeat (first | rw [up_ne (by omega)] | rw [bl_ne (by omega)] | rw [pat_out (by omega)])); rw [pat_in (by omega)]; exact s0_bl hkj (by decide) rfl (Or.inr rfl)
    · (repeat (first | rw [up_ne (by omega)] | rw [bl_ne (by omega)] | rw [pat_out (by omega)])); rw [pat_in (by omega)]; exact s0_bl hkj (by decide) rfl (Or.inr rfl)
    · (repeat (first | rw [up_ne (by omega)] | rw [bl_ne (by omega)] | rw [pat_out (by omega)])); rw [pat_in (by omega)]; exact s0_bl hkj (by decide) rfl (Or.inr rfl)
    · (repeat (first | rw [up_ne (by omega)] | rw [bl_ne (by omega)] | rw [pat_out (by omega)])); rw [up_at (by omega) (by omega), pat_in (by omega)]; exact s0_fo hkj (by decide) (o := 1) rfl (by omega)
    · (repeat (first | rw [up_ne (by omega)] | rw [bl_ne (by omega)] | rw [pat_out (by omega)])); rw [up_at (by omega) (by omega), pat_in (by omega)]; exact s0_fo hkj (by decide) (o := 2) rfl (by omega)
    · (repeat (first | rw [up_ne (by omega)] | rw [bl_ne (by omega)] | rw [pat_out (by omega)])); rw [up_at (by omega) (by omega), pat_in (by omega)]; exact s0_fo hkj (by decide) (o := 3) rfl (by omega)
    · (repeat (first | rw [up_ne (by omega)] | rw [bl_ne (by omega)] | rw [pat_out (by omega)])); rw [up_at (by omega) (by omega), pat_in (by omega)]; exact s0_fo hkj (by decide) (o := 4) rfl (by omega)
    · (repeat (first | rw [up_ne (by omega)] | rw [bl_ne (by omega)] | rw [pat_out (by omega)])); rw [up_at (by omega) (by omega), pat_in (by omega)]; exact s0_fo hkj (by decide) (o := 5) rfl (by omega)
    · (repeat (first | rw [up_ne (by omega)] | rw [bl_ne (by omega)] | rw [pat_out (by omega)])); rw [up_at (by omega) (by omega), pat_in (by omega)]; exact s0_fo hkj (by decide) (o := 6) rfl (by omega)
    · (repeat (first | rw [up_ne (by omega)] | rw [bl_ne (by omega)] | rw [pat_out (by omega)])); rw [up_at (by omega) (by omega), pat_in (by omega)]; exact s0_fo hkj (by decide) (o := 8) rfl (by omega)
    · (repeat (first | rw [up_ne (by omega)] | rw [bl_ne (by omega)] | rw [pat_out (by omega)])); rw [up_at (by omega) (by omega), pat_in (by omega)]; exact s0_fo hkj (by decide) (o := 10) rfl (by omega)
  · subst q; (repeat (first | rw [up_ne (by omega)] | rw [bl_ne (by omega)] | rw [pat_out (by omega)])); rw [pat_in (by omega)]; exact bl_s0 (hk.at 1 rfl) (by decide) (arr_sp (hk.at 1 rfl) (by decide))
  · subst q; (repeat (first | rw [up_ne (by omega)] | rw [bl_ne (by omega)] | rw [pat_out (by omega)])); rw [pat_in (by omega)]; exact bl_s0 (hk.at 2 rfl) (by decide) (arr_sp (hk.at 2 rfl) (by decide))
  · subst q; (repeat (first | rw [up_ne (by omega)] | rw [bl_ne (by omega)] | rw [pat_out (by omega)])); rw [pat_in (by omega)]; exact bl_s0 (hk.at 3 rfl) (by decide) (arr_sp (hk.at 3 rfl) (by decide))
  · subst q; (repeat (first | rw [up_ne (by omega)] | rw [bl_ne (by omega)] | rw [pat_out (by omega)])); rw [pat_in (by omega)]; exact bl_s0 (hk.at 4 rfl) (by decide) (arr_sp (hk.at 4 rfl) (by decide))
  · subst q
    have hkj := (hk.at 5 rfl)
    rw [hkj] at hj; simp only at hj
    rcases (show j = 0 ∨ j = 1 ∨ j = 2 ∨ j = 3 ∨ j = 4 by omega) with rfl | rfl | rfl | rfl | rfl
    · (repeat (first | rw [up_ne (by omega)] | rw [bl_ne (by omega)] | rw [pat_out (by omega)])); rw [up_at (by omega) (by omega), pat_in (by omega)]; exact s0_ao hkj (by decide) rfl (o1 := 6) (o2 := 3) rfl (by omega)
    · (repeat (first | rw [up_ne (by omega)] | rw [bl_ne (by omega)] | rw [pat_out (by omega)])); rw [up_at (by omega) (by omega), pat_in (by omega)]; exact s0_ao hkj (by decide) rfl (o1 := 6) (o2 := 3) rfl (by omega)
    · (repeat (first | rw [up_ne (by omega)] | rw [bl_ne (by omega)] | rw [pat_out (by omega)])); rw [up_at (by omega) (by omega), pat_in (by omega)]; exact s0_ao hkj (by decide) rfl (o1 := 6) (o2 := 3) rfl (by omega)
    · (repeat (first | rw [up_ne (by omega)] | rw [bl_ne (by omega)] | rw [pat_out (by omega)])); rw [up_at (by omega) (by omega), pat_in (by omega)]; exact s0_ao hkj (by decide) rfl (o1 := 6) (o2 := 3) rfl (by omega)
    · (repeat (first | rw [up_ne (by omega)] | rw [bl_ne (by omega)] | rw [pat_out (by omega)])); rw [up_at (by omega) (by omega), pat_in (by omega)]; exact s0_ao hkj (by decide) rfl (o1 := 6) (o2 := 3) rfl (by omega)
  · subst q; (repeat (first | rw [up_ne (by omega)] | rw [bl_ne (by omega)] | rw [pat_out (by omega)])); rw [pat_in (by omega)]; exact bl_s0 (hk.at 10 rfl) (by decide) (arr_sp (hk.at 10 rfl) (by decide))
  · (repeat (first | rw [up_ne (by omega)] | rw [bl_ne (by omega)] | rw [pat_out (by omega)])); rw [pat_in (by omega), pat_in (by omega)]
  · (repeat (first | rw [up_ne (by omega)] | rw [bl_ne (by omega)] | rw [pat_out (by omega)])); rw [pat_in (by omega), pat_in (by omega)]
  · (repeat (first | rw [up_ne (by omega)] | rw [bl_ne (by omega)] | rw [pat_out (by omega)])); rw [pat_in (by omega), pat_in (by omega)]
  · (repeat (first | rw [up_ne (by omega)] | rw [bl_ne (by omega)] | rw [pat_out (by omega)])); rw [pat_in (by omega), pat_in (by omega)]
  · (repeat (first | rw [up_ne (by omega)] | rw [bl_ne (by omega)] | rw [pat_out (by omega)])); rw [pat_in (by omega), pat_in (by omega)]
  · (repeat (first | rw [up_ne (by omega)] | rw [bl_ne (by omega)] | rw [pat_out (by omega)])); rw [pat_in (by omega), pat_in (by omega)]
  · (repeat (first | rw [up_ne (by omega)] | rw [bl_ne (by omega)] | rw [pat_out (by omega)])); rw [pat_in (by omega), pat_in (by omega)]
abbrev M_Wo_init : MR := (⟨"BracketRoom$Workshop", "<init>", "()V"⟩, prog_11_method_1_code, 1, none)
theorem ci_Wo_init : CI M_Wo_init 0 := ⟨tk2 111 rfl rfl, rfl, tk2 110 rfl rfl, tk1 12 rfl rfl, by decide, rfl, by decide, by decide, by decide +kernel⟩
theorem dWo_init_0 : decode prog_11_method_1_code 0 = .ok (.aload_n 0, 1) := by decide +kernel
theorem dWo_init_1 : decode prog_11_method_1_code 1 = .ok (.invokespecial 3, 3) := by decide +kernel
theorem dWo_init_4 : decode prog_11_method_1_code 4 = .ok (.aload_n 0, 1) := by decide +kernel
theorem dWo_init_5 : decode prog_11_method_1_code 5 = .ok (.new 9, 3) := by decide +kernel
theorem dWo_init_8 : decode prog_11_method_1_code 8 = .ok (.dup, 1) := by decide +kernel
theorem dWo_init_9 : decode prog_11_method_1_code 9 = .ok (.invokespecial 11, 3) := by decide +kernel
theorem dWo_init_12 : decode prog_11_method_1_code 12 = .ok (.putfield 12, 3) := by decide +kernel
theorem dWo_init_15 : decode prog_11_method_1_code 15 = .ok (.aload_n 0, 1) := by decide +kernel
theorem dWo_init_16 : decode prog_11_method_1_code 16 = .ok (.new 18, 3) := by decide +kernel
theorem dWo_init_19 : decode prog_11_method_1_code 19 = .ok (.dup, 1) := by decide +kernel
theorem dWo_init_20 : decode prog_11_method_1_code 20 = .ok (.bipush 25, 2) := by decide +kernel
theorem dWo_init_22 : decode prog_11_method_1_code 22 = .ok (.invokespecial 20, 3) := by decide +kernel
theorem dWo_init_25 : decode prog_11_method_1_code 25 = .ok (.putfield 23, 3) := by decide +kernel
theorem dWo_init_28 : decode prog_11_method_1_code 28 = .ok (.aload_n 0, 1) := by decide +kernel
theorem dWo_init_29 : decode prog_11_method_1_code 29 = .ok (.bipush 25, 2) := by decide +kernel
theorem dWo_init_31 : decode prog_11_method_1_code 31 = .ok (.newarray .int, 2) := by decide +kernel
theorem dWo_init_33 : decode prog_11_method_1_code 33 = .ok (.putfield 27, 3) := by decide +kernel
theorem dWo_init_36 : decode prog_11_method_1_code 36 = .ok (.aload_n 0, 1) := by decide +kernel
theorem dWo_init_37 : decode prog_11_method_1_code 37 = .ok (.bipush 10, 2) := by decide +kernel
theorem dWo_init_39 : decode prog_11_method_1_code 39 = .ok (.newarray .int, 2) := by decide +kernel
theorem dWo_init_41 : decode prog_11_method_1_code 41 = .ok (.putfield 31, 3) := by decide +kernel
theorem dWo_init_44 : decode prog_11_method_1_code 44 = .ok (.aload_n 0, 1) := by decide +kernel
theorem dWo_init_45 : decode prog_11_method_1_code 45 = .ok (.iconst 5, 1) := by decide +kernel
theorem dWo_init_46 : decode prog_11_method_1_code 46 = .ok (.newarray .int, 2) := by decide +kernel
theorem dWo_init_48 : decode prog_11_method_1_code 48 = .ok (.putfield 34, 3) := by decide +kernel
theorem dWo_init_51 : decode prog_11_method_1_code 51 = .ok (.aload_n 0, 1) := by decide +kernel
theorem dWo_init_52 : decode prog_11_method_1_code 52 = .ok (.iconst 5, 1) := by decide +kernel
theorem dWo_init_53 : decode prog_11_method_1_code 53 = .ok (.newarray .int, 2) := by decide +kernel
theorem dWo_init_55 : decode prog_11_method_1_code 55 = .ok (.putfield 37, 3) := by decide +kernel
theorem dWo_init_58 : decode prog_11_method_1_code 58 = .ok (.return_, 1) := by decide +kernel
theorem gw_Wo_12 : FW "BracketRoom$Workshop" 12 9 0 := ⟨_, _, _, rfl, by decide, rfl, tk2 117 rfl rfl⟩
theorem gw_Wo_23 : FW "BracketRoom$Workshop" 23 9 1 := ⟨_, _, _, rfl, by decide, rfl, tk2 118 rfl rfl⟩
theorem gw_Wo_27 : FW "BracketRoom$Workshop" 27 9 2 := ⟨_, _, _, rfl, by decide, rfl, tk2 119 rfl rfl⟩
theorem gw_Wo_31 : FW "BracketRoom$Workshop" 31 9 3 := ⟨_, _, _, rfl, by decide, rfl, tk2 120 rfl rfl⟩
theorem gw_Wo_34 : FW "BracketRoom$Workshop" 34 9 4 := ⟨_, _, _, rfl, by decide, rfl, tk2 121 rfl rfl⟩
theorem gw_Wo_37 : FW "BracketRoom$Workshop" 37 9 5 := ⟨_, _, _, rfl, by decide, rfl, tk2 122 rfl rfl⟩
theorem n_Workshop {d a : Nat} {σ : SG} {Q : SG → Prop} (hk : kds a [(9, 6), (10, 4), (100, 125), (2, 7), (100, 625), (100, 25), (100, 25), (100, 10), (100, 5), (100, 5)]) (h : Q (pat σ a (a + 10))) : TN (d + 2) (a + 1) (a + 10) M_Wo_init [vA a] (bl σ a) Q := by
  have hlt := hk.lt 9 rfl (by decide)
  refine TN_intro (ls := [vA (a : Int)]) rfl (Nat.le_of_ble_eq_true rfl) rfl ?_
  refine LN_aload_n dWo_init_0 rfl (by omega) ?_
  refine LN_objInit (tk2 112 rfl rfl) (by omega) (Nat.le_of_ble_eq_true rfl) dWo_init_1 ?_
  refine LN_aload_n dWo_init_4 rfl (by omega) ?_
  refine LN_new (ci := 10) rfl (hk.at 1 rfl) (by omega) (tk2 113 rfl rfl) (tk1 37 rfl rfl) (tk1 3 rfl rfl) dWo_init_5 ?_
  refine LN_dup dWo_init_8 n21 ?_
  refine LN_callI (N := M_Wd_init) (n' := a + 3) (As := []) ci_Wd_init rfl (Or.inr (by decide +kernel)) rfl (by omega) (by omega) (by omega) (Nat.le_of_ble_eq_true rfl) dWo_init_9 (n_World (a := a + 1) (hk.sub 1 2 rfl) ?_)
  refine LN_putf gw_Wo_12 rfl rfl (t := 2) rfl fit_ro (ob_k (hk.at 0 rfl)) (by omega) dWo_init_12 ?_
  refine LN_aload_n dWo_init_15 rfl (by omega) ?_
  refine LN_new (ci := 2) rfl (hk.at 3 rfl) (by omega) (tk2 115 rfl rfl) (tk1 159 rfl rfl) (tk1 6 rfl rfl) dWo_init_16 ?_
  refine LN_dup dWo_init_19 n21 ?_
  refine LN_bipush dWo_init_20 (by decide) ⟨by decide, by decide⟩ ?_
  refine LN_callI (N := M_Ec_init) (n' := a + 6) (As := [vI 25]) ci_Ec_init rfl (Or.inl (tk2 116 rfl rfl)) rfl (by omega) (by omega) (by omega) (Nat.le_of_ble_eq_true rfl) dWo_init_22 (n_Ech25 (a := a + 3) (hk.sub 3 3 rfl) ?_)
  refine LN_putf gw_Wo_23 rfl rfl (t := 2) rfl fit_ro (ob_k (hk.at 0 rfl)) (by omega) dWo_init_25 ?_
  refine LN_aload_n dWo_init_28 rfl (by omega) ?_
  refine LN_bipush dWo_init_29 (by decide) ⟨by decide, by decide⟩ ?_
  refine LN_newA (t := 100) (N := 25) (by decide) rfl (hk.at 6 rfl) rfl (by decide) (by omega) dWo_init_31 ?_
  refine LN_putf gw_Wo_27 rfl rfl (t := 2) rfl fit_ra (ob_k (hk.at 0 rfl)) (by omega) dWo_init_33 ?_
  refine LN_aload_n dWo_init_36 rfl (by omega) ?_
  refine LN_bipush dWo_init_37 (by decide) ⟨by decide, by decide⟩ ?_
  refine LN_newA (t := 100) (N := 10) (by decide) rfl (hk.at 7 rfl) rfl (by decide) (by omega) dWo_init_39 ?_
  refine LN_putf gw_Wo_31 rfl rfl (t := 2) rfl fit_ra (ob_k (hk.at 0 rfl)) (by omega) dWo_init_41 ?_
  refine LN_aload_n dWo_init_44 rfl (by omega) ?_
  refine LN_iconst dWo_init_45 ⟨by decide, by decide⟩ ?_
  refine LN_newA (t := 100) (N := 5) (by decide) rfl (hk.at 8 rfl) rfl (by decide) (by omega) dWo_init_46 ?_
  refine LN_putf gw_Wo_34 rfl rfl (t := 2) rfl fit_ra (ob_k (hk.at 0 rfl)) (by omega) dWo_init_48 ?_
  refine LN_aload_n dWo_init_51 rfl (by omega) ?_
  refine LN_iconst dWo_init_52 ⟨by decide, by decide⟩ ?_
  refine LN_newA (t := 100) (N := 5) (by decide) rfl (hk.at 9 rfl) rfl (by decide) (by omega) dWo_init_53 ?_
  refine LN_putf gw_Wo_37 rfl rfl (t := 2) rfl fit_ra (ob_k (hk.at 0 rfl)) (by omega) dWo_init_55 ?_
  refine LN_return (σ' := pat σ a (a + 10)) (by omega) rfl dWo_init_58 (fun b hb j hj => ?_) h
  rcases (show b < a ∨ b = a ∨ b = a + 6 ∨ b = a + 7 ∨ b = a + 8 ∨ b = a + 9 ∨ (a + 1 ≤ b ∧ b < a + 3) ∨ (a + 3 ≤ b ∧ b < a + 6) by omega) with q | q | q | q | q | q | q | q
  · (repeat (first | rw [up_ne (by omega)] | rw [bl_ne (by omega)] | rw [pat_out (by omega)]))
  · subst q
    have hkj := (hk.at0 rfl)
    rw [hkj] at hj; simp only at hj
    rcases (show j = 0 ∨ j = 1 ∨ j = 2 ∨ j = 3 ∨ j = 4 ∨ j = 5 by omega) with rfl | rfl | rfl | rfl | rfl | rfl
    · (repeat (first | rw [up_ne (by omega)] | rw [bl_ne (by omega)] | rw [pat_out (by omega)])); rw [up_at (by omega) (by omega), pat_in (by omega)]; exact s0_fo hkj (by decide) (o := 1) rfl (by omega)
    · (repeat (first | rw [up_ne (by omega)] | rw [bl_ne (by omega)] | rw [pat_out (by omega)])); rw [up_at (by omega) (by omega), pat_in (by omega)]; exact s0_fo hkj (by decide) (o := 3) rfl (by omega)
    · (repeat (first | rw [up_ne (by omega)] | rw [bl_ne (by omega)] | rw [pat_out (by omega)])); rw [up_at (by omega) (by omega), pat_in (by omega)]; exact s0_fo hkj (by decide) (o := 6) rfl (by omega)
    · (repeat (first | rw [up_ne (by omega)] | rw [bl_ne (by omega)] | rw [pat_out (by omega)])); rw [up_at (by omega) (by omega), pat_in (by omega)]; exact s0_fo hkj (by decide) (o := 7) rfl (by omega)
    · (repeat (first | rw [up_ne (by omega)] | rw [bl_ne (by omega)] | rw [pat_out (by omega)])); rw [up_at (by omega) (by omega), pat_in (by omega)]; exact s0_fo hkj (by decide) (o := 8) rfl (by omega)
    · (repeat (first | rw [up_ne (by omega)] | rw [bl_ne (by omega)] | rw [pat_out (by omega)])); rw [up_at (by omega) (by omega), pat_in (by omega)]; exact s0_fo hkj (by decide) (o := 9) rfl (by omega)
  · subst q; (repeat (first | rw [up_ne (by omega)] | rw [bl_ne (by omega)] | rw [pat_out (by omega)])); rw [pat_in (by omega)]; exact bl_s0 (hk.at 6 rfl) (by decide) (arr_sp (hk.at 6 rfl) (by decide))
  · subst q; (repeat (first | rw [up_ne (by omega)] | rw [bl_ne (by omega)] | rw [pat_out (by omega)])); rw [pat_in (by omega)]; exact bl_s0 (hk.at 7 rfl) (by decide) (arr_sp (hk.at 7 rfl) (by decide))
  · subst q; (repeat (first | rw [up_ne (by omega)] | rw [bl_ne (by omega)] | rw [pat_out (by omega)])); rw [pat_in (by omega)]; exact bl_s0 (hk.at 8 rfl) (by decide) (arr_sp (hk.at 8 rfl) (by decide))
  · subst q; (repeat (first | rw [up_ne (by omega)] | rw [bl_ne (by omega)] | rw [pat_out (by omega)])); rw [pat_in (by omega)]; exact bl_s0 (hk.at 9 rfl) (by decide) (arr_sp (hk.at 9 rfl) (by decide))
  · (repeat (first | rw [up_ne (by omega)] | rw [bl_ne (by omega)] | rw [pat_out (by omega)])); rw [pat_in (by omega), pat_in (by omega)]
  · (repeat (first | rw [up_ne (by omega)] | rw [bl_ne (by omega)] | rw [pat_out (by omega)])); rw [pat_in (by omega), pat_in (by omega)]
