/-! ===== the law: the switch (written by gen5.py) ===== -/
theorem dlw_0 : decode code 0 = .ok (.new 7, 3) := by decide +kernel
theorem dlw_3 : decode code 3 = .ok (.dup, 1) := by decide +kernel
theorem dlw_4 : decode code 4 = .ok (.invokespecial 9, 3) := by decide +kernel
theorem dlw_7 : decode code 7 = .ok (.astore_n 1, 1) := by decide +kernel
theorem dlw_8 : decode code 8 = .ok (.new 10, 3) := by decide +kernel
theorem dlw_11 : decode code 11 = .ok (.dup, 1) := by decide +kernel
theorem dlw_12 : decode code 12 = .ok (.invokespecial 12, 3) := by decide +kernel
theorem dlw_15 : decode code 15 = .ok (.astore_n 2, 1) := by decide +kernel
theorem dlw_16 : decode code 16 = .ok (.iconst 0, 1) := by decide +kernel
theorem dlw_17 : decode code 17 = .ok (.istore_n 3, 1) := by decide +kernel
theorem dlw_18 : decode code 18 = .ok (.iload_n 3, 1) := by decide +kernel
theorem dlw_19 : decode code 19 = .ok (.aload_n 0, 1) := by decide +kernel
theorem dlw_20 : decode code 20 = .ok (.arraylength, 1) := by decide +kernel
theorem dlw_21 : decode code 21 = .ok (.bipush 6, 2) := by decide +kernel
theorem dlw_23 : decode code 23 = .ok (.isub, 1) := by decide +kernel
theorem dlw_24 : decode code 24 = .ok (.if_icmp .gt 1570, 3) := by decide +kernel
theorem dlw_27 : decode code 27 = .ok (.aload_n 0, 1) := by decide +kernel
theorem dlw_28 : decode code 28 = .ok (.iload_n 3, 1) := by decide +kernel
theorem dlw_29 : decode code 29 = .ok (.iaload, 1) := by decide +kernel
theorem dlw_30 : decode code 30 = .ok (.bipush 63, 2) := by decide +kernel
theorem dlw_32 : decode code 32 = .ok (.iand, 1) := by decide +kernel
theorem dlw_33 : decode code 33 = .ok (.tableswitch 1555 0 50 #[219, 232, 246, 260, 303, 376, 410, 473, 536, 559, 582, 605, 628, 671, 724, 757, 770, 793, 816, 839, 882, 905, 928, 941, 964, 987, 1010, 1043, 1056, 1079, 1102, 1125, 1138, 1161, 1174, 1187, 1210, 1223, 1246, 1269, 1292, 1315, 1338, 1361, 1384, 1417, 1450, 1493, 1506, 1529, 1542], 219) := by decide +kernel
theorem dlw_1588 : decode code 1588 = .ok (.iinc 3 6, 3) := by decide +kernel
theorem dlw_1591 : decode code 1591 = .ok (.goto (-1573), 3) := by decide +kernel
theorem dlw_1594 : decode code 1594 = .ok (.iconst 1, 1) := by decide +kernel
theorem dlw_1595 : decode code 1595 = .ok (.ireturn, 1) := by decide +kernel
theorem law_switch {l : Launch} {g : GG} {p : Program} {e : Env} {s : State} {m : MethodId} {b : Nat} {below : List Frame} {meth : Method} {c : Code} {Lc : Nat} {xs : Nat → Int32} {σ : SG} {k : Nat} {y : Int} (cx : LC g p s m b meth c Lc xs) (hk : k + 6 ≤ Lc) (hI : IVT σ) (nx : ∀ σ2, IVT σ2 → LX l g p e s m b below meth c 1588 [vA (-33), vA 0, vA 161, vI k] [] σ2) : LX l g p e s m b below meth c 33 [vA (-33), vA 0, vA 161, vI k] [vI y] σ := by
  refine LX_table cx (tgt := 1588) dlw_33 (by omega) ⟨fun _ => nx σ hI, fun j h0 h1 hj => ?_⟩
  have hj2 : j < 51 := by omega
  clear hj h0 h1
  exact match j, hj2 with
  | 0, hk0 => ⟨219, 252, rfl, by omega, lc_0 cx hk hI nx⟩
  | 1, hk0 => ⟨232, 265, rfl, by omega, lc_1 cx hk hI nx⟩
  | 2, hk0 => ⟨246, 279, rfl, by omega, lc_2 cx hk hI nx⟩
  | 3, hk0 => ⟨260, 293, rfl, by omega, lc_3 cx hk hI nx⟩
  | 4, hk0 => ⟨303, 336, rfl, by omega, lc_4 cx hk hI nx⟩
  | 5, hk0 => ⟨376, 409, rfl, by omega, lc_5 cx hk hI nx⟩
  | 6, hk0 => ⟨410, 443, rfl, by omega, lc_6 cx hk hI nx⟩
  | 7, hk0 => ⟨473, 506, rfl, by omega, lc_7 cx hk hI nx⟩
  | 8, hk0 => ⟨536, 569, rfl, by omega, lc_8 cx hk hI nx⟩
  | 9, hk0 => ⟨559, 592, rfl, by omega, lc_9 cx hk hI nx⟩
  | 10, hk0 => ⟨582, 615, rfl, by omega, lc_10 cx hk hI nx⟩
  | 11, hk0 => ⟨605, 638, rfl, by omega, lc_11 cx hk hI nx⟩
  | 12, hk0 => ⟨628, 661, rfl, by omega, lc_12 cx hk hI nx⟩
  | 13, hk0 => ⟨671, 704, rfl, by omega, lc_13 cx hk hI nx⟩
  | 14, hk0 => ⟨724, 757, rfl, by omega, lc_14 cx hk hI nx⟩
  | 15, hk0 => ⟨757, 790, rfl, by omega, lc_15 cx hk hI nx⟩
  | 16, hk0 => ⟨770, 803, rfl, by omega, lc_16 cx hk hI nx⟩
  | 17, hk0 => ⟨793, 826, rfl, by omega, lc_17 cx hk hI nx⟩
  | 18, hk0 => ⟨816, 849, rfl, by omega, lc_18 cx hk hI nx⟩
  | 19, hk0 => ⟨839, 872, rfl, by omega, lc_19 cx hk hI nx⟩
  | 20, hk0 => ⟨882, 915, rfl, by omega, lc_20 cx hk hI nx⟩
  | 21, hk0 => ⟨905, 938, rfl, by omega, lc_21 cx hk hI nx⟩
  | 22, hk0 => ⟨928, 961, rfl, by omega, lc_22 cx hk hI nx⟩
  | 23, hk0 => ⟨941, 974, rfl, by omega, lc_23 cx hk hI nx⟩
  | 24, hk0 => ⟨964, 997, rfl, by omega, lc_24 cx hk hI nx⟩
  | 25, hk0 => ⟨987, 1020, rfl, by omega, lc_25 cx hk hI nx⟩
  | 26, hk0 => ⟨1010, 1043, rfl, by omega, lc_26 cx hk hI nx⟩
  | 27, hk0 => ⟨1043, 1076, rfl, by omega, lc_27 cx hk hI nx⟩
  | 28, hk0 => ⟨1056, 1089, rfl, by omega, lc_28 cx hk hI nx⟩
  | 29, hk0 => ⟨1079, 1112, rfl, by omega, lc_29 cx hk hI nx⟩
  | 30, hk0 => ⟨1102, 1135, rfl, by omega, lc_30 cx hk hI nx⟩
  | 31, hk0 => ⟨1125, 1158, rfl, by omega, lc_31 cx hk hI nx⟩
  | 32, hk0 => ⟨1138, 1171, rfl, by omega, lc_32 cx hk hI nx⟩
  | 33, hk0 => ⟨1161, 1194, rfl, by omega, lc_33 cx hk hI nx⟩
  | 34, hk0 => ⟨1174, 1207, rfl, by omega, lc_34 cx hk hI nx⟩
  | 35, hk0 => ⟨1187, 1220, rfl, by omega, lc_35 cx hk hI nx⟩
  | 36, hk0 => ⟨1210, 1243, rfl, by omega, lc_36 cx hk hI nx⟩
  | 37, hk0 => ⟨1223, 1256, rfl, by omega, lc_37 cx hk hI nx⟩
  | 38, hk0 => ⟨1246, 1279, rfl, by omega, lc_38 cx hk hI nx⟩
  | 39, hk0 => ⟨1269, 1302, rfl, by omega, lc_39 cx hk hI nx⟩
  | 40, hk0 => ⟨1292, 1325, rfl, by omega, lc_40 cx hk hI nx⟩
  | 41, hk0 => ⟨1315, 1348, rfl, by omega, lc_41 cx hk hI nx⟩
  | 42, hk0 => ⟨1338, 1371, rfl, by omega, lc_42 cx hk hI nx⟩
  | 43, hk0 => ⟨1361, 1394, rfl, by omega, lc_43 cx hk hI nx⟩
  | 44, hk0 => ⟨1384, 1417, rfl, by omega, lc_44 cx hk hI nx⟩
  | 45, hk0 => ⟨1417, 1450, rfl, by omega, lc_45 cx hk hI nx⟩
  | 46, hk0 => ⟨1450, 1483, rfl, by omega, lc_46 cx hk hI nx⟩
  | 47, hk0 => ⟨1493, 1526, rfl, by omega, lc_47 cx hk hI nx⟩
  | 48, hk0 => ⟨1506, 1539, rfl, by omega, lc_48 cx hk hI nx⟩
  | 49, hk0 => ⟨1529, 1562, rfl, by omega, lc_49 cx hk hI nx⟩
  | 50, hk0 => ⟨1542, 1575, rfl, by omega, lc_50 cx hk hI nx⟩
  | (j + 51), hk0 => absurd hk0 (by omega)
