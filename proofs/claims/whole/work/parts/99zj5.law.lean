/-! ===== the law: cases 28 to 34 (written by gen5.py) ===== -/
theorem dlw_1089 : decode code 1089 = .ok (.aload_n 1, 1) := by decide +kernel
theorem dlw_1090 : decode code 1090 = .ok (.aload_n 0, 1) := by decide +kernel
theorem dlw_1091 : decode code 1091 = .ok (.iload_n 3, 1) := by decide +kernel
theorem dlw_1092 : decode code 1092 = .ok (.iconst 1, 1) := by decide +kernel
theorem dlw_1093 : decode code 1093 = .ok (.iadd, 1) := by decide +kernel
theorem dlw_1094 : decode code 1094 = .ok (.iaload, 1) := by decide +kernel
theorem dlw_1095 : decode code 1095 = .ok (.invokevirtual 140, 3) := by decide +kernel
theorem dlw_1098 : decode code 1098 = .ok (.aload_n 2, 1) := by decide +kernel
theorem dlw_1099 : decode code 1099 = .ok (.aload_n 0, 1) := by decide +kernel
theorem dlw_1100 : decode code 1100 = .ok (.iload_n 3, 1) := by decide +kernel
theorem dlw_1101 : decode code 1101 = .ok (.iconst 1, 1) := by decide +kernel
theorem dlw_1102 : decode code 1102 = .ok (.iadd, 1) := by decide +kernel
theorem dlw_1103 : decode code 1103 = .ok (.iaload, 1) := by decide +kernel
theorem dlw_1104 : decode code 1104 = .ok (.invokevirtual 143, 3) := by decide +kernel
theorem dlw_1107 : decode code 1107 = .ok (.if_icmp .eq 481, 3) := by decide +kernel
theorem lc_28 {l : Launch} {g : GG} {p : Program} {e : Env} {s : State} {m : MethodId} {b : Nat} {below : List Frame} {meth : Method} {c : Code} {Lc : Nat} {xs : Nat → Int32} {σ : SG} {k : Nat} (cx : LC g p s m b meth c Lc xs) (hk : k + 6 ≤ Lc) (hI : IVT σ) (nx : ∀ σ2, IVT σ2 → LX l g p e s m b below meth c 1588 [vA (-33), vA 0, vA 161, vI k] [] σ2) : LX l g p e s m b below meth c 1089 [vA (-33), vA 0, vA 161, vI k] [] σ := by
  refine LX_aload_n cx dlw_1089 rfl (by omega) ?_
  refine LX_arg cx (n := 1) rfl (by omega) dlw_1090 dlw_1091 dlw_1092 dlw_1093 dlw_1094 ?_
  refine LX_callVI cx (d := 30) (N := M_X_rank) (As := [vI ((xs (k + 1)).toInt)]) rfl cv_X_rank rfl (tk5 90 rfl rfl) rfl (Nat.le_of_ble_eq_true rfl) (by decide) dlw_1095 ob_0 ((c_rank (d := 0) hI).mono (fun r1 σ1 h1 => ?_))
  refine LX_aload_n cx dlw_1098 rfl (by omega) ?_
  refine LX_arg cx (n := 1) rfl (by omega) dlw_1099 dlw_1100 dlw_1101 dlw_1102 dlw_1103 ?_
  refine LX_callVI cx (d := 30) (N := M_R_rank) (As := [vI ((xs (k + 1)).toInt)]) rfl cv_R_rank rfl (tk9 55 rfl rfl) rfl (Nat.le_of_ble_eq_true rfl) (by decide) dlw_1104 ob_161 (h1.mono (fun r2 σ2 h2 => ?_))
  exact LX_icmp_eq cx (tgt := 1588) dlw_1107 (by omega) h2.1 (nx σ2 h2.2)
theorem dlw_1112 : decode code 1112 = .ok (.aload_n 1, 1) := by decide +kernel
theorem dlw_1113 : decode code 1113 = .ok (.aload_n 0, 1) := by decide +kernel
theorem dlw_1114 : decode code 1114 = .ok (.iload_n 3, 1) := by decide +kernel
theorem dlw_1115 : decode code 1115 = .ok (.iconst 1, 1) := by decide +kernel
theorem dlw_1116 : decode code 1116 = .ok (.iadd, 1) := by decide +kernel
theorem dlw_1117 : decode code 1117 = .ok (.iaload, 1) := by decide +kernel
theorem dlw_1118 : decode code 1118 = .ok (.invokevirtual 144, 3) := by decide +kernel
theorem dlw_1121 : decode code 1121 = .ok (.aload_n 2, 1) := by decide +kernel
theorem dlw_1122 : decode code 1122 = .ok (.aload_n 0, 1) := by decide +kernel
theorem dlw_1123 : decode code 1123 = .ok (.iload_n 3, 1) := by decide +kernel
theorem dlw_1124 : decode code 1124 = .ok (.iconst 1, 1) := by decide +kernel
theorem dlw_1125 : decode code 1125 = .ok (.iadd, 1) := by decide +kernel
theorem dlw_1126 : decode code 1126 = .ok (.iaload, 1) := by decide +kernel
theorem dlw_1127 : decode code 1127 = .ok (.invokevirtual 147, 3) := by decide +kernel
theorem dlw_1130 : decode code 1130 = .ok (.if_icmp .eq 458, 3) := by decide +kernel
theorem lc_29 {l : Launch} {g : GG} {p : Program} {e : Env} {s : State} {m : MethodId} {b : Nat} {below : List Frame} {meth : Method} {c : Code} {Lc : Nat} {xs : Nat → Int32} {σ : SG} {k : Nat} (cx : LC g p s m b meth c Lc xs) (hk : k + 6 ≤ Lc) (hI : IVT σ) (nx : ∀ σ2, IVT σ2 → LX l g p e s m b below meth c 1588 [vA (-33), vA 0, vA 161, vI k] [] σ2) : LX l g p e s m b below meth c 1112 [vA (-33), vA 0, vA 161, vI k] [] σ := by
  refine LX_aload_n cx dlw_1112 rfl (by omega) ?_
  refine LX_arg cx (n := 1) rfl (by omega) dlw_1113 dlw_1114 dlw_1115 dlw_1116 dlw_1117 ?_
  refine LX_callVI cx (d := 30) (N := M_X_power) (As := [vI ((xs (k + 1)).toInt)]) rfl cv_X_power rfl (tk5 94 rfl rfl) rfl (Nat.le_of_ble_eq_true rfl) (by decide) dlw_1118 ob_0 ((c_power (d := 0) hI).mono (fun r1 σ1 h1 => ?_))
  refine LX_aload_n cx dlw_1121 rfl (by omega) ?_
  refine LX_arg cx (n := 1) rfl (by omega) dlw_1122 dlw_1123 dlw_1124 dlw_1125 dlw_1126 ?_
  refine LX_callVI cx (d := 30) (N := M_R_power) (As := [vI ((xs (k + 1)).toInt)]) rfl cv_R_power rfl (tk9 139 rfl rfl) rfl (Nat.le_of_ble_eq_true rfl) (by decide) dlw_1127 ob_161 (h1.mono (fun r2 σ2 h2 => ?_))
  exact LX_icmp_eq cx (tgt := 1588) dlw_1130 (by omega) h2.1 (nx σ2 h2.2)
theorem dlw_1135 : decode code 1135 = .ok (.aload_n 1, 1) := by decide +kernel
theorem dlw_1136 : decode code 1136 = .ok (.aload_n 0, 1) := by decide +kernel
theorem dlw_1137 : decode code 1137 = .ok (.iload_n 3, 1) := by decide +kernel
theorem dlw_1138 : decode code 1138 = .ok (.iconst 1, 1) := by decide +kernel
theorem dlw_1139 : decode code 1139 = .ok (.iadd, 1) := by decide +kernel
theorem dlw_1140 : decode code 1140 = .ok (.iaload, 1) := by decide +kernel
theorem dlw_1141 : decode code 1141 = .ok (.invokevirtual 148, 3) := by decide +kernel
theorem dlw_1144 : decode code 1144 = .ok (.aload_n 2, 1) := by decide +kernel
theorem dlw_1145 : decode code 1145 = .ok (.aload_n 0, 1) := by decide +kernel
theorem dlw_1146 : decode code 1146 = .ok (.iload_n 3, 1) := by decide +kernel
theorem dlw_1147 : decode code 1147 = .ok (.iconst 1, 1) := by decide +kernel
theorem dlw_1148 : decode code 1148 = .ok (.iadd, 1) := by decide +kernel
theorem dlw_1149 : decode code 1149 = .ok (.iaload, 1) := by decide +kernel
theorem dlw_1150 : decode code 1150 = .ok (.invokevirtual 151, 3) := by decide +kernel
theorem dlw_1153 : decode code 1153 = .ok (.if_icmp .eq 435, 3) := by decide +kernel
theorem lc_30 {l : Launch} {g : GG} {p : Program} {e : Env} {s : State} {m : MethodId} {b : Nat} {below : List Frame} {meth : Method} {c : Code} {Lc : Nat} {xs : Nat → Int32} {σ : SG} {k : Nat} (cx : LC g p s m b meth c Lc xs) (hk : k + 6 ≤ Lc) (hI : IVT σ) (nx : ∀ σ2, IVT σ2 → LX l g p e s m b below meth c 1588 [vA (-33), vA 0, vA 161, vI k] [] σ2) : LX l g p e s m b below meth c 1135 [vA (-33), vA 0, vA 161, vI k] [] σ := by
  refine LX_aload_n cx dlw_1135 rfl (by omega) ?_
  refine LX_arg cx (n := 1) rfl (by omega) dlw_1136 dlw_1137 dlw_1138 dlw_1139 dlw_1140 ?_
  refine LX_callVI cx (d := 30) (N := M_X_derivations) (As := [vI ((xs (k + 1)).toInt)]) rfl cv_X_derivations rfl (tk5 113 rfl rfl) rfl (Nat.le_of_ble_eq_true rfl) (by decide) dlw_1141 ob_0 ((c_derivations (d := 0) hI).mono (fun r1 σ1 h1 => ?_))
  refine LX_aload_n cx dlw_1144 rfl (by omega) ?_
  refine LX_arg cx (n := 1) rfl (by omega) dlw_1145 dlw_1146 dlw_1147 dlw_1148 dlw_1149 ?_
  refine LX_callVI cx (d := 30) (N := M_R_derivations) (As := [vI ((xs (k + 1)).toInt)]) rfl cv_R_derivations rfl (tk9 155 rfl rfl) rfl (Nat.le_of_ble_eq_true rfl) (by decide) dlw_1150 ob_161 (h1.mono (fun r2 σ2 h2 => ?_))
  exact LX_icmp_eq cx (tgt := 1588) dlw_1153 (by omega) h2.1 (nx σ2 h2.2)
theorem dlw_1158 : decode code 1158 = .ok (.aload_n 1, 1) := by decide +kernel
theorem dlw_1159 : decode code 1159 = .ok (.invokevirtual 152, 3) := by decide +kernel
theorem dlw_1162 : decode code 1162 = .ok (.aload_n 2, 1) := by decide +kernel
theorem dlw_1163 : decode code 1163 = .ok (.invokevirtual 155, 3) := by decide +kernel
theorem dlw_1166 : decode code 1166 = .ok (.if_icmp .eq 422, 3) := by decide +kernel
theorem lc_31 {l : Launch} {g : GG} {p : Program} {e : Env} {s : State} {m : MethodId} {b : Nat} {below : List Frame} {meth : Method} {c : Code} {Lc : Nat} {xs : Nat → Int32} {σ : SG} {k : Nat} (cx : LC g p s m b meth c Lc xs) (hk : k + 6 ≤ Lc) (hI : IVT σ) (nx : ∀ σ2, IVT σ2 → LX l g p e s m b below meth c 1588 [vA (-33), vA 0, vA 161, vI k] [] σ2) : LX l g p e s m b below meth c 1158 [vA (-33), vA 0, vA 161, vI k] [] σ := by
  refine LX_aload_n cx dlw_1158 rfl (by omega) ?_
  refine LX_callVI cx (d := 30) (N := M_X_form) (As := []) rfl cv_X_form rfl (tk5 128 rfl rfl) rfl (Nat.le_of_ble_eq_true rfl) (by decide) dlw_1159 ob_0 ((c_form (d := 0) hI).mono (fun r1 σ1 h1 => ?_))
  refine LX_aload_n cx dlw_1162 rfl (by omega) ?_
  refine LX_callVI cx (d := 30) (N := M_R_form) (As := []) rfl cv_R_form rfl (tk9 163 rfl rfl) rfl (Nat.le_of_ble_eq_true rfl) (by decide) dlw_1163 ob_161 (h1.mono (fun r2 σ2 h2 => ?_))
  exact LX_icmp_eq cx (tgt := 1588) dlw_1166 (by omega) h2.1 (nx σ2 h2.2)
theorem dlw_1171 : decode code 1171 = .ok (.aload_n 1, 1) := by decide +kernel
theorem dlw_1172 : decode code 1172 = .ok (.aload_n 0, 1) := by decide +kernel
theorem dlw_1173 : decode code 1173 = .ok (.iload_n 3, 1) := by decide +kernel
theorem dlw_1174 : decode code 1174 = .ok (.iconst 1, 1) := by decide +kernel
theorem dlw_1175 : decode code 1175 = .ok (.iadd, 1) := by decide +kernel
theorem dlw_1176 : decode code 1176 = .ok (.iaload, 1) := by decide +kernel
theorem dlw_1177 : decode code 1177 = .ok (.invokevirtual 156, 3) := by decide +kernel
theorem dlw_1180 : decode code 1180 = .ok (.aload_n 2, 1) := by decide +kernel
theorem dlw_1181 : decode code 1181 = .ok (.aload_n 0, 1) := by decide +kernel
theorem dlw_1182 : decode code 1182 = .ok (.iload_n 3, 1) := by decide +kernel
theorem dlw_1183 : decode code 1183 = .ok (.iconst 1, 1) := by decide +kernel
theorem dlw_1184 : decode code 1184 = .ok (.iadd, 1) := by decide +kernel
theorem dlw_1185 : decode code 1185 = .ok (.iaload, 1) := by decide +kernel
theorem dlw_1186 : decode code 1186 = .ok (.invokevirtual 159, 3) := by decide +kernel
theorem dlw_1189 : decode code 1189 = .ok (.if_icmp .eq 399, 3) := by decide +kernel
theorem lc_32 {l : Launch} {g : GG} {p : Program} {e : Env} {s : State} {m : MethodId} {b : Nat} {below : List Frame} {meth : Method} {c : Code} {Lc : Nat} {xs : Nat → Int32} {σ : SG} {k : Nat} (cx : LC g p s m b meth c Lc xs) (hk : k + 6 ≤ Lc) (hI : IVT σ) (nx : ∀ σ2, IVT σ2 → LX l g p e s m b below meth c 1588 [vA (-33), vA 0, vA 161, vI k] [] σ2) : LX l g p e s m b below meth c 1171 [vA (-33), vA 0, vA 161, vI k] [] σ := by
  refine LX_aload_n cx dlw_1171 rfl (by omega) ?_
  refine LX_arg cx (n := 1) rfl (by omega) dlw_1172 dlw_1173 dlw_1174 dlw_1175 dlw_1176 ?_
  refine LX_callVI cx (d := 30) (N := M_X_classes) (As := [vI ((xs (k + 1)).toInt)]) rfl cv_X_classes rfl (tk5 136 rfl rfl) rfl (Nat.le_of_ble_eq_true rfl) (by decide) dlw_1177 ob_0 ((c_classes (d := 0) hI).mono (fun r1 σ1 h1 => ?_))
  refine LX_aload_n cx dlw_1180 rfl (by omega) ?_
  refine LX_arg cx (n := 1) rfl (by omega) dlw_1181 dlw_1182 dlw_1183 dlw_1184 dlw_1185 ?_
  refine LX_callVI cx (d := 30) (N := M_R_classes) (As := [vI ((xs (k + 1)).toInt)]) rfl cv_R_classes rfl (tk9 171 rfl rfl) rfl (Nat.le_of_ble_eq_true rfl) (by decide) dlw_1186 ob_161 (h1.mono (fun r2 σ2 h2 => ?_))
  exact LX_icmp_eq cx (tgt := 1588) dlw_1189 (by omega) h2.1 (nx σ2 h2.2)
theorem dlw_1194 : decode code 1194 = .ok (.aload_n 1, 1) := by decide +kernel
theorem dlw_1195 : decode code 1195 = .ok (.invokevirtual 160, 3) := by decide +kernel
theorem dlw_1198 : decode code 1198 = .ok (.aload_n 2, 1) := by decide +kernel
theorem dlw_1199 : decode code 1199 = .ok (.invokevirtual 163, 3) := by decide +kernel
theorem dlw_1202 : decode code 1202 = .ok (.if_icmp .eq 386, 3) := by decide +kernel
theorem lc_33 {l : Launch} {g : GG} {p : Program} {e : Env} {s : State} {m : MethodId} {b : Nat} {below : List Frame} {meth : Method} {c : Code} {Lc : Nat} {xs : Nat → Int32} {σ : SG} {k : Nat} (cx : LC g p s m b meth c Lc xs) (hk : k + 6 ≤ Lc) (hI : IVT σ) (nx : ∀ σ2, IVT σ2 → LX l g p e s m b below meth c 1588 [vA (-33), vA 0, vA 161, vI k] [] σ2) : LX l g p e s m b below meth c 1194 [vA (-33), vA 0, vA 161, vI k] [] σ := by
  refine LX_aload_n cx dlw_1194 rfl (by omega) ?_
  refine LX_callVI cx (d := 30) (N := M_X_commuting) (As := []) rfl cv_X_commuting rfl (tk5 161 rfl rfl) rfl (Nat.le_of_ble_eq_true rfl) (by decide) dlw_1195 ob_0 ((c_commuting (d := 0) hI).mono (fun r1 σ1 h1 => ?_))
  refine LX_aload_n cx dlw_1198 rfl (by omega) ?_
  refine LX_callVI cx (d := 30) (N := M_R_commuting) (As := []) rfl cv_R_commuting rfl (tk9 198 rfl rfl) rfl (Nat.le_of_ble_eq_true rfl) (by decide) dlw_1199 ob_161 (h1.mono (fun r2 σ2 h2 => ?_))
  exact LX_icmp_eq cx (tgt := 1588) dlw_1202 (by omega) h2.1 (nx σ2 h2.2)
theorem dlw_1207 : decode code 1207 = .ok (.aload_n 1, 1) := by decide +kernel
theorem dlw_1208 : decode code 1208 = .ok (.invokevirtual 164, 3) := by decide +kernel
theorem dlw_1211 : decode code 1211 = .ok (.aload_n 2, 1) := by decide +kernel
theorem dlw_1212 : decode code 1212 = .ok (.invokevirtual 167, 3) := by decide +kernel
theorem dlw_1215 : decode code 1215 = .ok (.if_icmp .eq 373, 3) := by decide +kernel
theorem lc_34 {l : Launch} {g : GG} {p : Program} {e : Env} {s : State} {m : MethodId} {b : Nat} {below : List Frame} {meth : Method} {c : Code} {Lc : Nat} {xs : Nat → Int32} {σ : SG} {k : Nat} (cx : LC g p s m b meth c Lc xs) (hk : k + 6 ≤ Lc) (hI : IVT σ) (nx : ∀ σ2, IVT σ2 → LX l g p e s m b below meth c 1588 [vA (-33), vA 0, vA 161, vI k] [] σ2) : LX l g p e s m b below meth c 1207 [vA (-33), vA 0, vA 161, vI k] [] σ := by
  refine LX_aload_n cx dlw_1207 rfl (by omega) ?_
  refine LX_callVI cx (d := 30) (N := M_X_maps) (As := []) rfl cv_X_maps rfl (tk5 170 rfl rfl) rfl (Nat.le_of_ble_eq_true rfl) (by decide) dlw_1208 ob_0 ((c_maps (d := 0) hI).mono (fun r1 σ1 h1 => ?_))
  refine LX_aload_n cx dlw_1211 rfl (by omega) ?_
  refine LX_callVI cx (d := 30) (N := M_R_maps) (As := []) rfl cv_R_maps rfl (tk9 206 rfl rfl) rfl (Nat.le_of_ble_eq_true rfl) (by decide) dlw_1212 ob_161 (h1.mono (fun r2 σ2 h2 => ?_))
  exact LX_icmp_eq cx (tgt := 1588) dlw_1215 (by omega) h2.1 (nx σ2 h2.2)
