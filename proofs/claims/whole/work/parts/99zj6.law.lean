/-! ===== the law: cases 35 to 41 (written by gen5.py) ===== -/
theorem dlw_1220 : decode code 1220 = .ok (.aload_n 1, 1) := by decide +kernel
theorem dlw_1221 : decode code 1221 = .ok (.aload_n 0, 1) := by decide +kernel
theorem dlw_1222 : decode code 1222 = .ok (.iload_n 3, 1) := by decide +kernel
theorem dlw_1223 : decode code 1223 = .ok (.iconst 1, 1) := by decide +kernel
theorem dlw_1224 : decode code 1224 = .ok (.iadd, 1) := by decide +kernel
theorem dlw_1225 : decode code 1225 = .ok (.iaload, 1) := by decide +kernel
theorem dlw_1226 : decode code 1226 = .ok (.invokevirtual 168, 3) := by decide +kernel
theorem dlw_1229 : decode code 1229 = .ok (.aload_n 2, 1) := by decide +kernel
theorem dlw_1230 : decode code 1230 = .ok (.aload_n 0, 1) := by decide +kernel
theorem dlw_1231 : decode code 1231 = .ok (.iload_n 3, 1) := by decide +kernel
theorem dlw_1232 : decode code 1232 = .ok (.iconst 1, 1) := by decide +kernel
theorem dlw_1233 : decode code 1233 = .ok (.iadd, 1) := by decide +kernel
theorem dlw_1234 : decode code 1234 = .ok (.iaload, 1) := by decide +kernel
theorem dlw_1235 : decode code 1235 = .ok (.invokevirtual 171, 3) := by decide +kernel
theorem dlw_1238 : decode code 1238 = .ok (.if_icmp .eq 350, 3) := by decide +kernel
theorem lc_35 {l : Launch} {g : GG} {p : Program} {e : Env} {s : State} {m : MethodId} {b : Nat} {below : List Frame} {meth : Method} {c : Code} {Lc : Nat} {xs : Nat → Int32} {σ : SG} {k : Nat} (cx : LC g p s m b meth c Lc xs) (hk : k + 6 ≤ Lc) (hI : IVT σ) (nx : ∀ σ2, IVT σ2 → LX l g p e s m b below meth c 1588 [vA (-33), vA 0, vA 161, vI k] [] σ2) : LX l g p e s m b below meth c 1220 [vA (-33), vA 0, vA 161, vI k] [] σ := by
  refine LX_aload_n cx dlw_1220 rfl (by omega) ?_
  refine LX_arg cx (n := 1) rfl (by omega) dlw_1221 dlw_1222 dlw_1223 dlw_1224 dlw_1225 ?_
  refine LX_callVI cx (d := 30) (N := M_X_sameAs) (As := [vI ((xs (k + 1)).toInt)]) rfl cv_X_sameAs rfl (tk5 216 rfl rfl) rfl (Nat.le_of_ble_eq_true rfl) (by decide) dlw_1226 ob_0 ((c_sameAs (d := 0) hI).mono (fun r1 σ1 h1 => ?_))
  refine LX_aload_n cx dlw_1229 rfl (by omega) ?_
  refine LX_arg cx (n := 1) rfl (by omega) dlw_1230 dlw_1231 dlw_1232 dlw_1233 dlw_1234 ?_
  refine LX_callVI cx (d := 30) (N := M_R_sameAs) (As := [vI ((xs (k + 1)).toInt)]) rfl cv_R_sameAs rfl (tk9 227 rfl rfl) rfl (Nat.le_of_ble_eq_true rfl) (by decide) dlw_1235 ob_161 (h1.mono (fun r2 σ2 h2 => ?_))
  exact LX_icmp_eq cx (tgt := 1588) dlw_1238 (by omega) h2.1 (nx σ2 h2.2)
theorem dlw_1243 : decode code 1243 = .ok (.aload_n 1, 1) := by decide +kernel
theorem dlw_1244 : decode code 1244 = .ok (.invokevirtual 172, 3) := by decide +kernel
theorem dlw_1247 : decode code 1247 = .ok (.aload_n 2, 1) := by decide +kernel
theorem dlw_1248 : decode code 1248 = .ok (.invokevirtual 175, 3) := by decide +kernel
theorem dlw_1251 : decode code 1251 = .ok (.if_icmp .eq 337, 3) := by decide +kernel
theorem lc_36 {l : Launch} {g : GG} {p : Program} {e : Env} {s : State} {m : MethodId} {b : Nat} {below : List Frame} {meth : Method} {c : Code} {Lc : Nat} {xs : Nat → Int32} {σ : SG} {k : Nat} (cx : LC g p s m b meth c Lc xs) (hk : k + 6 ≤ Lc) (hI : IVT σ) (nx : ∀ σ2, IVT σ2 → LX l g p e s m b below meth c 1588 [vA (-33), vA 0, vA 161, vI k] [] σ2) : LX l g p e s m b below meth c 1243 [vA (-33), vA 0, vA 161, vI k] [] σ := by
  refine LX_aload_n cx dlw_1243 rfl (by omega) ?_
  refine LX_callVI cx (d := 30) (N := M_X_tries) (As := []) rfl cv_X_tries rfl (tk5 220 rfl rfl) rfl (Nat.le_of_ble_eq_true rfl) (by decide) dlw_1244 ob_0 ((c_tries (d := 0) hI).mono (fun r1 σ1 h1 => ?_))
  refine LX_aload_n cx dlw_1247 rfl (by omega) ?_
  refine LX_callVI cx (d := 30) (N := M_R_tries) (As := []) rfl cv_R_tries rfl (tk9 239 rfl rfl) rfl (Nat.le_of_ble_eq_true rfl) (by decide) dlw_1248 ob_161 (h1.mono (fun r2 σ2 h2 => ?_))
  exact LX_icmp_eq cx (tgt := 1588) dlw_1251 (by omega) h2.1 (nx σ2 h2.2)
theorem dlw_1256 : decode code 1256 = .ok (.aload_n 1, 1) := by decide +kernel
theorem dlw_1257 : decode code 1257 = .ok (.aload_n 0, 1) := by decide +kernel
theorem dlw_1258 : decode code 1258 = .ok (.iload_n 3, 1) := by decide +kernel
theorem dlw_1259 : decode code 1259 = .ok (.iconst 1, 1) := by decide +kernel
theorem dlw_1260 : decode code 1260 = .ok (.iadd, 1) := by decide +kernel
theorem dlw_1261 : decode code 1261 = .ok (.iaload, 1) := by decide +kernel
theorem dlw_1262 : decode code 1262 = .ok (.invokevirtual 176, 3) := by decide +kernel
theorem dlw_1265 : decode code 1265 = .ok (.aload_n 2, 1) := by decide +kernel
theorem dlw_1266 : decode code 1266 = .ok (.aload_n 0, 1) := by decide +kernel
theorem dlw_1267 : decode code 1267 = .ok (.iload_n 3, 1) := by decide +kernel
theorem dlw_1268 : decode code 1268 = .ok (.iconst 1, 1) := by decide +kernel
theorem dlw_1269 : decode code 1269 = .ok (.iadd, 1) := by decide +kernel
theorem dlw_1270 : decode code 1270 = .ok (.iaload, 1) := by decide +kernel
theorem dlw_1271 : decode code 1271 = .ok (.invokevirtual 179, 3) := by decide +kernel
theorem dlw_1274 : decode code 1274 = .ok (.if_icmp .eq 314, 3) := by decide +kernel
theorem lc_37 {l : Launch} {g : GG} {p : Program} {e : Env} {s : State} {m : MethodId} {b : Nat} {below : List Frame} {meth : Method} {c : Code} {Lc : Nat} {xs : Nat → Int32} {σ : SG} {k : Nat} (cx : LC g p s m b meth c Lc xs) (hk : k + 6 ≤ Lc) (hI : IVT σ) (nx : ∀ σ2, IVT σ2 → LX l g p e s m b below meth c 1588 [vA (-33), vA 0, vA 161, vI k] [] σ2) : LX l g p e s m b below meth c 1256 [vA (-33), vA 0, vA 161, vI k] [] σ := by
  refine LX_aload_n cx dlw_1256 rfl (by omega) ?_
  refine LX_arg cx (n := 1) rfl (by omega) dlw_1257 dlw_1258 dlw_1259 dlw_1260 dlw_1261 ?_
  refine LX_callVI cx (d := 30) (N := M_X_parted) (As := [vI ((xs (k + 1)).toInt)]) rfl cv_X_parted rfl (tk5 224 rfl rfl) rfl (Nat.le_of_ble_eq_true rfl) (by decide) dlw_1262 ob_0 ((c_parted (d := 0) hI).mono (fun r1 σ1 h1 => ?_))
  refine LX_aload_n cx dlw_1265 rfl (by omega) ?_
  refine LX_arg cx (n := 1) rfl (by omega) dlw_1266 dlw_1267 dlw_1268 dlw_1269 dlw_1270 ?_
  refine LX_callVI cx (d := 30) (N := M_R_parted) (As := [vI ((xs (k + 1)).toInt)]) rfl cv_R_parted rfl (tk10 3 rfl rfl) rfl (Nat.le_of_ble_eq_true rfl) (by decide) dlw_1271 ob_161 (h1.mono (fun r2 σ2 h2 => ?_))
  exact LX_icmp_eq cx (tgt := 1588) dlw_1274 (by omega) h2.1 (nx σ2 h2.2)
theorem dlw_1279 : decode code 1279 = .ok (.aload_n 1, 1) := by decide +kernel
theorem dlw_1280 : decode code 1280 = .ok (.aload_n 0, 1) := by decide +kernel
theorem dlw_1281 : decode code 1281 = .ok (.iload_n 3, 1) := by decide +kernel
theorem dlw_1282 : decode code 1282 = .ok (.iconst 1, 1) := by decide +kernel
theorem dlw_1283 : decode code 1283 = .ok (.iadd, 1) := by decide +kernel
theorem dlw_1284 : decode code 1284 = .ok (.iaload, 1) := by decide +kernel
theorem dlw_1285 : decode code 1285 = .ok (.invokevirtual 180, 3) := by decide +kernel
theorem dlw_1288 : decode code 1288 = .ok (.aload_n 2, 1) := by decide +kernel
theorem dlw_1289 : decode code 1289 = .ok (.aload_n 0, 1) := by decide +kernel
theorem dlw_1290 : decode code 1290 = .ok (.iload_n 3, 1) := by decide +kernel
theorem dlw_1291 : decode code 1291 = .ok (.iconst 1, 1) := by decide +kernel
theorem dlw_1292 : decode code 1292 = .ok (.iadd, 1) := by decide +kernel
theorem dlw_1293 : decode code 1293 = .ok (.iaload, 1) := by decide +kernel
theorem dlw_1294 : decode code 1294 = .ok (.invokevirtual 183, 3) := by decide +kernel
theorem dlw_1297 : decode code 1297 = .ok (.if_icmp .eq 291, 3) := by decide +kernel
theorem lc_38 {l : Launch} {g : GG} {p : Program} {e : Env} {s : State} {m : MethodId} {b : Nat} {below : List Frame} {meth : Method} {c : Code} {Lc : Nat} {xs : Nat → Int32} {σ : SG} {k : Nat} (cx : LC g p s m b meth c Lc xs) (hk : k + 6 ≤ Lc) (hI : IVT σ) (nx : ∀ σ2, IVT σ2 → LX l g p e s m b below meth c 1588 [vA (-33), vA 0, vA 161, vI k] [] σ2) : LX l g p e s m b below meth c 1279 [vA (-33), vA 0, vA 161, vI k] [] σ := by
  refine LX_aload_n cx dlw_1279 rfl (by omega) ?_
  refine LX_arg cx (n := 1) rfl (by omega) dlw_1280 dlw_1281 dlw_1282 dlw_1283 dlw_1284 ?_
  refine LX_callVI cx (d := 30) (N := M_X_change) (As := [vI ((xs (k + 1)).toInt)]) rfl cv_X_change rfl (tk5 233 rfl rfl) rfl (Nat.le_of_ble_eq_true rfl) (by decide) dlw_1285 ob_0 ((c_change (d := 0) hI).mono (fun r1 σ1 h1 => ?_))
  refine LX_aload_n cx dlw_1288 rfl (by omega) ?_
  refine LX_arg cx (n := 1) rfl (by omega) dlw_1289 dlw_1290 dlw_1291 dlw_1292 dlw_1293 ?_
  refine LX_callVI cx (d := 30) (N := M_R_change) (As := [vI ((xs (k + 1)).toInt)]) rfl cv_R_change rfl (tk10 11 rfl rfl) rfl (Nat.le_of_ble_eq_true rfl) (by decide) dlw_1294 ob_161 (h1.mono (fun r2 σ2 h2 => ?_))
  exact LX_icmp_eq cx (tgt := 1588) dlw_1297 (by omega) h2.1 (nx σ2 h2.2)
theorem dlw_1302 : decode code 1302 = .ok (.aload_n 1, 1) := by decide +kernel
theorem dlw_1303 : decode code 1303 = .ok (.aload_n 0, 1) := by decide +kernel
theorem dlw_1304 : decode code 1304 = .ok (.iload_n 3, 1) := by decide +kernel
theorem dlw_1305 : decode code 1305 = .ok (.iconst 1, 1) := by decide +kernel
theorem dlw_1306 : decode code 1306 = .ok (.iadd, 1) := by decide +kernel
theorem dlw_1307 : decode code 1307 = .ok (.iaload, 1) := by decide +kernel
theorem dlw_1308 : decode code 1308 = .ok (.invokevirtual 184, 3) := by decide +kernel
theorem dlw_1311 : decode code 1311 = .ok (.aload_n 2, 1) := by decide +kernel
theorem dlw_1312 : decode code 1312 = .ok (.aload_n 0, 1) := by decide +kernel
theorem dlw_1313 : decode code 1313 = .ok (.iload_n 3, 1) := by decide +kernel
theorem dlw_1314 : decode code 1314 = .ok (.iconst 1, 1) := by decide +kernel
theorem dlw_1315 : decode code 1315 = .ok (.iadd, 1) := by decide +kernel
theorem dlw_1316 : decode code 1316 = .ok (.iaload, 1) := by decide +kernel
theorem dlw_1317 : decode code 1317 = .ok (.invokevirtual 187, 3) := by decide +kernel
theorem dlw_1320 : decode code 1320 = .ok (.if_icmp .eq 268, 3) := by decide +kernel
theorem lc_39 {l : Launch} {g : GG} {p : Program} {e : Env} {s : State} {m : MethodId} {b : Nat} {below : List Frame} {meth : Method} {c : Code} {Lc : Nat} {xs : Nat → Int32} {σ : SG} {k : Nat} (cx : LC g p s m b meth c Lc xs) (hk : k + 6 ≤ Lc) (hI : IVT σ) (nx : ∀ σ2, IVT σ2 → LX l g p e s m b below meth c 1588 [vA (-33), vA 0, vA 161, vI k] [] σ2) : LX l g p e s m b below meth c 1302 [vA (-33), vA 0, vA 161, vI k] [] σ := by
  refine LX_aload_n cx dlw_1302 rfl (by omega) ?_
  refine LX_arg cx (n := 1) rfl (by omega) dlw_1303 dlw_1304 dlw_1305 dlw_1306 dlw_1307 ?_
  refine LX_callVI cx (d := 30) (N := M_X_squeeze) (As := [vI ((xs (k + 1)).toInt)]) rfl cv_X_squeeze rfl (tk6 19 rfl rfl) rfl (Nat.le_of_ble_eq_true rfl) (by decide) dlw_1308 ob_0 ((c_squeeze (d := 0) hI).mono (fun r1 σ1 h1 => ?_))
  refine LX_aload_n cx dlw_1311 rfl (by omega) ?_
  refine LX_arg cx (n := 1) rfl (by omega) dlw_1312 dlw_1313 dlw_1314 dlw_1315 dlw_1316 ?_
  refine LX_callVI cx (d := 30) (N := M_R_squeeze) (As := [vI ((xs (k + 1)).toInt)]) rfl cv_R_squeeze rfl (tk10 31 rfl rfl) rfl (Nat.le_of_ble_eq_true rfl) (by decide) dlw_1317 ob_161 (h1.mono (fun r2 σ2 h2 => ?_))
  exact LX_icmp_eq cx (tgt := 1588) dlw_1320 (by omega) h2.1 (nx σ2 h2.2)
theorem dlw_1325 : decode code 1325 = .ok (.aload_n 1, 1) := by decide +kernel
theorem dlw_1326 : decode code 1326 = .ok (.aload_n 0, 1) := by decide +kernel
theorem dlw_1327 : decode code 1327 = .ok (.iload_n 3, 1) := by decide +kernel
theorem dlw_1328 : decode code 1328 = .ok (.iconst 1, 1) := by decide +kernel
theorem dlw_1329 : decode code 1329 = .ok (.iadd, 1) := by decide +kernel
theorem dlw_1330 : decode code 1330 = .ok (.iaload, 1) := by decide +kernel
theorem dlw_1331 : decode code 1331 = .ok (.invokevirtual 188, 3) := by decide +kernel
theorem dlw_1334 : decode code 1334 = .ok (.aload_n 2, 1) := by decide +kernel
theorem dlw_1335 : decode code 1335 = .ok (.aload_n 0, 1) := by decide +kernel
theorem dlw_1336 : decode code 1336 = .ok (.iload_n 3, 1) := by decide +kernel
theorem dlw_1337 : decode code 1337 = .ok (.iconst 1, 1) := by decide +kernel
theorem dlw_1338 : decode code 1338 = .ok (.iadd, 1) := by decide +kernel
theorem dlw_1339 : decode code 1339 = .ok (.iaload, 1) := by decide +kernel
theorem dlw_1340 : decode code 1340 = .ok (.invokevirtual 191, 3) := by decide +kernel
theorem dlw_1343 : decode code 1343 = .ok (.if_icmp .eq 245, 3) := by decide +kernel
theorem lc_40 {l : Launch} {g : GG} {p : Program} {e : Env} {s : State} {m : MethodId} {b : Nat} {below : List Frame} {meth : Method} {c : Code} {Lc : Nat} {xs : Nat → Int32} {σ : SG} {k : Nat} (cx : LC g p s m b meth c Lc xs) (hk : k + 6 ≤ Lc) (hI : IVT σ) (nx : ∀ σ2, IVT σ2 → LX l g p e s m b below meth c 1588 [vA (-33), vA 0, vA 161, vI k] [] σ2) : LX l g p e s m b below meth c 1325 [vA (-33), vA 0, vA 161, vI k] [] σ := by
  refine LX_aload_n cx dlw_1325 rfl (by omega) ?_
  refine LX_arg cx (n := 1) rfl (by omega) dlw_1326 dlw_1327 dlw_1328 dlw_1329 dlw_1330 ?_
  refine LX_callVI cx (d := 30) (N := M_X_barred) (As := [vI ((xs (k + 1)).toInt)]) rfl cv_X_barred rfl (tk6 28 rfl rfl) rfl (Nat.le_of_ble_eq_true rfl) (by decide) dlw_1331 ob_0 ((c_barred (d := 0) hI).mono (fun r1 σ1 h1 => ?_))
  refine LX_aload_n cx dlw_1334 rfl (by omega) ?_
  refine LX_arg cx (n := 1) rfl (by omega) dlw_1335 dlw_1336 dlw_1337 dlw_1338 dlw_1339 ?_
  refine LX_callVI cx (d := 30) (N := M_R_barred) (As := [vI ((xs (k + 1)).toInt)]) rfl cv_R_barred rfl (tk10 36 rfl rfl) rfl (Nat.le_of_ble_eq_true rfl) (by decide) dlw_1340 ob_161 (h1.mono (fun r2 σ2 h2 => ?_))
  exact LX_icmp_eq cx (tgt := 1588) dlw_1343 (by omega) h2.1 (nx σ2 h2.2)
theorem dlw_1348 : decode code 1348 = .ok (.aload_n 1, 1) := by decide +kernel
theorem dlw_1349 : decode code 1349 = .ok (.aload_n 0, 1) := by decide +kernel
theorem dlw_1350 : decode code 1350 = .ok (.iload_n 3, 1) := by decide +kernel
theorem dlw_1351 : decode code 1351 = .ok (.iconst 1, 1) := by decide +kernel
theorem dlw_1352 : decode code 1352 = .ok (.iadd, 1) := by decide +kernel
theorem dlw_1353 : decode code 1353 = .ok (.iaload, 1) := by decide +kernel
theorem dlw_1354 : decode code 1354 = .ok (.invokevirtual 192, 3) := by decide +kernel
theorem dlw_1357 : decode code 1357 = .ok (.aload_n 2, 1) := by decide +kernel
theorem dlw_1358 : decode code 1358 = .ok (.aload_n 0, 1) := by decide +kernel
theorem dlw_1359 : decode code 1359 = .ok (.iload_n 3, 1) := by decide +kernel
theorem dlw_1360 : decode code 1360 = .ok (.iconst 1, 1) := by decide +kernel
theorem dlw_1361 : decode code 1361 = .ok (.iadd, 1) := by decide +kernel
theorem dlw_1362 : decode code 1362 = .ok (.iaload, 1) := by decide +kernel
theorem dlw_1363 : decode code 1363 = .ok (.invokevirtual 195, 3) := by decide +kernel
theorem dlw_1366 : decode code 1366 = .ok (.if_icmp .eq 222, 3) := by decide +kernel
theorem lc_41 {l : Launch} {g : GG} {p : Program} {e : Env} {s : State} {m : MethodId} {b : Nat} {below : List Frame} {meth : Method} {c : Code} {Lc : Nat} {xs : Nat → Int32} {σ : SG} {k : Nat} (cx : LC g p s m b meth c Lc xs) (hk : k + 6 ≤ Lc) (hI : IVT σ) (nx : ∀ σ2, IVT σ2 → LX l g p e s m b below meth c 1588 [vA (-33), vA 0, vA 161, vI k] [] σ2) : LX l g p e s m b below meth c 1348 [vA (-33), vA 0, vA 161, vI k] [] σ := by
  refine LX_aload_n cx dlw_1348 rfl (by omega) ?_
  refine LX_arg cx (n := 1) rfl (by omega) dlw_1349 dlw_1350 dlw_1351 dlw_1352 dlw_1353 ?_
  refine LX_callVI cx (d := 30) (N := M_X_cocycle) (As := [vI ((xs (k + 1)).toInt)]) rfl cv_X_cocycle rfl (tk6 32 rfl rfl) rfl (Nat.le_of_ble_eq_true rfl) (by decide) dlw_1354 ob_0 ((c_cocycle (d := 0) hI).mono (fun r1 σ1 h1 => ?_))
  refine LX_aload_n cx dlw_1357 rfl (by omega) ?_
  refine LX_arg cx (n := 1) rfl (by omega) dlw_1358 dlw_1359 dlw_1360 dlw_1361 dlw_1362 ?_
  refine LX_callVI cx (d := 30) (N := M_R_cocycle) (As := [vI ((xs (k + 1)).toInt)]) rfl cv_R_cocycle rfl (tk10 40 rfl rfl) rfl (Nat.le_of_ble_eq_true rfl) (by decide) dlw_1363 ob_161 (h1.mono (fun r2 σ2 h2 => ?_))
  exact LX_icmp_eq cx (tgt := 1588) dlw_1366 (by omega) h2.1 (nx σ2 h2.2)
