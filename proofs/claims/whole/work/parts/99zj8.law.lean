/-! ===== the law: cases 49 to 50 (written by gen5.py) ===== -/
theorem dlw_1562 : decode code 1562 = .ok (.aload_n 1, 1) := by decide +kernel
theorem dlw_1563 : decode code 1563 = .ok (.invokevirtual 224, 3) := by decide +kernel
theorem dlw_1566 : decode code 1566 = .ok (.aload_n 2, 1) := by decide +kernel
theorem dlw_1567 : decode code 1567 = .ok (.invokevirtual 227, 3) := by decide +kernel
theorem dlw_1570 : decode code 1570 = .ok (.if_icmp .eq 18, 3) := by decide +kernel
theorem lc_49 {l : Launch} {g : GG} {p : Program} {e : Env} {s : State} {m : MethodId} {b : Nat} {below : List Frame} {meth : Method} {c : Code} {Lc : Nat} {xs : Nat → Int32} {σ : SG} {k : Nat} (cx : LC g p s m b meth c Lc xs) (hk : k + 6 ≤ Lc) (hI : IVT σ) (nx : ∀ σ2, IVT σ2 → LX l g p e s m b below meth c 1588 [vA (-33), vA 0, vA 161, vI k] [] σ2) : LX l g p e s m b below meth c 1562 [vA (-33), vA 0, vA 161, vI k] [] σ := by
  refine LX_aload_n cx dlw_1562 rfl (by omega) ?_
  refine LX_callVI cx (d := 30) (N := M_X_mark) (As := []) rfl cv_X_mark rfl (tk6 178 rfl rfl) rfl (Nat.le_of_ble_eq_true rfl) (by decide) dlw_1563 ob_0 ((c_mark (d := 0) hI).mono (fun r1 σ1 h1 => ?_))
  refine LX_aload_n cx dlw_1566 rfl (by omega) ?_
  refine LX_callVI cx (d := 30) (N := M_R_mark) (As := []) rfl cv_R_mark rfl (tk10 184 rfl rfl) rfl (Nat.le_of_ble_eq_true rfl) (by decide) dlw_1567 ob_161 (h1.mono (fun r2 σ2 h2 => ?_))
  exact LX_icmp_eq cx (tgt := 1588) dlw_1570 (by omega) h2.1 (nx σ2 h2.2)
theorem dlw_1575 : decode code 1575 = .ok (.aload_n 1, 1) := by decide +kernel
theorem dlw_1576 : decode code 1576 = .ok (.invokevirtual 228, 3) := by decide +kernel
theorem dlw_1579 : decode code 1579 = .ok (.aload_n 2, 1) := by decide +kernel
theorem dlw_1580 : decode code 1580 = .ok (.invokevirtual 231, 3) := by decide +kernel
theorem dlw_1583 : decode code 1583 = .ok (.if_icmp .eq 5, 3) := by decide +kernel
theorem lc_50 {l : Launch} {g : GG} {p : Program} {e : Env} {s : State} {m : MethodId} {b : Nat} {below : List Frame} {meth : Method} {c : Code} {Lc : Nat} {xs : Nat → Int32} {σ : SG} {k : Nat} (cx : LC g p s m b meth c Lc xs) (hk : k + 6 ≤ Lc) (hI : IVT σ) (nx : ∀ σ2, IVT σ2 → LX l g p e s m b below meth c 1588 [vA (-33), vA 0, vA 161, vI k] [] σ2) : LX l g p e s m b below meth c 1575 [vA (-33), vA 0, vA 161, vI k] [] σ := by
  refine LX_aload_n cx dlw_1575 rfl (by omega) ?_
  refine LX_callVI cx (d := 30) (N := M_X_back) (As := []) rfl cv_X_back rfl (tk6 187 rfl rfl) rfl (Nat.le_of_ble_eq_true rfl) (by decide) dlw_1576 ob_0 ((c_back (d := 0) hI).mono (fun r1 σ1 h1 => ?_))
  refine LX_aload_n cx dlw_1579 rfl (by omega) ?_
  refine LX_callVI cx (d := 30) (N := M_R_back) (As := []) rfl cv_R_back rfl (tk10 192 rfl rfl) rfl (Nat.le_of_ble_eq_true rfl) (by decide) dlw_1580 ob_161 (h1.mono (fun r2 σ2 h2 => ?_))
  exact LX_icmp_eq cx (tgt := 1588) dlw_1583 (by omega) h2.1 (nx σ2 h2.2)
