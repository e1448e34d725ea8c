/-! ===== the law: cases 21 to 27 (written by gen5.py) ===== -/
theorem dlw_938 : decode code 938 = .ok (.aload_n 1, 1) := by decide +kernel
theorem dlw_939 : decode code 939 = .ok (.aload_n 0, 1) := by decide +kernel
theorem dlw_940 : decode code 940 = .ok (.iload_n 3, 1) := by decide +kernel
theorem dlw_941 : decode code 941 = .ok (.iconst 1, 1) := by decide +kernel
theorem dlw_942 : decode code 942 = .ok (.iadd, 1) := by decide +kernel
theorem dlw_943 : decode code 943 = .ok (.iaload, 1) := by decide +kernel
theorem dlw_944 : decode code 944 = .ok (.invokevirtual 111, 3) := by decide +kernel
theorem dlw_947 : decode code 947 = .ok (.aload_n 2, 1) := by decide +kernel
theorem dlw_948 : decode code 948 = .ok (.aload_n 0, 1) := by decide +kernel
theorem dlw_949 : decode code 949 = .ok (.iload_n 3, 1) := by decide +kernel
theorem dlw_950 : decode code 950 = .ok (.iconst 1, 1) := by decide +kernel
theorem dlw_951 : decode code 951 = .ok (.iadd, 1) := by decide +kernel
theorem dlw_952 : decode code 952 = .ok (.iaload, 1) := by decide +kernel
theorem dlw_953 : decode code 953 = .ok (.invokevirtual 114, 3) := by decide +kernel
theorem dlw_956 : decode code 956 = .ok (.if_icmp .eq 632, 3) := by decide +kernel
theorem lc_21 {l : Launch} {g : GG} {p : Program} {e : Env} {s : State} {m : MethodId} {b : Nat} {below : List Frame} {meth : Method} {c : Code} {Lc : Nat} {xs : Nat → Int32} {σ : SG} {k : Nat} (cx : LC g p s m b meth c Lc xs) (hk : k + 6 ≤ Lc) (hI : IVT σ) (nx : ∀ σ2, IVT σ2 → LX l g p e s m b below meth c 1588 [vA (-33), vA 0, vA 161, vI k] [] σ2) : LX l g p e s m b below meth c 938 [vA (-33), vA 0, vA 161, vI k] [] σ := by
  refine LX_aload_n cx dlw_938 rfl (by omega) ?_
  refine LX_arg cx (n := 1) rfl (by omega) dlw_939 dlw_940 dlw_941 dlw_942 dlw_943 ?_
  refine LX_callVI cx (d := 30) (N := M_X_lower) (As := [vI ((xs (k + 1)).toInt)]) rfl cv_X_lower rfl (tk4 211 rfl rfl) rfl (Nat.le_of_ble_eq_true rfl) (by decide) dlw_944 ob_0 ((c_lower (d := 0) hI).mono (fun r1 σ1 h1 => ?_))
  refine LX_aload_n cx dlw_947 rfl (by omega) ?_
  refine LX_arg cx (n := 1) rfl (by omega) dlw_948 dlw_949 dlw_950 dlw_951 dlw_952 ?_
  refine LX_callVI cx (d := 30) (N := M_R_lower) (As := [vI ((xs (k + 1)).toInt)]) rfl cv_R_lower rfl (tk9 23 rfl rfl) rfl (Nat.le_of_ble_eq_true rfl) (by decide) dlw_953 ob_161 (h1.mono (fun r2 σ2 h2 => ?_))
  exact LX_icmp_eq cx (tgt := 1588) dlw_956 (by omega) h2.1 (nx σ2 h2.2)
theorem dlw_961 : decode code 961 = .ok (.aload_n 1, 1) := by decide +kernel
theorem dlw_962 : decode code 962 = .ok (.invokevirtual 115, 3) := by decide +kernel
theorem dlw_965 : decode code 965 = .ok (.aload_n 2, 1) := by decide +kernel
theorem dlw_966 : decode code 966 = .ok (.invokevirtual 118, 3) := by decide +kernel
theorem dlw_969 : decode code 969 = .ok (.if_icmp .eq 619, 3) := by decide +kernel
theorem lc_22 {l : Launch} {g : GG} {p : Program} {e : Env} {s : State} {m : MethodId} {b : Nat} {below : List Frame} {meth : Method} {c : Code} {Lc : Nat} {xs : Nat → Int32} {σ : SG} {k : Nat} (cx : LC g p s m b meth c Lc xs) (hk : k + 6 ≤ Lc) (hI : IVT σ) (nx : ∀ σ2, IVT σ2 → LX l g p e s m b below meth c 1588 [vA (-33), vA 0, vA 161, vI k] [] σ2) : LX l g p e s m b below meth c 961 [vA (-33), vA 0, vA 161, vI k] [] σ := by
  refine LX_aload_n cx dlw_961 rfl (by omega) ?_
  refine LX_callVI cx (d := 30) (N := M_X_centre) (As := []) rfl cv_X_centre rfl (tk4 215 rfl rfl) rfl (Nat.le_of_ble_eq_true rfl) (by decide) dlw_962 ob_0 ((c_centre (d := 0) hI).mono (fun r1 σ1 h1 => ?_))
  refine LX_aload_n cx dlw_965 rfl (by omega) ?_
  refine LX_callVI cx (d := 30) (N := M_R_centre) (As := []) rfl cv_R_centre rfl (tk9 27 rfl rfl) rfl (Nat.le_of_ble_eq_true rfl) (by decide) dlw_966 ob_161 (h1.mono (fun r2 σ2 h2 => ?_))
  exact LX_icmp_eq cx (tgt := 1588) dlw_969 (by omega) h2.1 (nx σ2 h2.2)
theorem dlw_974 : decode code 974 = .ok (.aload_n 1, 1) := by decide +kernel
theorem dlw_975 : decode code 975 = .ok (.aload_n 0, 1) := by decide +kernel
theorem dlw_976 : decode code 976 = .ok (.iload_n 3, 1) := by decide +kernel
theorem dlw_977 : decode code 977 = .ok (.iconst 1, 1) := by decide +kernel
theorem dlw_978 : decode code 978 = .ok (.iadd, 1) := by decide +kernel
theorem dlw_979 : decode code 979 = .ok (.iaload, 1) := by decide +kernel
theorem dlw_980 : decode code 980 = .ok (.invokevirtual 119, 3) := by decide +kernel
theorem dlw_983 : decode code 983 = .ok (.aload_n 2, 1) := by decide +kernel
theorem dlw_984 : decode code 984 = .ok (.aload_n 0, 1) := by decide +kernel
theorem dlw_985 : decode code 985 = .ok (.iload_n 3, 1) := by decide +kernel
theorem dlw_986 : decode code 986 = .ok (.iconst 1, 1) := by decide +kernel
theorem dlw_987 : decode code 987 = .ok (.iadd, 1) := by decide +kernel
theorem dlw_988 : decode code 988 = .ok (.iaload, 1) := by decide +kernel
theorem dlw_989 : decode code 989 = .ok (.invokevirtual 122, 3) := by decide +kernel
theorem dlw_992 : decode code 992 = .ok (.if_icmp .eq 596, 3) := by decide +kernel
theorem lc_23 {l : Launch} {g : GG} {p : Program} {e : Env} {s : State} {m : MethodId} {b : Nat} {below : List Frame} {meth : Method} {c : Code} {Lc : Nat} {xs : Nat → Int32} {σ : SG} {k : Nat} (cx : LC g p s m b meth c Lc xs) (hk : k + 6 ≤ Lc) (hI : IVT σ) (nx : ∀ σ2, IVT σ2 → LX l g p e s m b below meth c 1588 [vA (-33), vA 0, vA 161, vI k] [] σ2) : LX l g p e s m b below meth c 974 [vA (-33), vA 0, vA 161, vI k] [] σ := by
  refine LX_aload_n cx dlw_974 rfl (by omega) ?_
  refine LX_arg cx (n := 1) rfl (by omega) dlw_975 dlw_976 dlw_977 dlw_978 dlw_979 ?_
  refine LX_callVI cx (d := 30) (N := M_X_centralizer) (As := [vI ((xs (k + 1)).toInt)]) rfl cv_X_centralizer rfl (tk4 232 rfl rfl) rfl (Nat.le_of_ble_eq_true rfl) (by decide) dlw_980 ob_0 ((c_centralizer (d := 0) hI).mono (fun r1 σ1 h1 => ?_))
  refine LX_aload_n cx dlw_983 rfl (by omega) ?_
  refine LX_arg cx (n := 1) rfl (by omega) dlw_984 dlw_985 dlw_986 dlw_987 dlw_988 ?_
  refine LX_callVI cx (d := 30) (N := M_R_centralizer) (As := [vI ((xs (k + 1)).toInt)]) rfl cv_R_centralizer rfl (tk9 47 rfl rfl) rfl (Nat.le_of_ble_eq_true rfl) (by decide) dlw_989 ob_161 (h1.mono (fun r2 σ2 h2 => ?_))
  exact LX_icmp_eq cx (tgt := 1588) dlw_992 (by omega) h2.1 (nx σ2 h2.2)
theorem dlw_997 : decode code 997 = .ok (.aload_n 1, 1) := by decide +kernel
theorem dlw_998 : decode code 998 = .ok (.aload_n 0, 1) := by decide +kernel
theorem dlw_999 : decode code 999 = .ok (.iload_n 3, 1) := by decide +kernel
theorem dlw_1000 : decode code 1000 = .ok (.iconst 1, 1) := by decide +kernel
theorem dlw_1001 : decode code 1001 = .ok (.iadd, 1) := by decide +kernel
theorem dlw_1002 : decode code 1002 = .ok (.iaload, 1) := by decide +kernel
theorem dlw_1003 : decode code 1003 = .ok (.invokevirtual 123, 3) := by decide +kernel
theorem dlw_1006 : decode code 1006 = .ok (.aload_n 2, 1) := by decide +kernel
theorem dlw_1007 : decode code 1007 = .ok (.aload_n 0, 1) := by decide +kernel
theorem dlw_1008 : decode code 1008 = .ok (.iload_n 3, 1) := by decide +kernel
theorem dlw_1009 : decode code 1009 = .ok (.iconst 1, 1) := by decide +kernel
theorem dlw_1010 : decode code 1010 = .ok (.iadd, 1) := by decide +kernel
theorem dlw_1011 : decode code 1011 = .ok (.iaload, 1) := by decide +kernel
theorem dlw_1012 : decode code 1012 = .ok (.invokevirtual 126, 3) := by decide +kernel
theorem dlw_1015 : decode code 1015 = .ok (.if_icmp .eq 573, 3) := by decide +kernel
theorem lc_24 {l : Launch} {g : GG} {p : Program} {e : Env} {s : State} {m : MethodId} {b : Nat} {below : List Frame} {meth : Method} {c : Code} {Lc : Nat} {xs : Nat → Int32} {σ : SG} {k : Nat} (cx : LC g p s m b meth c Lc xs) (hk : k + 6 ≤ Lc) (hI : IVT σ) (nx : ∀ σ2, IVT σ2 → LX l g p e s m b below meth c 1588 [vA (-33), vA 0, vA 161, vI k] [] σ2) : LX l g p e s m b below meth c 997 [vA (-33), vA 0, vA 161, vI k] [] σ := by
  refine LX_aload_n cx dlw_997 rfl (by omega) ?_
  refine LX_arg cx (n := 1) rfl (by omega) dlw_998 dlw_999 dlw_1000 dlw_1001 dlw_1002 ?_
  refine LX_callVI cx (d := 30) (N := M_X_is) (As := [vI ((xs (k + 1)).toInt)]) rfl cv_X_is rfl (tk5 1 rfl rfl) rfl (Nat.le_of_ble_eq_true rfl) (by decide) dlw_1003 ob_0 ((c_is (d := 0) hI).mono (fun r1 σ1 h1 => ?_))
  refine LX_aload_n cx dlw_1006 rfl (by omega) ?_
  refine LX_arg cx (n := 1) rfl (by omega) dlw_1007 dlw_1008 dlw_1009 dlw_1010 dlw_1011 ?_
  refine LX_callVI cx (d := 30) (N := M_R_is) (As := [vI ((xs (k + 1)).toInt)]) rfl cv_R_is rfl (tk9 114 rfl rfl) rfl (Nat.le_of_ble_eq_true rfl) (by decide) dlw_1012 ob_161 (h1.mono (fun r2 σ2 h2 => ?_))
  exact LX_icmp_eq cx (tgt := 1588) dlw_1015 (by omega) h2.1 (nx σ2 h2.2)
theorem dlw_1020 : decode code 1020 = .ok (.aload_n 1, 1) := by decide +kernel
theorem dlw_1021 : decode code 1021 = .ok (.aload_n 0, 1) := by decide +kernel
theorem dlw_1022 : decode code 1022 = .ok (.iload_n 3, 1) := by decide +kernel
theorem dlw_1023 : decode code 1023 = .ok (.iconst 1, 1) := by decide +kernel
theorem dlw_1024 : decode code 1024 = .ok (.iadd, 1) := by decide +kernel
theorem dlw_1025 : decode code 1025 = .ok (.iaload, 1) := by decide +kernel
theorem dlw_1026 : decode code 1026 = .ok (.invokevirtual 127, 3) := by decide +kernel
theorem dlw_1029 : decode code 1029 = .ok (.aload_n 2, 1) := by decide +kernel
theorem dlw_1030 : decode code 1030 = .ok (.aload_n 0, 1) := by decide +kernel
theorem dlw_1031 : decode code 1031 = .ok (.iload_n 3, 1) := by decide +kernel
theorem dlw_1032 : decode code 1032 = .ok (.iconst 1, 1) := by decide +kernel
theorem dlw_1033 : decode code 1033 = .ok (.iadd, 1) := by decide +kernel
theorem dlw_1034 : decode code 1034 = .ok (.iaload, 1) := by decide +kernel
theorem dlw_1035 : decode code 1035 = .ok (.invokevirtual 130, 3) := by decide +kernel
theorem dlw_1038 : decode code 1038 = .ok (.if_icmp .eq 550, 3) := by decide +kernel
theorem lc_25 {l : Launch} {g : GG} {p : Program} {e : Env} {s : State} {m : MethodId} {b : Nat} {below : List Frame} {meth : Method} {c : Code} {Lc : Nat} {xs : Nat → Int32} {σ : SG} {k : Nat} (cx : LC g p s m b meth c Lc xs) (hk : k + 6 ≤ Lc) (hI : IVT σ) (nx : ∀ σ2, IVT σ2 → LX l g p e s m b below meth c 1588 [vA (-33), vA 0, vA 161, vI k] [] σ2) : LX l g p e s m b below meth c 1020 [vA (-33), vA 0, vA 161, vI k] [] σ := by
  refine LX_aload_n cx dlw_1020 rfl (by omega) ?_
  refine LX_arg cx (n := 1) rfl (by omega) dlw_1021 dlw_1022 dlw_1023 dlw_1024 dlw_1025 ?_
  refine LX_callVI cx (d := 30) (N := M_X_radical) (As := [vI ((xs (k + 1)).toInt)]) rfl cv_X_radical rfl (tk5 18 rfl rfl) rfl (Nat.le_of_ble_eq_true rfl) (by decide) dlw_1026 ob_0 ((c_radical (d := 0) hI).mono (fun r1 σ1 h1 => ?_))
  refine LX_aload_n cx dlw_1029 rfl (by omega) ?_
  refine LX_arg cx (n := 1) rfl (by omega) dlw_1030 dlw_1031 dlw_1032 dlw_1033 dlw_1034 ?_
  refine LX_callVI cx (d := 30) (N := M_R_radical) (As := [vI ((xs (k + 1)).toInt)]) rfl cv_R_radical rfl (tk9 135 rfl rfl) rfl (Nat.le_of_ble_eq_true rfl) (by decide) dlw_1035 ob_161 (h1.mono (fun r2 σ2 h2 => ?_))
  exact LX_icmp_eq cx (tgt := 1588) dlw_1038 (by omega) h2.1 (nx σ2 h2.2)
theorem dlw_1043 : decode code 1043 = .ok (.aload_n 1, 1) := by decide +kernel
theorem dlw_1044 : decode code 1044 = .ok (.aload_n 0, 1) := by decide +kernel
theorem dlw_1045 : decode code 1045 = .ok (.iload_n 3, 1) := by decide +kernel
theorem dlw_1046 : decode code 1046 = .ok (.iconst 1, 1) := by decide +kernel
theorem dlw_1047 : decode code 1047 = .ok (.iadd, 1) := by decide +kernel
theorem dlw_1048 : decode code 1048 = .ok (.iaload, 1) := by decide +kernel
theorem dlw_1049 : decode code 1049 = .ok (.aload_n 0, 1) := by decide +kernel
theorem dlw_1050 : decode code 1050 = .ok (.iload_n 3, 1) := by decide +kernel
theorem dlw_1051 : decode code 1051 = .ok (.iconst 2, 1) := by decide +kernel
theorem dlw_1052 : decode code 1052 = .ok (.iadd, 1) := by decide +kernel
theorem dlw_1053 : decode code 1053 = .ok (.iaload, 1) := by decide +kernel
theorem dlw_1054 : decode code 1054 = .ok (.invokevirtual 131, 3) := by decide +kernel
theorem dlw_1057 : decode code 1057 = .ok (.aload_n 2, 1) := by decide +kernel
theorem dlw_1058 : decode code 1058 = .ok (.aload_n 0, 1) := by decide +kernel
theorem dlw_1059 : decode code 1059 = .ok (.iload_n 3, 1) := by decide +kernel
theorem dlw_1060 : decode code 1060 = .ok (.iconst 1, 1) := by decide +kernel
theorem dlw_1061 : decode code 1061 = .ok (.iadd, 1) := by decide +kernel
theorem dlw_1062 : decode code 1062 = .ok (.iaload, 1) := by decide +kernel
theorem dlw_1063 : decode code 1063 = .ok (.aload_n 0, 1) := by decide +kernel
theorem dlw_1064 : decode code 1064 = .ok (.iload_n 3, 1) := by decide +kernel
theorem dlw_1065 : decode code 1065 = .ok (.iconst 2, 1) := by decide +kernel
theorem dlw_1066 : decode code 1066 = .ok (.iadd, 1) := by decide +kernel
theorem dlw_1067 : decode code 1067 = .ok (.iaload, 1) := by decide +kernel
theorem dlw_1068 : decode code 1068 = .ok (.invokevirtual 134, 3) := by decide +kernel
theorem dlw_1071 : decode code 1071 = .ok (.if_icmp .eq 517, 3) := by decide +kernel
theorem lc_26 {l : Launch} {g : GG} {p : Program} {e : Env} {s : State} {m : MethodId} {b : Nat} {below : List Frame} {meth : Method} {c : Code} {Lc : Nat} {xs : Nat → Int32} {σ : SG} {k : Nat} (cx : LC g p s m b meth c Lc xs) (hk : k + 6 ≤ Lc) (hI : IVT σ) (nx : ∀ σ2, IVT σ2 → LX l g p e s m b below meth c 1588 [vA (-33), vA 0, vA 161, vI k] [] σ2) : LX l g p e s m b below meth c 1043 [vA (-33), vA 0, vA 161, vI k] [] σ := by
  refine LX_aload_n cx dlw_1043 rfl (by omega) ?_
  refine LX_arg cx (n := 1) rfl (by omega) dlw_1044 dlw_1045 dlw_1046 dlw_1047 dlw_1048 ?_
  refine LX_arg cx (n := 2) rfl (by omega) dlw_1049 dlw_1050 dlw_1051 dlw_1052 dlw_1053 ?_
  refine LX_callVI cx (d := 30) (N := M_X_parts) (As := [vI ((xs (k + 1)).toInt), vI ((xs (k + 2)).toInt)]) rfl cv_X_parts rfl (tk5 67 rfl rfl) rfl (Nat.le_of_ble_eq_true rfl) (by decide) dlw_1054 ob_0 ((c_parts (d := 0) hI).mono (fun r1 σ1 h1 => ?_))
  refine LX_aload_n cx dlw_1057 rfl (by omega) ?_
  refine LX_arg cx (n := 1) rfl (by omega) dlw_1058 dlw_1059 dlw_1060 dlw_1061 dlw_1062 ?_
  refine LX_arg cx (n := 2) rfl (by omega) dlw_1063 dlw_1064 dlw_1065 dlw_1066 dlw_1067 ?_
  refine LX_callVI cx (d := 30) (N := M_R_parts) (As := [vI ((xs (k + 1)).toInt), vI ((xs (k + 2)).toInt)]) rfl cv_R_parts rfl (tk9 59 rfl rfl) rfl (Nat.le_of_ble_eq_true rfl) (by decide) dlw_1068 ob_161 (h1.mono (fun r2 σ2 h2 => ?_))
  exact LX_icmp_eq cx (tgt := 1588) dlw_1071 (by omega) h2.1 (nx σ2 h2.2)
theorem dlw_1076 : decode code 1076 = .ok (.aload_n 1, 1) := by decide +kernel
theorem dlw_1077 : decode code 1077 = .ok (.invokevirtual 135, 3) := by decide +kernel
theorem dlw_1080 : decode code 1080 = .ok (.aload_n 2, 1) := by decide +kernel
theorem dlw_1081 : decode code 1081 = .ok (.invokevirtual 139, 3) := by decide +kernel
theorem dlw_1084 : decode code 1084 = .ok (.if_icmp .eq 504, 3) := by decide +kernel
theorem lc_27 {l : Launch} {g : GG} {p : Program} {e : Env} {s : State} {m : MethodId} {b : Nat} {below : List Frame} {meth : Method} {c : Code} {Lc : Nat} {xs : Nat → Int32} {σ : SG} {k : Nat} (cx : LC g p s m b meth c Lc xs) (hk : k + 6 ≤ Lc) (hI : IVT σ) (nx : ∀ σ2, IVT σ2 → LX l g p e s m b below meth c 1588 [vA (-33), vA 0, vA 161, vI k] [] σ2) : LX l g p e s m b below meth c 1076 [vA (-33), vA 0, vA 161, vI k] [] σ := by
  refine LX_aload_n cx dlw_1076 rfl (by omega) ?_
  refine LX_callVI cx (d := 30) (N := M_X_share) (As := []) rfl cv_X_share rfl (tk5 83 rfl rfl) rfl (Nat.le_of_ble_eq_true rfl) (by decide) dlw_1077 ob_0 ((c_share (d := 0) hI).mono (fun r1 σ1 h1 => ?_))
  refine LX_aload_n cx dlw_1080 rfl (by omega) ?_
  refine LX_callVI cx (d := 30) (N := M_R_share) (As := []) rfl cv_R_share rfl (tk9 103 rfl rfl) rfl (Nat.le_of_ble_eq_true rfl) (by decide) dlw_1081 ob_161 (h1.mono (fun r2 σ2 h2 => ?_))
  exact LX_icmp_eq cx (tgt := 1588) dlw_1084 (by omega) h2.1 (nx σ2 h2.2)
