theorem in_m20 : inI (-20) := ⟨by decide, by decide⟩
theorem in_m1 : inI (-1) := ⟨by decide, by decide⟩
theorem in_0 : inI 0 := ⟨by decide, by decide⟩
theorem in_1 : inI 1 := ⟨by decide, by decide⟩
theorem in_2 : inI 2 := ⟨by decide, by decide⟩
theorem in_3 : inI 3 := ⟨by decide, by decide⟩
theorem in_4 : inI 4 := ⟨by decide, by decide⟩
theorem in_5 : inI 5 := ⟨by decide, by decide⟩
theorem in_6 : inI 6 := ⟨by decide, by decide⟩
theorem in_7 : inI 7 := ⟨by decide, by decide⟩
theorem in_8 : inI 8 := ⟨by decide, by decide⟩
theorem in_9 : inI 9 := ⟨by decide, by decide⟩
theorem in_10 : inI 10 := ⟨by decide, by decide⟩
theorem in_11 : inI 11 := ⟨by decide, by decide⟩
theorem in_16 : inI 16 := ⟨by decide, by decide⟩
theorem in_20 : inI 20 := ⟨by decide, by decide⟩
theorem in_24 : inI 24 := ⟨by decide, by decide⟩
theorem in_25 : inI 25 := ⟨by decide, by decide⟩
theorem in_30 : inI 30 := ⟨by decide, by decide⟩
theorem in_32 : inI 32 := ⟨by decide, by decide⟩
theorem in_48 : inI 48 := ⟨by decide, by decide⟩
theorem in_57 : inI 57 := ⟨by decide, by decide⟩
theorem in_59 : inI 59 := ⟨by decide, by decide⟩
theorem in_60 : inI 60 := ⟨by decide, by decide⟩
theorem in_61 : inI 61 := ⟨by decide, by decide⟩
theorem in_62 : inI 62 := ⟨by decide, by decide⟩
theorem in_63 : inI 63 := ⟨by decide, by decide⟩
theorem in_64 : inI 64 := ⟨by decide, by decide⟩
theorem in_97 : inI 97 := ⟨by decide, by decide⟩
theorem in_98 : inI 98 := ⟨by decide, by decide⟩
theorem in_99 : inI 99 := ⟨by decide, by decide⟩
theorem in_100 : inI 100 := ⟨by decide, by decide⟩
theorem in_101 : inI 101 := ⟨by decide, by decide⟩
theorem in_102 : inI 102 := ⟨by decide, by decide⟩
theorem in_103 : inI 103 := ⟨by decide, by decide⟩
theorem in_104 : inI 104 := ⟨by decide, by decide⟩
theorem in_105 : inI 105 := ⟨by decide, by decide⟩
theorem in_107 : inI 107 := ⟨by decide, by decide⟩
theorem in_108 : inI 108 := ⟨by decide, by decide⟩
theorem in_109 : inI 109 := ⟨by decide, by decide⟩
theorem in_110 : inI 110 := ⟨by decide, by decide⟩
theorem in_111 : inI 111 := ⟨by decide, by decide⟩
theorem in_112 : inI 112 := ⟨by decide, by decide⟩
theorem in_114 : inI 114 := ⟨by decide, by decide⟩
theorem in_115 : inI 115 := ⟨by decide, by decide⟩
theorem in_116 : inI 116 := ⟨by decide, by decide⟩
theorem in_117 : inI 117 := ⟨by decide, by decide⟩
theorem in_118 : inI 118 := ⟨by decide, by decide⟩
theorem in_119 : inI 119 := ⟨by decide, by decide⟩
theorem in_121 : inI 121 := ⟨by decide, by decide⟩
theorem in_122 : inI 122 := ⟨by decide, by decide⟩
theorem in_125 : inI 125 := ⟨by decide, by decide⟩
theorem in_127 : inI 127 := ⟨by decide, by decide⟩
theorem in_255 : inI 255 := ⟨by decide, by decide⟩
theorem in_300 : inI 300 := ⟨by decide, by decide⟩
theorem in_580 : inI 580 := ⟨by decide, by decide⟩
theorem in_600 : inI 600 := ⟨by decide, by decide⟩
theorem in_635 : inI 635 := ⟨by decide, by decide⟩
theorem in_636 : inI 636 := ⟨by decide, by decide⟩
theorem in_637 : inI 637 := ⟨by decide, by decide⟩
theorem in_860 : inI 860 := ⟨by decide, by decide⟩
theorem in_4000 : inI 4000 := ⟨by decide, by decide⟩
theorem in_200000 : inI 200000 := ⟨by decide, by decide⟩
theorem in_1000000 : inI 1000000 := ⟨by decide, by decide⟩
theorem in_252645135 : inI 252645135 := ⟨by decide, by decide⟩
theorem in_858993459 : inI 858993459 := ⟨by decide, by decide⟩
theorem in_1431655765 : inI 1431655765 := ⟨by decide, by decide⟩
theorem inJ_m20 : inJ (-20) := ⟨by decide, by decide⟩
theorem inJ_m1 : inJ (-1) := ⟨by decide, by decide⟩
theorem inJ_0 : inJ 0 := ⟨by decide, by decide⟩
theorem inJ_1 : inJ 1 := ⟨by decide, by decide⟩
theorem inJ_2 : inJ 2 := ⟨by decide, by decide⟩
theorem inJ_3 : inJ 3 := ⟨by decide, by decide⟩
theorem inJ_5 : inJ 5 := ⟨by decide, by decide⟩
theorem inJ_9 : inJ 9 := ⟨by decide, by decide⟩
theorem inJ_20 : inJ 20 := ⟨by decide, by decide⟩
theorem inJ_32 : inJ 32 := ⟨by decide, by decide⟩
theorem inJ_96 : inJ 96 := ⟨by decide, by decide⟩
theorem bp_m20 : (Int8.ofInt (-20)).toInt32 = Int32.ofInt (-20) := by decide
theorem bp_6 : (Int8.ofInt 6).toInt32 = Int32.ofInt 6 := by decide
theorem bp_7 : (Int8.ofInt 7).toInt32 = Int32.ofInt 7 := by decide
theorem bp_8 : (Int8.ofInt 8).toInt32 = Int32.ofInt 8 := by decide
theorem bp_9 : (Int8.ofInt 9).toInt32 = Int32.ofInt 9 := by decide
theorem bp_10 : (Int8.ofInt 10).toInt32 = Int32.ofInt 10 := by decide
theorem bp_11 : (Int8.ofInt 11).toInt32 = Int32.ofInt 11 := by decide
theorem bp_16 : (Int8.ofInt 16).toInt32 = Int32.ofInt 16 := by decide
theorem bp_20 : (Int8.ofInt 20).toInt32 = Int32.ofInt 20 := by decide
theorem bp_24 : (Int8.ofInt 24).toInt32 = Int32.ofInt 24 := by decide
theorem bp_25 : (Int8.ofInt 25).toInt32 = Int32.ofInt 25 := by decide
theorem bp_30 : (Int8.ofInt 30).toInt32 = Int32.ofInt 30 := by decide
theorem bp_32 : (Int8.ofInt 32).toInt32 = Int32.ofInt 32 := by decide
theorem bp_48 : (Int8.ofInt 48).toInt32 = Int32.ofInt 48 := by decide
theorem bp_57 : (Int8.ofInt 57).toInt32 = Int32.ofInt 57 := by decide
theorem bp_59 : (Int8.ofInt 59).toInt32 = Int32.ofInt 59 := by decide
theorem bp_60 : (Int8.ofInt 60).toInt32 = Int32.ofInt 60 := by decide
theorem bp_61 : (Int8.ofInt 61).toInt32 = Int32.ofInt 61 := by decide
theorem bp_62 : (Int8.ofInt 62).toInt32 = Int32.ofInt 62 := by decide
theorem bp_63 : (Int8.ofInt 63).toInt32 = Int32.ofInt 63 := by decide
theorem bp_64 : (Int8.ofInt 64).toInt32 = Int32.ofInt 64 := by decide
theorem bp_97 : (Int8.ofInt 97).toInt32 = Int32.ofInt 97 := by decide
theorem bp_98 : (Int8.ofInt 98).toInt32 = Int32.ofInt 98 := by decide
theorem bp_99 : (Int8.ofInt 99).toInt32 = Int32.ofInt 99 := by decide
theorem bp_100 : (Int8.ofInt 100).toInt32 = Int32.ofInt 100 := by decide
theorem bp_101 : (Int8.ofInt 101).toInt32 = Int32.ofInt 101 := by decide
theorem bp_102 : (Int8.ofInt 102).toInt32 = Int32.ofInt 102 := by decide
theorem bp_103 : (Int8.ofInt 103).toInt32 = Int32.ofInt 103 := by decide
theorem bp_104 : (Int8.ofInt 104).toInt32 = Int32.ofInt 104 := by decide
theorem bp_105 : (Int8.ofInt 105).toInt32 = Int32.ofInt 105 := by decide
theorem bp_107 : (Int8.ofInt 107).toInt32 = Int32.ofInt 107 := by decide
theorem bp_108 : (Int8.ofInt 108).toInt32 = Int32.ofInt 108 := by decide
theorem bp_109 : (Int8.ofInt 109).toInt32 = Int32.ofInt 109 := by decide
theorem bp_110 : (Int8.ofInt 110).toInt32 = Int32.ofInt 110 := by decide
theorem bp_111 : (Int8.ofInt 111).toInt32 = Int32.ofInt 111 := by decide
theorem bp_112 : (Int8.ofInt 112).toInt32 = Int32.ofInt 112 := by decide
theorem bp_114 : (Int8.ofInt 114).toInt32 = Int32.ofInt 114 := by decide
theorem bp_115 : (Int8.ofInt 115).toInt32 = Int32.ofInt 115 := by decide
theorem bp_116 : (Int8.ofInt 116).toInt32 = Int32.ofInt 116 := by decide
theorem bp_117 : (Int8.ofInt 117).toInt32 = Int32.ofInt 117 := by decide
theorem bp_118 : (Int8.ofInt 118).toInt32 = Int32.ofInt 118 := by decide
theorem bp_119 : (Int8.ofInt 119).toInt32 = Int32.ofInt 119 := by decide
theorem bp_121 : (Int8.ofInt 121).toInt32 = Int32.ofInt 121 := by decide
theorem bp_122 : (Int8.ofInt 122).toInt32 = Int32.ofInt 122 := by decide
theorem bp_125 : (Int8.ofInt 125).toInt32 = Int32.ofInt 125 := by decide
theorem bp_127 : (Int8.ofInt 127).toInt32 = Int32.ofInt 127 := by decide
theorem sp_255 : (Int16.ofInt 255).toInt32 = Int32.ofInt 255 := by decide
theorem sp_300 : (Int16.ofInt 300).toInt32 = Int32.ofInt 300 := by decide
theorem sp_580 : (Int16.ofInt 580).toInt32 = Int32.ofInt 580 := by decide
theorem sp_600 : (Int16.ofInt 600).toInt32 = Int32.ofInt 600 := by decide
theorem sp_635 : (Int16.ofInt 635).toInt32 = Int32.ofInt 635 := by decide
theorem sp_636 : (Int16.ofInt 636).toInt32 = Int32.ofInt 636 := by decide
theorem sp_637 : (Int16.ofInt 637).toInt32 = Int32.ofInt 637 := by decide
theorem sp_860 : (Int16.ofInt 860).toInt32 = Int32.ofInt 860 := by decide
theorem sp_4000 : (Int16.ofInt 4000).toInt32 = Int32.ofInt 4000 := by decide
theorem kd_0 : kd 0 = (11, 20) := by decide +kernel
theorem ob_0 : obok 11 0 := ⟨by decide, by rw [kd_0]⟩
theorem kd_1 : kd 1 = (101, 240) := by decide +kernel
theorem kd_2 : kd 2 = (100, 4) := by decide +kernel
theorem kd_3 : kd 3 = (100, 4) := by decide +kernel
theorem kd_4 : kd 4 = (100, 25) := by decide +kernel
theorem kd_5 : kd 5 = (100, 5) := by decide +kernel
theorem kd_6 : kd 6 = (1, 3) := by decide +kernel
theorem ob_6 : obok 1 6 := ⟨by decide, by rw [kd_6]⟩
theorem kd_7 : kd 7 = (10, 4) := by decide +kernel
theorem ob_7 : obok 10 7 := ⟨by decide, by rw [kd_7]⟩
theorem kd_8 : kd 8 = (100, 125) := by decide +kernel
theorem kd_9 : kd 9 = (105, 4) := by decide +kernel
theorem kd_10 : kd 10 = (6, 6) := by decide +kernel
theorem ob_10 : obok 6 10 := ⟨by decide, by rw [kd_10]⟩
theorem kd_11 : kd 11 = (100, 360) := by decide +kernel
theorem kd_12 : kd 12 = (100, 3) := by decide +kernel
theorem kd_13 : kd 13 = (10, 4) := by decide +kernel
theorem ob_13 : obok 10 13 := ⟨by decide, by rw [kd_13]⟩
theorem kd_14 : kd 14 = (100, 125) := by decide +kernel
theorem kd_15 : kd 15 = (10, 4) := by decide +kernel
theorem ob_15 : obok 10 15 := ⟨by decide, by rw [kd_15]⟩
theorem kd_16 : kd 16 = (100, 125) := by decide +kernel
theorem kd_17 : kd 17 = (10, 4) := by decide +kernel
theorem ob_17 : obok 10 17 := ⟨by decide, by rw [kd_17]⟩
theorem kd_18 : kd 18 = (100, 125) := by decide +kernel
theorem kd_19 : kd 19 = (10, 4) := by decide +kernel
theorem ob_19 : obok 10 19 := ⟨by decide, by rw [kd_19]⟩
theorem kd_20 : kd 20 = (100, 125) := by decide +kernel
theorem kd_21 : kd 21 = (104, 3) := by decide +kernel
theorem kd_22 : kd 22 = (8, 9) := by decide +kernel
theorem ob_22 : obok 8 22 := ⟨by decide, by rw [kd_22]⟩
theorem kd_23 : kd 23 = (102, 600) := by decide +kernel
theorem kd_24 : kd 24 = (1, 3) := by decide +kernel
theorem ob_24 : obok 1 24 := ⟨by decide, by rw [kd_24]⟩
theorem kd_25 : kd 25 = (10, 4) := by decide +kernel
theorem ob_25 : obok 10 25 := ⟨by decide, by rw [kd_25]⟩
theorem kd_26 : kd 26 = (100, 125) := by decide +kernel
theorem kd_27 : kd 27 = (105, 4) := by decide +kernel
theorem kd_28 : kd 28 = (6, 6) := by decide +kernel
theorem ob_28 : obok 6 28 := ⟨by decide, by rw [kd_28]⟩
theorem kd_29 : kd 29 = (100, 360) := by decide +kernel
theorem kd_30 : kd 30 = (100, 3) := by decide +kernel
theorem kd_31 : kd 31 = (10, 4) := by decide +kernel
theorem ob_31 : obok 10 31 := ⟨by decide, by rw [kd_31]⟩
theorem kd_32 : kd 32 = (100, 125) := by decide +kernel
theorem kd_33 : kd 33 = (10, 4) := by decide +kernel
theorem ob_33 : obok 10 33 := ⟨by decide, by rw [kd_33]⟩
theorem kd_34 : kd 34 = (100, 125) := by decide +kernel
theorem kd_35 : kd 35 = (10, 4) := by decide +kernel
theorem ob_35 : obok 10 35 := ⟨by decide, by rw [kd_35]⟩
theorem kd_36 : kd 36 = (100, 125) := by decide +kernel
theorem kd_37 : kd 37 = (10, 4) := by decide +kernel
theorem ob_37 : obok 10 37 := ⟨by decide, by rw [kd_37]⟩
theorem kd_38 : kd 38 = (100, 125) := by decide +kernel
theorem kd_39 : kd 39 = (2, 7) := by decide +kernel
theorem ob_39 : obok 2 39 := ⟨by decide, by rw [kd_39]⟩
theorem kd_40 : kd 40 = (100, 25) := by decide +kernel
theorem kd_41 : kd 41 = (100, 5) := by decide +kernel
theorem kd_42 : kd 42 = (0, 9) := by decide +kernel
theorem ob_42 : obok 0 42 := ⟨by decide, by rw [kd_42]⟩
theorem kd_43 : kd 43 = (2, 7) := by decide +kernel
theorem ob_43 : obok 2 43 := ⟨by decide, by rw [kd_43]⟩
theorem kd_44 : kd 44 = (100, 25) := by decide +kernel
theorem kd_45 : kd 45 = (100, 5) := by decide +kernel
theorem kd_46 : kd 46 = (2, 7) := by decide +kernel
theorem ob_46 : obok 2 46 := ⟨by decide, by rw [kd_46]⟩
theorem kd_47 : kd 47 = (100, 25) := by decide +kernel
theorem kd_48 : kd 48 = (100, 5) := by decide +kernel
theorem kd_49 : kd 49 = (2, 7) := by decide +kernel
theorem ob_49 : obok 2 49 := ⟨by decide, by rw [kd_49]⟩
theorem kd_50 : kd 50 = (100, 25) := by decide +kernel
theorem kd_51 : kd 51 = (100, 5) := by decide +kernel
theorem kd_52 : kd 52 = (2, 7) := by decide +kernel
theorem ob_52 : obok 2 52 := ⟨by decide, by rw [kd_52]⟩
theorem kd_53 : kd 53 = (100, 25) := by decide +kernel
theorem kd_54 : kd 54 = (100, 5) := by decide +kernel
theorem kd_55 : kd 55 = (2, 7) := by decide +kernel
theorem ob_55 : obok 2 55 := ⟨by decide, by rw [kd_55]⟩
theorem kd_56 : kd 56 = (100, 25) := by decide +kernel
theorem kd_57 : kd 57 = (100, 5) := by decide +kernel
theorem kd_58 : kd 58 = (2, 7) := by decide +kernel
theorem ob_58 : obok 2 58 := ⟨by decide, by rw [kd_58]⟩
theorem kd_59 : kd 59 = (100, 25) := by decide +kernel
theorem kd_60 : kd 60 = (100, 5) := by decide +kernel
theorem kd_61 : kd 61 = (7, 7) := by decide +kernel
theorem ob_61 : obok 7 61 := ⟨by decide, by rw [kd_61]⟩
theorem kd_62 : kd 62 = (2, 7) := by decide +kernel
theorem ob_62 : obok 2 62 := ⟨by decide, by rw [kd_62]⟩
theorem kd_63 : kd 63 = (100, 25) := by decide +kernel
theorem kd_64 : kd 64 = (100, 5) := by decide +kernel
theorem kd_65 : kd 65 = (100, 25) := by decide +kernel
theorem kd_66 : kd 66 = (100, 5) := by decide +kernel
theorem kd_67 : kd 67 = (100, 25) := by decide +kernel
theorem kd_68 : kd 68 = (4, 7) := by decide +kernel
theorem ob_68 : obok 4 68 := ⟨by decide, by rw [kd_68]⟩
theorem kd_69 : kd 69 = (2, 7) := by decide +kernel
theorem ob_69 : obok 2 69 := ⟨by decide, by rw [kd_69]⟩
theorem kd_70 : kd 70 = (100, 625) := by decide +kernel
theorem kd_71 : kd 71 = (100, 25) := by decide +kernel
theorem kd_72 : kd 72 = (100, 25) := by decide +kernel
theorem kd_73 : kd 73 = (100, 25) := by decide +kernel
theorem kd_74 : kd 74 = (100, 25) := by decide +kernel
theorem kd_75 : kd 75 = (100, 25) := by decide +kernel
theorem kd_76 : kd 76 = (100, 5) := by decide +kernel
theorem kd_77 : kd 77 = (100, 32) := by decide +kernel
theorem kd_78 : kd 78 = (3, 11) := by decide +kernel
theorem ob_78 : obok 3 78 := ⟨by decide, by rw [kd_78]⟩
theorem kd_79 : kd 79 = (100, 25) := by decide +kernel
theorem kd_80 : kd 80 = (100, 125) := by decide +kernel
theorem kd_81 : kd 81 = (100, 25) := by decide +kernel
theorem kd_82 : kd 82 = (100, 5) := by decide +kernel
theorem kd_83 : kd 83 = (106, 5) := by decide +kernel
theorem kd_84 : kd 84 = (10, 4) := by decide +kernel
theorem ob_84 : obok 10 84 := ⟨by decide, by rw [kd_84]⟩
theorem kd_85 : kd 85 = (100, 125) := by decide +kernel
theorem kd_86 : kd 86 = (10, 4) := by decide +kernel
theorem ob_86 : obok 10 86 := ⟨by decide, by rw [kd_86]⟩
theorem kd_87 : kd 87 = (100, 125) := by decide +kernel
theorem kd_88 : kd 88 = (100, 512) := by decide +kernel
theorem kd_89 : kd 89 = (2, 7) := by decide +kernel
theorem ob_89 : obok 2 89 := ⟨by decide, by rw [kd_89]⟩
theorem kd_90 : kd 90 = (100, 25) := by decide +kernel
theorem kd_91 : kd 91 = (100, 5) := by decide +kernel
theorem kd_92 : kd 92 = (2, 7) := by decide +kernel
theorem ob_92 : obok 2 92 := ⟨by decide, by rw [kd_92]⟩
theorem kd_93 : kd 93 = (100, 25) := by decide +kernel
theorem kd_94 : kd 94 = (100, 5) := by decide +kernel
theorem kd_95 : kd 95 = (2, 7) := by decide +kernel
theorem ob_95 : obok 2 95 := ⟨by decide, by rw [kd_95]⟩
theorem kd_96 : kd 96 = (100, 25) := by decide +kernel
theorem kd_97 : kd 97 = (100, 5) := by decide +kernel
theorem kd_98 : kd 98 = (2, 7) := by decide +kernel
theorem ob_98 : obok 2 98 := ⟨by decide, by rw [kd_98]⟩
theorem kd_99 : kd 99 = (100, 25) := by decide +kernel
theorem kd_100 : kd 100 = (100, 5) := by decide +kernel
theorem kd_101 : kd 101 = (2, 7) := by decide +kernel
theorem ob_101 : obok 2 101 := ⟨by decide, by rw [kd_101]⟩
theorem kd_102 : kd 102 = (100, 25) := by decide +kernel
theorem kd_103 : kd 103 = (100, 5) := by decide +kernel
theorem kd_104 : kd 104 = (9, 6) := by decide +kernel
theorem ob_104 : obok 9 104 := ⟨by decide, by rw [kd_104]⟩
theorem kd_105 : kd 105 = (10, 4) := by decide +kernel
theorem ob_105 : obok 10 105 := ⟨by decide, by rw [kd_105]⟩
theorem kd_106 : kd 106 = (100, 125) := by decide +kernel
theorem kd_107 : kd 107 = (2, 7) := by decide +kernel
theorem ob_107 : obok 2 107 := ⟨by decide, by rw [kd_107]⟩
theorem kd_108 : kd 108 = (100, 625) := by decide +kernel
theorem kd_109 : kd 109 = (100, 25) := by decide +kernel
theorem kd_110 : kd 110 = (100, 25) := by decide +kernel
theorem kd_111 : kd 111 = (100, 10) := by decide +kernel
theorem kd_112 : kd 112 = (100, 5) := by decide +kernel
theorem kd_113 : kd 113 = (100, 5) := by decide +kernel
theorem kd_114 : kd 114 = (5, 5) := by decide +kernel
theorem ob_114 : obok 5 114 := ⟨by decide, by rw [kd_114]⟩
theorem kd_115 : kd 115 = (100, 60) := by decide +kernel
theorem kd_116 : kd 116 = (1, 3) := by decide +kernel
theorem ob_116 : obok 1 116 := ⟨by decide, by rw [kd_116]⟩
theorem kd_117 : kd 117 = (10, 4) := by decide +kernel
theorem ob_117 : obok 10 117 := ⟨by decide, by rw [kd_117]⟩
theorem kd_118 : kd 118 = (100, 125) := by decide +kernel
theorem kd_119 : kd 119 = (105, 4) := by decide +kernel
theorem kd_120 : kd 120 = (6, 6) := by decide +kernel
theorem ob_120 : obok 6 120 := ⟨by decide, by rw [kd_120]⟩
theorem kd_121 : kd 121 = (100, 360) := by decide +kernel
theorem kd_122 : kd 122 = (100, 3) := by decide +kernel
theorem kd_123 : kd 123 = (10, 4) := by decide +kernel
theorem ob_123 : obok 10 123 := ⟨by decide, by rw [kd_123]⟩
theorem kd_124 : kd 124 = (100, 125) := by decide +kernel
theorem kd_125 : kd 125 = (10, 4) := by decide +kernel
theorem ob_125 : obok 10 125 := ⟨by decide, by rw [kd_125]⟩
theorem kd_126 : kd 126 = (100, 125) := by decide +kernel
theorem kd_127 : kd 127 = (10, 4) := by decide +kernel
theorem ob_127 : obok 10 127 := ⟨by decide, by rw [kd_127]⟩
theorem kd_128 : kd 128 = (100, 125) := by decide +kernel
theorem kd_129 : kd 129 = (10, 4) := by decide +kernel
theorem ob_129 : obok 10 129 := ⟨by decide, by rw [kd_129]⟩
theorem kd_130 : kd 130 = (100, 125) := by decide +kernel
theorem kd_131 : kd 131 = (1, 3) := by decide +kernel
theorem ob_131 : obok 1 131 := ⟨by decide, by rw [kd_131]⟩
theorem kd_132 : kd 132 = (10, 4) := by decide +kernel
theorem ob_132 : obok 10 132 := ⟨by decide, by rw [kd_132]⟩
theorem kd_133 : kd 133 = (100, 125) := by decide +kernel
theorem kd_134 : kd 134 = (105, 4) := by decide +kernel
theorem kd_135 : kd 135 = (6, 6) := by decide +kernel
theorem ob_135 : obok 6 135 := ⟨by decide, by rw [kd_135]⟩
theorem kd_136 : kd 136 = (100, 360) := by decide +kernel
theorem kd_137 : kd 137 = (100, 3) := by decide +kernel
theorem kd_138 : kd 138 = (10, 4) := by decide +kernel
theorem ob_138 : obok 10 138 := ⟨by decide, by rw [kd_138]⟩
theorem kd_139 : kd 139 = (100, 125) := by decide +kernel
theorem kd_140 : kd 140 = (10, 4) := by decide +kernel
theorem ob_140 : obok 10 140 := ⟨by decide, by rw [kd_140]⟩
theorem kd_141 : kd 141 = (100, 125) := by decide +kernel
theorem kd_142 : kd 142 = (10, 4) := by decide +kernel
theorem ob_142 : obok 10 142 := ⟨by decide, by rw [kd_142]⟩
theorem kd_143 : kd 143 = (100, 125) := by decide +kernel
theorem kd_144 : kd 144 = (10, 4) := by decide +kernel
theorem ob_144 : obok 10 144 := ⟨by decide, by rw [kd_144]⟩
theorem kd_145 : kd 145 = (100, 125) := by decide +kernel
theorem kd_146 : kd 146 = (1, 3) := by decide +kernel
theorem ob_146 : obok 1 146 := ⟨by decide, by rw [kd_146]⟩
theorem kd_147 : kd 147 = (10, 4) := by decide +kernel
theorem ob_147 : obok 10 147 := ⟨by decide, by rw [kd_147]⟩
theorem kd_148 : kd 148 = (100, 125) := by decide +kernel
theorem kd_149 : kd 149 = (105, 4) := by decide +kernel
theorem kd_150 : kd 150 = (6, 6) := by decide +kernel
theorem ob_150 : obok 6 150 := ⟨by decide, by rw [kd_150]⟩
theorem kd_151 : kd 151 = (100, 360) := by decide +kernel
theorem kd_152 : kd 152 = (100, 3) := by decide +kernel
theorem kd_153 : kd 153 = (10, 4) := by decide +kernel
theorem ob_153 : obok 10 153 := ⟨by decide, by rw [kd_153]⟩
theorem kd_154 : kd 154 = (100, 125) := by decide +kernel
theorem kd_155 : kd 155 = (10, 4) := by decide +kernel
theorem ob_155 : obok 10 155 := ⟨by decide, by rw [kd_155]⟩
theorem kd_156 : kd 156 = (100, 125) := by decide +kernel
theorem kd_157 : kd 157 = (10, 4) := by decide +kernel
theorem ob_157 : obok 10 157 := ⟨by decide, by rw [kd_157]⟩
theorem kd_158 : kd 158 = (100, 125) := by decide +kernel
theorem kd_159 : kd 159 = (10, 4) := by decide +kernel
theorem ob_159 : obok 10 159 := ⟨by decide, by rw [kd_159]⟩
theorem kd_160 : kd 160 = (100, 125) := by decide +kernel
theorem kd_161 : kd 161 = (12, 71) := by decide +kernel
theorem ob_161 : obok 12 161 := ⟨by decide, by rw [kd_161]⟩
theorem kd_162 : kd 162 = (100, 4) := by decide +kernel
theorem kd_163 : kd 163 = (100, 4) := by decide +kernel
theorem kd_164 : kd 164 = (101, 240) := by decide +kernel
theorem kd_165 : kd 165 = (102, 600) := by decide +kernel
theorem kd_166 : kd 166 = (100, 3440) := by decide +kernel
theorem kd_167 : kd 167 = (100, 127) := by decide +kernel
theorem kd_168 : kd 168 = (100, 127) := by decide +kernel
theorem kd_169 : kd 169 = (100, 300) := by decide +kernel
theorem kd_170 : kd 170 = (100, 25) := by decide +kernel
theorem kd_171 : kd 171 = (100, 25) := by decide +kernel
theorem kd_172 : kd 172 = (100, 25) := by decide +kernel
theorem kd_173 : kd 173 = (100, 25) := by decide +kernel
theorem kd_174 : kd 174 = (100, 25) := by decide +kernel
theorem kd_175 : kd 175 = (100, 5) := by decide +kernel
theorem kd_176 : kd 176 = (100, 5) := by decide +kernel
theorem kd_177 : kd 177 = (100, 5) := by decide +kernel
theorem kd_178 : kd 178 = (100, 5) := by decide +kernel
theorem kd_179 : kd 179 = (100, 1800) := by decide +kernel
theorem kd_180 : kd 180 = (100, 30) := by decide +kernel
theorem kd_181 : kd 181 = (100, 25) := by decide +kernel
theorem kd_182 : kd 182 = (100, 125) := by decide +kernel
theorem kd_183 : kd 183 = (100, 6) := by decide +kernel
theorem kd_184 : kd 184 = (100, 2) := by decide +kernel
theorem kd_185 : kd 185 = (100, 5) := by decide +kernel
theorem kd_186 : kd 186 = (100, 5) := by decide +kernel
theorem kd_187 : kd 187 = (100, 5) := by decide +kernel
theorem kd_188 : kd 188 = (100, 25) := by decide +kernel
theorem kd_189 : kd 189 = (100, 25) := by decide +kernel
theorem kd_190 : kd 190 = (100, 25) := by decide +kernel
theorem kd_191 : kd 191 = (100, 25) := by decide +kernel
theorem kd_192 : kd 192 = (100, 25) := by decide +kernel
theorem kd_193 : kd 193 = (100, 25) := by decide +kernel
theorem kd_194 : kd 194 = (100, 25) := by decide +kernel
theorem kd_195 : kd 195 = (103, 512) := by decide +kernel
theorem kd_196 : kd 196 = (100, 127) := by decide +kernel
theorem kd_m2 : kd (-2) = (100, 25) := by decide
theorem fw_X_7 : FW "BracketRoom" 7 11 2 := ⟨_, _, _, rfl, by decide, rfl, tk2 167 rfl rfl⟩
theorem fp_X_7 : FP "BracketRoom" 7 11 2 := ⟨_, _, _, rfl, by decide, rfl, tk2 167 rfl rfl, rfl⟩
theorem fw_X_13 : FW "BracketRoom" 13 11 3 := ⟨_, _, _, rfl, by decide, rfl, tk2 168 rfl rfl⟩
theorem fp_X_13 : FP "BracketRoom" 13 11 3 := ⟨_, _, _, rfl, by decide, rfl, tk2 168 rfl rfl, rfl⟩
theorem fw_X_17 : FW "BracketRoom" 17 11 5 := ⟨_, _, _, rfl, by decide, rfl, tk2 170 rfl rfl⟩
theorem fw_X_21 : FW "BracketRoom" 21 11 6 := ⟨_, _, _, rfl, by decide, rfl, tk2 171 rfl rfl⟩
theorem fw_X_25 : FW "BracketRoom" 25 11 7 := ⟨_, _, _, rfl, by decide, rfl, tk2 172 rfl rfl⟩
theorem fw_X_28 : FW "BracketRoom" 28 11 8 := ⟨_, _, _, rfl, by decide, rfl, tk2 173 rfl rfl⟩
theorem fw_X_31 : FW "BracketRoom" 31 11 9 := ⟨_, _, _, rfl, by decide, rfl, tk2 174 rfl rfl⟩
theorem fw_X_37 : FW "BracketRoom" 37 11 10 := ⟨_, _, _, rfl, by decide, rfl, tk2 175 rfl rfl⟩
theorem fw_X_41 : FW "BracketRoom" 41 11 11 := ⟨_, _, _, rfl, by decide, rfl, tk2 176 rfl rfl⟩
theorem fw_X_48 : FW "BracketRoom" 48 11 12 := ⟨_, _, _, rfl, by decide, rfl, tk2 177 rfl rfl⟩
theorem fw_X_52 : FW "BracketRoom" 52 11 13 := ⟨_, _, _, rfl, by decide, rfl, tk2 178 rfl rfl⟩
theorem fw_X_60 : FW "BracketRoom" 60 11 14 := ⟨_, _, _, rfl, by decide, rfl, tk2 179 rfl rfl⟩
theorem fw_X_67 : FW "BracketRoom" 67 11 15 := ⟨_, _, _, rfl, by decide, rfl, tk2 180 rfl rfl⟩
theorem fw_X_74 : FW "BracketRoom" 74 11 16 := ⟨_, _, _, rfl, by decide, rfl, tk2 181 rfl rfl⟩
theorem fw_X_81 : FW "BracketRoom" 81 11 17 := ⟨_, _, _, rfl, by decide, rfl, tk2 182 rfl rfl⟩
theorem fw_X_88 : FW "BracketRoom" 88 11 18 := ⟨_, _, _, rfl, by decide, rfl, tk2 183 rfl rfl⟩
theorem fw_X_95 : FW "BracketRoom" 95 11 19 := ⟨_, _, _, rfl, by decide, rfl, tk2 184 rfl rfl⟩
theorem fw_X_105 : FW "BracketRoom" 105 11 0 := ⟨_, _, _, rfl, by decide, rfl, tk2 165 rfl rfl⟩
theorem fp_X_105 : FP "BracketRoom" 105 11 0 := ⟨_, _, _, rfl, by decide, rfl, tk2 165 rfl rfl, rfl⟩
theorem fw_X_108 : FW "BracketRoom" 108 11 1 := ⟨_, _, _, rfl, by decide, rfl, tk2 166 rfl rfl⟩
theorem fp_X_108 : FP "BracketRoom" 108 11 1 := ⟨_, _, _, rfl, by decide, rfl, tk2 166 rfl rfl, rfl⟩
theorem fw_X_147 : FW "BracketRoom" 147 8 0 := ⟨_, _, _, rfl, by decide, rfl, tk1 125 rfl rfl⟩
theorem fp_X_147 : FP "BracketRoom" 147 8 0 := ⟨_, _, _, rfl, by decide, rfl, tk1 125 rfl rfl, rfl⟩
theorem fw_X_156 : FW "BracketRoom" 156 1 0 := ⟨_, _, _, rfl, by decide, rfl, tk1 103 rfl rfl⟩
theorem fw_X_170 : FW "BracketRoom" 170 10 2 := ⟨_, _, _, rfl, by decide, rfl, tk1 58 rfl rfl⟩
theorem fw_X_176 : FW "BracketRoom" 176 1 2 := ⟨_, _, _, rfl, by decide, rfl, tk1 109 rfl rfl⟩
theorem fw_X_186 : FW "BracketRoom" 186 6 1 := ⟨_, _, _, rfl, by decide, rfl, tk1 82 rfl rfl⟩
theorem fw_X_189 : FW "BracketRoom" 189 8 2 := ⟨_, _, _, rfl, by decide, rfl, tk1 130 rfl rfl⟩
theorem fw_X_192 : FW "BracketRoom" 192 8 3 := ⟨_, _, _, rfl, by decide, rfl, tk1 132 rfl rfl⟩
theorem fw_X_195 : FW "BracketRoom" 195 10 1 := ⟨_, _, _, rfl, by decide, rfl, tk1 50 rfl rfl⟩
theorem fw_X_241 : FW "BracketRoom" 241 1 1 := ⟨_, _, _, rfl, by decide, rfl, tk1 106 rfl rfl⟩
theorem fw_X_255 : FW "BracketRoom" 255 2 5 := ⟨_, _, _, rfl, by decide, rfl, tk1 183 rfl rfl⟩
theorem fw_X_311 : FW "BracketRoom" 311 3 0 := ⟨_, _, _, rfl, by decide, rfl, tk2 71 rfl rfl⟩
theorem fw_X_314 : FW "BracketRoom" 314 3 2 := ⟨_, _, _, rfl, by decide, rfl, tk2 75 rfl rfl⟩
theorem fw_X_318 : FW "BracketRoom" 318 3 1 := ⟨_, _, _, rfl, by decide, rfl, tk2 73 rfl rfl⟩
theorem fw_X_373 : FW "BracketRoom" 373 6 0 := ⟨_, _, _, rfl, by decide, rfl, tk1 80 rfl rfl⟩
theorem fw_X_380 : FW "BracketRoom" 380 5 1 := ⟨_, _, _, rfl, by decide, rfl, tk2 145 rfl rfl⟩
theorem fw_X_381 : FW "BracketRoom" 381 5 0 := ⟨_, _, _, rfl, by decide, rfl, tk2 143 rfl rfl⟩
theorem fw_X_384 : FW "BracketRoom" 384 5 2 := ⟨_, _, _, rfl, by decide, rfl, tk2 147 rfl rfl⟩
theorem fw_X_387 : FW "BracketRoom" 387 5 3 := ⟨_, _, _, rfl, by decide, rfl, tk2 149 rfl rfl⟩
theorem fw_X_390 : FW "BracketRoom" 390 11 4 := ⟨_, _, _, rfl, by decide, rfl, tk2 169 rfl rfl⟩
theorem fp_X_390 : FP "BracketRoom" 390 11 4 := ⟨_, _, _, rfl, by decide, rfl, tk2 169 rfl rfl, rfl⟩
theorem fw_X_399 : FW "BracketRoom" 399 10 3 := ⟨_, _, _, rfl, by decide, rfl, tk1 60 rfl rfl⟩
theorem fw_An_14 : FW "BracketRoom$Anatomy" 14 0 0 := ⟨_, _, _, rfl, by decide, rfl, tk2 1 rfl rfl⟩
theorem fw_An_20 : FW "BracketRoom$Anatomy" 20 0 1 := ⟨_, _, _, rfl, by decide, rfl, tk2 2 rfl rfl⟩
theorem fw_An_23 : FW "BracketRoom$Anatomy" 23 0 2 := ⟨_, _, _, rfl, by decide, rfl, tk2 3 rfl rfl⟩
theorem fw_An_26 : FW "BracketRoom$Anatomy" 26 0 3 := ⟨_, _, _, rfl, by decide, rfl, tk2 4 rfl rfl⟩
theorem fw_An_29 : FW "BracketRoom$Anatomy" 29 0 4 := ⟨_, _, _, rfl, by decide, rfl, tk2 5 rfl rfl⟩
theorem fw_An_32 : FW "BracketRoom$Anatomy" 32 0 5 := ⟨_, _, _, rfl, by decide, rfl, tk2 6 rfl rfl⟩
theorem fw_An_38 : FW "BracketRoom$Anatomy" 38 0 6 := ⟨_, _, _, rfl, by decide, rfl, tk2 7 rfl rfl⟩
theorem fw_An_42 : FW "BracketRoom$Anatomy" 42 0 7 := ⟨_, _, _, rfl, by decide, rfl, tk2 8 rfl rfl⟩
theorem fw_An_46 : FW "BracketRoom$Anatomy" 46 0 8 := ⟨_, _, _, rfl, by decide, rfl, tk2 9 rfl rfl⟩
theorem fw_An_53 : FW "BracketRoom$Anatomy" 53 2 5 := ⟨_, _, _, rfl, by decide, rfl, tk1 179 rfl rfl⟩
theorem fw_An_57 : FW "BracketRoom$Anatomy" 57 10 1 := ⟨_, _, _, rfl, by decide, rfl, tk1 48 rfl rfl⟩
theorem fw_An_62 : FW "BracketRoom$Anatomy" 62 10 2 := ⟨_, _, _, rfl, by decide, rfl, tk1 55 rfl rfl⟩
theorem fw_An_73 : FW "BracketRoom$Anatomy" 73 2 1 := ⟨_, _, _, rfl, by decide, rfl, tk1 173 rfl rfl⟩
theorem fw_An_138 : FW "BracketRoom$Anatomy" 138 7 0 := ⟨_, _, _, rfl, by decide, rfl, tk1 219 rfl rfl⟩
theorem fw_De_12 : FW "BracketRoom$Desk" 12 1 0 := ⟨_, _, _, rfl, by decide, rfl, tk1 101 rfl rfl⟩
theorem fw_De_18 : FW "BracketRoom$Desk" 18 1 1 := ⟨_, _, _, rfl, by decide, rfl, tk1 104 rfl rfl⟩
theorem fw_De_25 : FW "BracketRoom$Desk" 25 1 2 := ⟨_, _, _, rfl, by decide, rfl, tk1 107 rfl rfl⟩
theorem fw_De_36 : FW "BracketRoom$Desk" 36 10 3 := ⟨_, _, _, rfl, by decide, rfl, tk1 59 rfl rfl⟩
theorem fp_De_36 : FP "BracketRoom$Desk" 36 10 3 := ⟨_, _, _, rfl, by decide, rfl, tk1 59 rfl rfl, rfl⟩
theorem fw_Ec_9 : FW "BracketRoom$Echelon" 9 2 3 := ⟨_, _, _, rfl, by decide, rfl, tk1 177 rfl rfl⟩
theorem fp_Ec_9 : FP "BracketRoom$Echelon" 9 2 3 := ⟨_, _, _, rfl, by decide, rfl, tk1 177 rfl rfl, rfl⟩
theorem fw_Ec_24 : FW "BracketRoom$Echelon" 24 2 0 := ⟨_, _, _, rfl, by decide, rfl, tk1 170 rfl rfl⟩
theorem fw_Ec_27 : FW "BracketRoom$Echelon" 27 2 1 := ⟨_, _, _, rfl, by decide, rfl, tk1 172 rfl rfl⟩
theorem fw_Ec_31 : FW "BracketRoom$Echelon" 31 2 2 := ⟨_, _, _, rfl, by decide, rfl, tk1 176 rfl rfl⟩
theorem fw_Ec_34 : FW "BracketRoom$Echelon" 34 2 4 := ⟨_, _, _, rfl, by decide, rfl, tk1 178 rfl rfl⟩
theorem fp_Ec_34 : FP "BracketRoom$Echelon" 34 2 4 := ⟨_, _, _, rfl, by decide, rfl, tk1 178 rfl rfl, rfl⟩
theorem fw_Ec_37 : FW "BracketRoom$Echelon" 37 2 5 := ⟨_, _, _, rfl, by decide, rfl, tk1 180 rfl rfl⟩
theorem fp_Ec_37 : FP "BracketRoom$Echelon" 37 2 5 := ⟨_, _, _, rfl, by decide, rfl, tk1 180 rfl rfl, rfl⟩
theorem fw_Ec_40 : FW "BracketRoom$Echelon" 40 2 6 := ⟨_, _, _, rfl, by decide, rfl, tk1 184 rfl rfl⟩
theorem fp_Ec_40 : FP "BracketRoom$Echelon" 40 2 6 := ⟨_, _, _, rfl, by decide, rfl, tk1 184 rfl rfl, rfl⟩
theorem fw_Ma_9 : FW "BracketRoom$MapSearch" 9 3 3 := ⟨_, _, _, rfl, by decide, rfl, tk2 76 rfl rfl⟩
theorem fw_Ma_15 : FW "BracketRoom$MapSearch" 15 3 4 := ⟨_, _, _, rfl, by decide, rfl, tk2 77 rfl rfl⟩
theorem fw_Ma_18 : FW "BracketRoom$MapSearch" 18 3 5 := ⟨_, _, _, rfl, by decide, rfl, tk2 78 rfl rfl⟩
theorem fw_Ma_21 : FW "BracketRoom$MapSearch" 21 3 6 := ⟨_, _, _, rfl, by decide, rfl, tk2 79 rfl rfl⟩
theorem fw_Ma_26 : FW "BracketRoom$MapSearch" 26 3 7 := ⟨_, _, _, rfl, by decide, rfl, tk2 80 rfl rfl⟩
theorem fw_Ma_33 : FW "BracketRoom$MapSearch" 33 3 8 := ⟨_, _, _, rfl, by decide, rfl, tk2 81 rfl rfl⟩
theorem fw_Ma_37 : FW "BracketRoom$MapSearch" 37 3 9 := ⟨_, _, _, rfl, by decide, rfl, tk2 82 rfl rfl⟩
theorem fw_Ma_40 : FW "BracketRoom$MapSearch" 40 3 10 := ⟨_, _, _, rfl, by decide, rfl, tk2 83 rfl rfl⟩
theorem fw_Ma_46 : FW "BracketRoom$MapSearch" 46 3 0 := ⟨_, _, _, rfl, by decide, rfl, tk2 70 rfl rfl⟩
theorem fp_Ma_46 : FP "BracketRoom$MapSearch" 46 3 0 := ⟨_, _, _, rfl, by decide, rfl, tk2 70 rfl rfl, rfl⟩
theorem fw_Ma_50 : FW "BracketRoom$MapSearch" 50 3 1 := ⟨_, _, _, rfl, by decide, rfl, tk2 72 rfl rfl⟩
theorem fp_Ma_50 : FP "BracketRoom$MapSearch" 50 3 1 := ⟨_, _, _, rfl, by decide, rfl, tk2 72 rfl rfl, rfl⟩
theorem fp_Ma_53 : FP "BracketRoom$MapSearch" 53 3 2 := ⟨_, _, _, rfl, by decide, rfl, tk2 74 rfl rfl, rfl⟩
theorem fw_Ma_69 : FW "BracketRoom$MapSearch" 69 10 1 := ⟨_, _, _, rfl, by decide, rfl, tk1 49 rfl rfl⟩
theorem fw_Ma_72 : FW "BracketRoom$MapSearch" 72 10 2 := ⟨_, _, _, rfl, by decide, rfl, tk1 56 rfl rfl⟩
theorem fw_Ma_113 : FW "BracketRoom$MapSearch" 113 10 0 := ⟨_, _, _, rfl, by decide, rfl, tk1 43 rfl rfl⟩
theorem fw_Me_14 : FW "BracketRoom$Measures" 14 4 0 := ⟨_, _, _, rfl, by decide, rfl, tk2 37 rfl rfl⟩
theorem fw_Me_20 : FW "BracketRoom$Measures" 20 4 1 := ⟨_, _, _, rfl, by decide, rfl, tk2 38 rfl rfl⟩
theorem fw_Me_24 : FW "BracketRoom$Measures" 24 4 2 := ⟨_, _, _, rfl, by decide, rfl, tk2 39 rfl rfl⟩
theorem fw_Me_27 : FW "BracketRoom$Measures" 27 4 3 := ⟨_, _, _, rfl, by decide, rfl, tk2 40 rfl rfl⟩
theorem fw_Me_30 : FW "BracketRoom$Measures" 30 4 4 := ⟨_, _, _, rfl, by decide, rfl, tk2 41 rfl rfl⟩
theorem fw_Me_33 : FW "BracketRoom$Measures" 33 4 5 := ⟨_, _, _, rfl, by decide, rfl, tk2 42 rfl rfl⟩
theorem fw_Me_36 : FW "BracketRoom$Measures" 36 4 6 := ⟨_, _, _, rfl, by decide, rfl, tk2 43 rfl rfl⟩
theorem fw_Me_39 : FW "BracketRoom$Measures" 39 10 2 := ⟨_, _, _, rfl, by decide, rfl, tk1 53 rfl rfl⟩
theorem fw_Me_49 : FW "BracketRoom$Measures" 49 10 1 := ⟨_, _, _, rfl, by decide, rfl, tk1 47 rfl rfl⟩
theorem fw_Me_89 : FW "BracketRoom$Measures" 89 2 5 := ⟨_, _, _, rfl, by decide, rfl, tk1 181 rfl rfl⟩
theorem fw_Ru_11 : FW "BracketRoom$Runner" 11 5 4 := ⟨_, _, _, rfl, by decide, rfl, tk2 150 rfl rfl⟩
theorem fw_Ru_17 : FW "BracketRoom$Runner" 17 1 2 := ⟨_, _, _, rfl, by decide, rfl, tk1 108 rfl rfl⟩
theorem fp_Ru_23 : FP "BracketRoom$Runner" 23 5 0 := ⟨_, _, _, rfl, by decide, rfl, tk2 142 rfl rfl, rfl⟩
theorem fw_Ru_27 : FW "BracketRoom$Runner" 27 5 1 := ⟨_, _, _, rfl, by decide, rfl, tk2 144 rfl rfl⟩
theorem fp_Ru_27 : FP "BracketRoom$Runner" 27 5 1 := ⟨_, _, _, rfl, by decide, rfl, tk2 144 rfl rfl, rfl⟩
theorem fw_Ru_31 : FW "BracketRoom$Runner" 31 5 2 := ⟨_, _, _, rfl, by decide, rfl, tk2 146 rfl rfl⟩
theorem fp_Ru_31 : FP "BracketRoom$Runner" 31 5 2 := ⟨_, _, _, rfl, by decide, rfl, tk2 146 rfl rfl, rfl⟩
theorem fp_Ru_34 : FP "BracketRoom$Runner" 34 5 3 := ⟨_, _, _, rfl, by decide, rfl, tk2 148 rfl rfl, rfl⟩
theorem fw_Ru_38 : FW "BracketRoom$Runner" 38 6 2 := ⟨_, _, _, rfl, by decide, rfl, tk1 84 rfl rfl⟩
theorem fw_Ru_57 : FW "BracketRoom$Runner" 57 1 0 := ⟨_, _, _, rfl, by decide, rfl, tk1 102 rfl rfl⟩
theorem fw_Ru_81 : FW "BracketRoom$Runner" 81 10 2 := ⟨_, _, _, rfl, by decide, rfl, tk1 57 rfl rfl⟩
theorem fw_Ru_88 : FW "BracketRoom$Runner" 88 1 1 := ⟨_, _, _, rfl, by decide, rfl, tk1 105 rfl rfl⟩
theorem fw_Sc_11 : FW "BracketRoom$Script" 11 6 3 := ⟨_, _, _, rfl, by decide, rfl, tk1 85 rfl rfl⟩
theorem fw_Sc_15 : FW "BracketRoom$Script" 15 6 4 := ⟨_, _, _, rfl, by decide, rfl, tk1 86 rfl rfl⟩
theorem fw_Sc_18 : FW "BracketRoom$Script" 18 6 0 := ⟨_, _, _, rfl, by decide, rfl, tk1 79 rfl rfl⟩
theorem fp_Sc_18 : FP "BracketRoom$Script" 18 6 0 := ⟨_, _, _, rfl, by decide, rfl, tk1 79 rfl rfl, rfl⟩
theorem fw_Sc_22 : FW "BracketRoom$Script" 22 6 1 := ⟨_, _, _, rfl, by decide, rfl, tk1 81 rfl rfl⟩
theorem fp_Sc_22 : FP "BracketRoom$Script" 22 6 1 := ⟨_, _, _, rfl, by decide, rfl, tk1 81 rfl rfl, rfl⟩
theorem fw_Sc_26 : FW "BracketRoom$Script" 26 6 2 := ⟨_, _, _, rfl, by decide, rfl, tk1 83 rfl rfl⟩
theorem fp_Sc_26 : FP "BracketRoom$Script" 26 6 2 := ⟨_, _, _, rfl, by decide, rfl, tk1 83 rfl rfl, rfl⟩
theorem fw_Sc_35 : FW "BracketRoom$Script" 35 6 5 := ⟨_, _, _, rfl, by decide, rfl, tk1 87 rfl rfl⟩
theorem fp_Sc_35 : FP "BracketRoom$Script" 35 6 5 := ⟨_, _, _, rfl, by decide, rfl, tk1 87 rfl rfl, rfl⟩
theorem fw_Sc_111 : FW "BracketRoom$Script" 111 8 1 := ⟨_, _, _, rfl, by decide, rfl, tk1 127 rfl rfl⟩
theorem fw_Sp_14 : FW "BracketRoom$SpanWalk" 14 7 0 := ⟨_, _, _, rfl, by decide, rfl, tk1 218 rfl rfl⟩
theorem fw_Sp_20 : FW "BracketRoom$SpanWalk" 20 7 1 := ⟨_, _, _, rfl, by decide, rfl, tk1 220 rfl rfl⟩
theorem fw_Sp_24 : FW "BracketRoom$SpanWalk" 24 7 3 := ⟨_, _, _, rfl, by decide, rfl, tk1 222 rfl rfl⟩
theorem fp_Sp_24 : FP "BracketRoom$SpanWalk" 24 7 3 := ⟨_, _, _, rfl, by decide, rfl, tk1 222 rfl rfl, rfl⟩
theorem fw_Sp_28 : FW "BracketRoom$SpanWalk" 28 10 1 := ⟨_, _, _, rfl, by decide, rfl, tk1 45 rfl rfl⟩
theorem fw_Sp_31 : FW "BracketRoom$SpanWalk" 31 10 2 := ⟨_, _, _, rfl, by decide, rfl, tk1 54 rfl rfl⟩
theorem fw_Sp_34 : FW "BracketRoom$SpanWalk" 34 7 4 := ⟨_, _, _, rfl, by decide, rfl, tk1 223 rfl rfl⟩
theorem fp_Sp_34 : FP "BracketRoom$SpanWalk" 34 7 4 := ⟨_, _, _, rfl, by decide, rfl, tk1 223 rfl rfl, rfl⟩
theorem fw_Sp_37 : FW "BracketRoom$SpanWalk" 37 7 5 := ⟨_, _, _, rfl, by decide, rfl, tk1 224 rfl rfl⟩
theorem fp_Sp_37 : FP "BracketRoom$SpanWalk" 37 7 5 := ⟨_, _, _, rfl, by decide, rfl, tk1 224 rfl rfl, rfl⟩
theorem fw_Sp_40 : FW "BracketRoom$SpanWalk" 40 7 6 := ⟨_, _, _, rfl, by decide, rfl, tk1 225 rfl rfl⟩
theorem fp_Sp_40 : FP "BracketRoom$SpanWalk" 40 7 6 := ⟨_, _, _, rfl, by decide, rfl, tk1 225 rfl rfl, rfl⟩
theorem fw_Sp_50 : FW "BracketRoom$SpanWalk" 50 7 2 := ⟨_, _, _, rfl, by decide, rfl, tk1 221 rfl rfl⟩
theorem fp_Sp_50 : FP "BracketRoom$SpanWalk" 50 7 2 := ⟨_, _, _, rfl, by decide, rfl, tk1 221 rfl rfl, rfl⟩
theorem fw_Sp_53 : FW "BracketRoom$SpanWalk" 53 2 1 := ⟨_, _, _, rfl, by decide, rfl, tk1 175 rfl rfl⟩
theorem fp_Sp_81 : FP "BracketRoom$SpanWalk" 81 2 6 := ⟨_, _, _, rfl, by decide, rfl, tk1 186 rfl rfl, rfl⟩
theorem fp_Sp_82 : FP "BracketRoom$SpanWalk" 82 2 5 := ⟨_, _, _, rfl, by decide, rfl, tk1 182 rfl rfl, rfl⟩
theorem fp_To_9 : FP "BracketRoom$Tokens" 9 8 2 := ⟨_, _, _, rfl, by decide, rfl, tk1 129 rfl rfl, rfl⟩
theorem fp_To_15 : FP "BracketRoom$Tokens" 15 8 3 := ⟨_, _, _, rfl, by decide, rfl, tk1 131 rfl rfl, rfl⟩
theorem fw_To_18 : FW "BracketRoom$Tokens" 18 8 4 := ⟨_, _, _, rfl, by decide, rfl, tk1 133 rfl rfl⟩
theorem fw_To_22 : FW "BracketRoom$Tokens" 22 8 0 := ⟨_, _, _, rfl, by decide, rfl, tk1 124 rfl rfl⟩
theorem fp_To_22 : FP "BracketRoom$Tokens" 22 8 0 := ⟨_, _, _, rfl, by decide, rfl, tk1 124 rfl rfl, rfl⟩
theorem fw_To_34 : FW "BracketRoom$Tokens" 34 8 5 := ⟨_, _, _, rfl, by decide, rfl, tk1 134 rfl rfl⟩
theorem fp_To_34 : FP "BracketRoom$Tokens" 34 8 5 := ⟨_, _, _, rfl, by decide, rfl, tk1 134 rfl rfl, rfl⟩
theorem fw_To_37 : FW "BracketRoom$Tokens" 37 8 7 := ⟨_, _, _, rfl, by decide, rfl, tk1 136 rfl rfl⟩
theorem fp_To_37 : FP "BracketRoom$Tokens" 37 8 7 := ⟨_, _, _, rfl, by decide, rfl, tk1 136 rfl rfl, rfl⟩
theorem fw_To_43 : FW "BracketRoom$Tokens" 43 8 6 := ⟨_, _, _, rfl, by decide, rfl, tk1 135 rfl rfl⟩
theorem fp_To_43 : FP "BracketRoom$Tokens" 43 8 6 := ⟨_, _, _, rfl, by decide, rfl, tk1 135 rfl rfl, rfl⟩
theorem fw_To_50 : FW "BracketRoom$Tokens" 50 8 8 := ⟨_, _, _, rfl, by decide, rfl, tk1 137 rfl rfl⟩
theorem fp_To_50 : FP "BracketRoom$Tokens" 50 8 8 := ⟨_, _, _, rfl, by decide, rfl, tk1 137 rfl rfl, rfl⟩
theorem fw_To_59 : FW "BracketRoom$Tokens" 59 8 1 := ⟨_, _, _, rfl, by decide, rfl, tk1 126 rfl rfl⟩
theorem fp_To_59 : FP "BracketRoom$Tokens" 59 8 1 := ⟨_, _, _, rfl, by decide, rfl, tk1 126 rfl rfl, rfl⟩
theorem fw_Wo_12 : FW "BracketRoom$Workshop" 12 9 0 := ⟨_, _, _, rfl, by decide, rfl, tk2 117 rfl rfl⟩
theorem fw_Wo_23 : FW "BracketRoom$Workshop" 23 9 1 := ⟨_, _, _, rfl, by decide, rfl, tk2 118 rfl rfl⟩
theorem fw_Wo_27 : FW "BracketRoom$Workshop" 27 9 2 := ⟨_, _, _, rfl, by decide, rfl, tk2 119 rfl rfl⟩
theorem fw_Wo_31 : FW "BracketRoom$Workshop" 31 9 3 := ⟨_, _, _, rfl, by decide, rfl, tk2 120 rfl rfl⟩
theorem fw_Wo_34 : FW "BracketRoom$Workshop" 34 9 4 := ⟨_, _, _, rfl, by decide, rfl, tk2 121 rfl rfl⟩
theorem fw_Wo_37 : FW "BracketRoom$Workshop" 37 9 5 := ⟨_, _, _, rfl, by decide, rfl, tk2 122 rfl rfl⟩
theorem fw_Wo_40 : FW "BracketRoom$Workshop" 40 10 2 := ⟨_, _, _, rfl, by decide, rfl, tk1 52 rfl rfl⟩
theorem fw_Wo_44 : FW "BracketRoom$Workshop" 44 10 1 := ⟨_, _, _, rfl, by decide, rfl, tk1 46 rfl rfl⟩
theorem fw_Wo_55 : FW "BracketRoom$Workshop" 55 2 6 := ⟨_, _, _, rfl, by decide, rfl, tk1 185 rfl rfl⟩
theorem fw_Wo_72 : FW "BracketRoom$Workshop" 72 2 1 := ⟨_, _, _, rfl, by decide, rfl, tk1 174 rfl rfl⟩
theorem fw_Wo_75 : FW "BracketRoom$Workshop" 75 2 0 := ⟨_, _, _, rfl, by decide, rfl, tk1 171 rfl rfl⟩
theorem fw_Wd_9 : FW "BracketRoom$World" 9 10 0 := ⟨_, _, _, rfl, by decide, rfl, tk1 42 rfl rfl⟩
theorem fw_Wd_15 : FW "BracketRoom$World" 15 10 1 := ⟨_, _, _, rfl, by decide, rfl, tk1 44 rfl rfl⟩
theorem fp_Wd_15 : FP "BracketRoom$World" 15 10 1 := ⟨_, _, _, rfl, by decide, rfl, tk1 44 rfl rfl, rfl⟩
theorem fw_Wd_19 : FW "BracketRoom$World" 19 10 2 := ⟨_, _, _, rfl, by decide, rfl, tk1 51 rfl rfl⟩
theorem fp_Wd_19 : FP "BracketRoom$World" 19 10 2 := ⟨_, _, _, rfl, by decide, rfl, tk1 51 rfl rfl, rfl⟩
theorem fw_Wd_87 : FW "BracketRoom$World" 87 8 1 := ⟨_, _, _, rfl, by decide, rfl, tk1 128 rfl rfl⟩
theorem fw_R_7 : FW "BracketRoomModel" 7 12 3 := ⟨_, _, _, rfl, by decide, rfl, tk6 200 rfl rfl⟩
theorem fp_R_7 : FP "BracketRoomModel" 7 12 3 := ⟨_, _, _, rfl, by decide, rfl, tk6 200 rfl rfl, rfl⟩
theorem fw_R_13 : FW "BracketRoomModel" 13 12 4 := ⟨_, _, _, rfl, by decide, rfl, tk6 201 rfl rfl⟩
theorem fw_R_17 : FW "BracketRoomModel" 17 12 5 := ⟨_, _, _, rfl, by decide, rfl, tk6 202 rfl rfl⟩
theorem fw_R_20 : FW "BracketRoomModel" 20 12 6 := ⟨_, _, _, rfl, by decide, rfl, tk6 203 rfl rfl⟩
theorem fw_R_24 : FW "BracketRoomModel" 24 12 7 := ⟨_, _, _, rfl, by decide, rfl, tk6 204 rfl rfl⟩
theorem fw_R_28 : FW "BracketRoomModel" 28 12 10 := ⟨_, _, _, rfl, by decide, rfl, tk6 207 rfl rfl⟩
theorem fp_R_28 : FP "BracketRoomModel" 28 12 10 := ⟨_, _, _, rfl, by decide, rfl, tk6 207 rfl rfl, rfl⟩
theorem fw_R_32 : FW "BracketRoomModel" 32 12 11 := ⟨_, _, _, rfl, by decide, rfl, tk6 208 rfl rfl⟩
theorem fp_R_32 : FP "BracketRoomModel" 32 12 11 := ⟨_, _, _, rfl, by decide, rfl, tk6 208 rfl rfl, rfl⟩
theorem fw_R_35 : FW "BracketRoomModel" 35 12 19 := ⟨_, _, _, rfl, by decide, rfl, tk6 216 rfl rfl⟩
theorem fw_R_38 : FW "BracketRoomModel" 38 12 20 := ⟨_, _, _, rfl, by decide, rfl, tk6 217 rfl rfl⟩
theorem fw_R_41 : FW "BracketRoomModel" 41 12 21 := ⟨_, _, _, rfl, by decide, rfl, tk6 218 rfl rfl⟩
theorem fw_R_44 : FW "BracketRoomModel" 44 12 22 := ⟨_, _, _, rfl, by decide, rfl, tk6 219 rfl rfl⟩
theorem fw_R_47 : FW "BracketRoomModel" 47 12 28 := ⟨_, _, _, rfl, by decide, rfl, tk6 225 rfl rfl⟩
theorem fw_R_50 : FW "BracketRoomModel" 50 12 29 := ⟨_, _, _, rfl, by decide, rfl, tk6 226 rfl rfl⟩
theorem fw_R_53 : FW "BracketRoomModel" 53 12 30 := ⟨_, _, _, rfl, by decide, rfl, tk6 227 rfl rfl⟩
theorem fw_R_56 : FW "BracketRoomModel" 56 12 31 := ⟨_, _, _, rfl, by decide, rfl, tk6 228 rfl rfl⟩
theorem fw_R_59 : FW "BracketRoomModel" 59 12 32 := ⟨_, _, _, rfl, by decide, rfl, tk6 229 rfl rfl⟩
theorem fw_R_62 : FW "BracketRoomModel" 62 12 33 := ⟨_, _, _, rfl, by decide, rfl, tk6 230 rfl rfl⟩
theorem fw_R_65 : FW "BracketRoomModel" 65 12 34 := ⟨_, _, _, rfl, by decide, rfl, tk6 231 rfl rfl⟩
theorem fw_R_68 : FW "BracketRoomModel" 68 12 35 := ⟨_, _, _, rfl, by decide, rfl, tk6 232 rfl rfl⟩
theorem fw_R_71 : FW "BracketRoomModel" 71 12 36 := ⟨_, _, _, rfl, by decide, rfl, tk6 233 rfl rfl⟩
theorem fw_R_74 : FW "BracketRoomModel" 74 12 37 := ⟨_, _, _, rfl, by decide, rfl, tk6 234 rfl rfl⟩
theorem fw_R_77 : FW "BracketRoomModel" 77 12 38 := ⟨_, _, _, rfl, by decide, rfl, tk6 235 rfl rfl⟩
theorem fw_R_80 : FW "BracketRoomModel" 80 12 40 := ⟨_, _, _, rfl, by decide, rfl, tk6 237 rfl rfl⟩
theorem fw_R_83 : FW "BracketRoomModel" 83 12 41 := ⟨_, _, _, rfl, by decide, rfl, tk6 238 rfl rfl⟩
theorem fw_R_86 : FW "BracketRoomModel" 86 12 42 := ⟨_, _, _, rfl, by decide, rfl, tk6 239 rfl rfl⟩
theorem fw_R_89 : FW "BracketRoomModel" 89 12 44 := ⟨_, _, _, rfl, by decide, rfl, tk7 1 rfl rfl⟩
theorem fp_R_89 : FP "BracketRoomModel" 89 12 44 := ⟨_, _, _, rfl, by decide, rfl, tk7 1 rfl rfl, rfl⟩
theorem fw_R_92 : FW "BracketRoomModel" 92 12 48 := ⟨_, _, _, rfl, by decide, rfl, tk7 5 rfl rfl⟩
theorem fw_R_95 : FW "BracketRoomModel" 95 12 54 := ⟨_, _, _, rfl, by decide, rfl, tk7 11 rfl rfl⟩
theorem fw_R_98 : FW "BracketRoomModel" 98 12 55 := ⟨_, _, _, rfl, by decide, rfl, tk7 12 rfl rfl⟩
theorem fw_R_101 : FW "BracketRoomModel" 101 12 56 := ⟨_, _, _, rfl, by decide, rfl, tk7 13 rfl rfl⟩
theorem fw_R_104 : FW "BracketRoomModel" 104 12 57 := ⟨_, _, _, rfl, by decide, rfl, tk7 14 rfl rfl⟩
theorem fw_R_107 : FW "BracketRoomModel" 107 12 58 := ⟨_, _, _, rfl, by decide, rfl, tk7 15 rfl rfl⟩
theorem fw_R_110 : FW "BracketRoomModel" 110 12 61 := ⟨_, _, _, rfl, by decide, rfl, tk7 18 rfl rfl⟩
theorem fw_R_113 : FW "BracketRoomModel" 113 12 62 := ⟨_, _, _, rfl, by decide, rfl, tk7 19 rfl rfl⟩
theorem fw_R_116 : FW "BracketRoomModel" 116 12 63 := ⟨_, _, _, rfl, by decide, rfl, tk7 20 rfl rfl⟩
theorem fw_R_119 : FW "BracketRoomModel" 119 12 66 := ⟨_, _, _, rfl, by decide, rfl, tk7 23 rfl rfl⟩
theorem fw_R_122 : FW "BracketRoomModel" 122 12 67 := ⟨_, _, _, rfl, by decide, rfl, tk7 24 rfl rfl⟩
theorem fw_R_125 : FW "BracketRoomModel" 125 12 68 := ⟨_, _, _, rfl, by decide, rfl, tk7 25 rfl rfl⟩
theorem fw_R_129 : FW "BracketRoomModel" 129 12 69 := ⟨_, _, _, rfl, by decide, rfl, tk7 26 rfl rfl⟩
theorem fp_R_132 : FP "BracketRoomModel" 132 12 1 := ⟨_, _, _, rfl, by decide, rfl, tk6 198 rfl rfl, rfl⟩
theorem fw_R_135 : FW "BracketRoomModel" 135 12 0 := ⟨_, _, _, rfl, by decide, rfl, tk6 197 rfl rfl⟩
theorem fp_R_135 : FP "BracketRoomModel" 135 12 0 := ⟨_, _, _, rfl, by decide, rfl, tk6 197 rfl rfl, rfl⟩
theorem fw_R_138 : FW "BracketRoomModel" 138 12 2 := ⟨_, _, _, rfl, by decide, rfl, tk6 199 rfl rfl⟩
theorem fp_R_138 : FP "BracketRoomModel" 138 12 2 := ⟨_, _, _, rfl, by decide, rfl, tk6 199 rfl rfl, rfl⟩
theorem fw_R_171 : FW "BracketRoomModel" 171 12 9 := ⟨_, _, _, rfl, by decide, rfl, tk6 206 rfl rfl⟩
theorem fp_R_171 : FP "BracketRoomModel" 171 12 9 := ⟨_, _, _, rfl, by decide, rfl, tk6 206 rfl rfl, rfl⟩
theorem fw_R_174 : FW "BracketRoomModel" 174 12 16 := ⟨_, _, _, rfl, by decide, rfl, tk6 213 rfl rfl⟩
theorem fp_R_174 : FP "BracketRoomModel" 174 12 16 := ⟨_, _, _, rfl, by decide, rfl, tk6 213 rfl rfl, rfl⟩
theorem fw_R_177 : FW "BracketRoomModel" 177 12 15 := ⟨_, _, _, rfl, by decide, rfl, tk6 212 rfl rfl⟩
theorem fp_R_177 : FP "BracketRoomModel" 177 12 15 := ⟨_, _, _, rfl, by decide, rfl, tk6 212 rfl rfl, rfl⟩
theorem fw_R_183 : FW "BracketRoomModel" 183 12 14 := ⟨_, _, _, rfl, by decide, rfl, tk6 211 rfl rfl⟩
theorem fp_R_183 : FP "BracketRoomModel" 183 12 14 := ⟨_, _, _, rfl, by decide, rfl, tk6 211 rfl rfl, rfl⟩
theorem fw_R_189 : FW "BracketRoomModel" 189 12 18 := ⟨_, _, _, rfl, by decide, rfl, tk6 215 rfl rfl⟩
theorem fp_R_189 : FP "BracketRoomModel" 189 12 18 := ⟨_, _, _, rfl, by decide, rfl, tk6 215 rfl rfl, rfl⟩
theorem fw_R_199 : FW "BracketRoomModel" 199 12 17 := ⟨_, _, _, rfl, by decide, rfl, tk6 214 rfl rfl⟩
theorem fp_R_199 : FP "BracketRoomModel" 199 12 17 := ⟨_, _, _, rfl, by decide, rfl, tk6 214 rfl rfl, rfl⟩
theorem fw_R_221 : FW "BracketRoomModel" 221 12 12 := ⟨_, _, _, rfl, by decide, rfl, tk6 209 rfl rfl⟩
theorem fp_R_221 : FP "BracketRoomModel" 221 12 12 := ⟨_, _, _, rfl, by decide, rfl, tk6 209 rfl rfl, rfl⟩
theorem fw_R_224 : FW "BracketRoomModel" 224 12 13 := ⟨_, _, _, rfl, by decide, rfl, tk6 210 rfl rfl⟩
theorem fp_R_224 : FP "BracketRoomModel" 224 12 13 := ⟨_, _, _, rfl, by decide, rfl, tk6 210 rfl rfl, rfl⟩
theorem fw_R_237 : FW "BracketRoomModel" 237 12 8 := ⟨_, _, _, rfl, by decide, rfl, tk6 205 rfl rfl⟩
theorem fp_R_237 : FP "BracketRoomModel" 237 12 8 := ⟨_, _, _, rfl, by decide, rfl, tk6 205 rfl rfl, rfl⟩
theorem fw_R_244 : FW "BracketRoomModel" 244 12 24 := ⟨_, _, _, rfl, by decide, rfl, tk6 221 rfl rfl⟩
theorem fp_R_244 : FP "BracketRoomModel" 244 12 24 := ⟨_, _, _, rfl, by decide, rfl, tk6 221 rfl rfl, rfl⟩
theorem fw_R_247 : FW "BracketRoomModel" 247 12 25 := ⟨_, _, _, rfl, by decide, rfl, tk6 222 rfl rfl⟩
theorem fp_R_247 : FP "BracketRoomModel" 247 12 25 := ⟨_, _, _, rfl, by decide, rfl, tk6 222 rfl rfl, rfl⟩
theorem fw_R_250 : FW "BracketRoomModel" 250 12 26 := ⟨_, _, _, rfl, by decide, rfl, tk6 223 rfl rfl⟩
theorem fp_R_250 : FP "BracketRoomModel" 250 12 26 := ⟨_, _, _, rfl, by decide, rfl, tk6 223 rfl rfl, rfl⟩
theorem fw_R_253 : FW "BracketRoomModel" 253 12 27 := ⟨_, _, _, rfl, by decide, rfl, tk6 224 rfl rfl⟩
theorem fp_R_253 : FP "BracketRoomModel" 253 12 27 := ⟨_, _, _, rfl, by decide, rfl, tk6 224 rfl rfl, rfl⟩
theorem fw_R_423 : FW "BracketRoomModel" 423 12 39 := ⟨_, _, _, rfl, by decide, rfl, tk6 236 rfl rfl⟩
theorem fp_R_423 : FP "BracketRoomModel" 423 12 39 := ⟨_, _, _, rfl, by decide, rfl, tk6 236 rfl rfl, rfl⟩
theorem fw_R_442 : FW "BracketRoomModel" 442 12 59 := ⟨_, _, _, rfl, by decide, rfl, tk7 16 rfl rfl⟩
theorem fp_R_442 : FP "BracketRoomModel" 442 12 59 := ⟨_, _, _, rfl, by decide, rfl, tk7 16 rfl rfl, rfl⟩
theorem fw_R_445 : FW "BracketRoomModel" 445 12 60 := ⟨_, _, _, rfl, by decide, rfl, tk7 17 rfl rfl⟩
theorem fp_R_445 : FP "BracketRoomModel" 445 12 60 := ⟨_, _, _, rfl, by decide, rfl, tk7 17 rfl rfl, rfl⟩
theorem fw_R_536 : FW "BracketRoomModel" 536 12 64 := ⟨_, _, _, rfl, by decide, rfl, tk7 21 rfl rfl⟩
theorem fp_R_536 : FP "BracketRoomModel" 536 12 64 := ⟨_, _, _, rfl, by decide, rfl, tk7 21 rfl rfl, rfl⟩
theorem fw_R_539 : FW "BracketRoomModel" 539 12 65 := ⟨_, _, _, rfl, by decide, rfl, tk7 22 rfl rfl⟩
theorem fp_R_539 : FP "BracketRoomModel" 539 12 65 := ⟨_, _, _, rfl, by decide, rfl, tk7 22 rfl rfl, rfl⟩
theorem fw_R_545 : FW "BracketRoomModel" 545 12 45 := ⟨_, _, _, rfl, by decide, rfl, tk7 2 rfl rfl⟩
theorem fp_R_545 : FP "BracketRoomModel" 545 12 45 := ⟨_, _, _, rfl, by decide, rfl, tk7 2 rfl rfl, rfl⟩
theorem fw_R_548 : FW "BracketRoomModel" 548 12 46 := ⟨_, _, _, rfl, by decide, rfl, tk7 3 rfl rfl⟩
theorem fp_R_548 : FP "BracketRoomModel" 548 12 46 := ⟨_, _, _, rfl, by decide, rfl, tk7 3 rfl rfl, rfl⟩
theorem fw_R_552 : FW "BracketRoomModel" 552 12 47 := ⟨_, _, _, rfl, by decide, rfl, tk7 4 rfl rfl⟩
theorem fp_R_552 : FP "BracketRoomModel" 552 12 47 := ⟨_, _, _, rfl, by decide, rfl, tk7 4 rfl rfl, rfl⟩
theorem fw_R_555 : FW "BracketRoomModel" 555 12 43 := ⟨_, _, _, rfl, by decide, rfl, tk7 0 rfl rfl⟩
theorem fp_R_555 : FP "BracketRoomModel" 555 12 43 := ⟨_, _, _, rfl, by decide, rfl, tk7 0 rfl rfl, rfl⟩
theorem fw_R_649 : FW "BracketRoomModel" 649 12 70 := ⟨_, _, _, rfl, by decide, rfl, tk7 27 rfl rfl⟩
theorem fp_R_649 : FP "BracketRoomModel" 649 12 70 := ⟨_, _, _, rfl, by decide, rfl, tk7 27 rfl rfl, rfl⟩
theorem fw_R_667 : FW "BracketRoomModel" 667 12 51 := ⟨_, _, _, rfl, by decide, rfl, tk7 8 rfl rfl⟩
theorem fp_R_667 : FP "BracketRoomModel" 667 12 51 := ⟨_, _, _, rfl, by decide, rfl, tk7 8 rfl rfl, rfl⟩
theorem fw_R_670 : FW "BracketRoomModel" 670 12 53 := ⟨_, _, _, rfl, by decide, rfl, tk7 10 rfl rfl⟩
theorem fp_R_670 : FP "BracketRoomModel" 670 12 53 := ⟨_, _, _, rfl, by decide, rfl, tk7 10 rfl rfl, rfl⟩
theorem fw_R_673 : FW "BracketRoomModel" 673 12 50 := ⟨_, _, _, rfl, by decide, rfl, tk7 7 rfl rfl⟩
theorem fp_R_673 : FP "BracketRoomModel" 673 12 50 := ⟨_, _, _, rfl, by decide, rfl, tk7 7 rfl rfl, rfl⟩
theorem fw_R_685 : FW "BracketRoomModel" 685 12 52 := ⟨_, _, _, rfl, by decide, rfl, tk7 9 rfl rfl⟩
theorem fp_R_685 : FP "BracketRoomModel" 685 12 52 := ⟨_, _, _, rfl, by decide, rfl, tk7 9 rfl rfl, rfl⟩
theorem fw_R_691 : FW "BracketRoomModel" 691 12 49 := ⟨_, _, _, rfl, by decide, rfl, tk7 6 rfl rfl⟩
theorem fp_R_691 : FP "BracketRoomModel" 691 12 49 := ⟨_, _, _, rfl, by decide, rfl, tk7 6 rfl rfl, rfl⟩
theorem fw_R_694 : FW "BracketRoomModel" 694 12 23 := ⟨_, _, _, rfl, by decide, rfl, tk6 220 rfl rfl⟩
theorem fp_R_694 : FP "BracketRoomModel" 694 12 23 := ⟨_, _, _, rfl, by decide, rfl, tk6 220 rfl rfl, rfl⟩
