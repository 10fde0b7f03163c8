set_option maxRecDepth 100000 in
theorem my_0 : mg_M 0 = some (mc_0, 1) := rfl
theorem ms_0 : mg_srt 0 mc_0 = true := by decide +kernel
set_option maxRecDepth 100000 in
theorem my_1 : mg_M 1 = some (mc_1, 2) := rfl
theorem ms_1 : mg_srt 0 mc_1 = true := by decide +kernel
set_option maxRecDepth 100000 in
theorem my_2 : mg_M 2 = some (mc_2, 5) := rfl
theorem ms_2 : mg_srt 0 mc_2 = true := by decide +kernel
set_option maxRecDepth 100000 in
theorem my_3 : mg_M 3 = some (mc_3, 6) := rfl
theorem ms_3 : mg_srt 0 mc_3 = true := by decide +kernel
set_option maxRecDepth 100000 in
theorem my_4 : mg_M 4 = some (mc_4, 5) := rfl
theorem ms_4 : mg_srt 0 mc_4 = true := by decide +kernel
set_option maxRecDepth 100000 in
theorem my_5 : mg_M 5 = some (mc_5, 2) := rfl
theorem ms_5 : mg_srt 0 mc_5 = true := by decide +kernel
set_option maxRecDepth 100000 in
theorem my_6 : mg_M 6 = some (mc_6, 4) := rfl
theorem ms_6 : mg_srt 0 mc_6 = true := by decide +kernel
set_option maxRecDepth 100000 in
theorem my_7 : mg_M 7 = some (mc_7, 1) := rfl
theorem ms_7 : mg_srt 0 mc_7 = true := by decide +kernel
set_option maxRecDepth 100000 in
theorem my_8 : mg_M 8 = some (mc_8, 4) := rfl
theorem ms_8 : mg_srt 0 mc_8 = true := by decide +kernel
set_option maxRecDepth 100000 in
theorem my_9 : mg_M 9 = some (mc_9, 3) := rfl
theorem ms_9 : mg_srt 0 mc_9 = true := by decide +kernel
set_option maxRecDepth 100000 in
theorem my_10 : mg_M 10 = some (mc_10, 4) := rfl
theorem ms_10 : mg_srt 0 mc_10 = true := by decide +kernel
set_option maxRecDepth 100000 in
theorem my_11 : mg_M 11 = some (mc_11, 2) := rfl
theorem ms_11 : mg_srt 0 mc_11 = true := by decide +kernel
set_option maxRecDepth 100000 in
theorem my_12 : mg_M 12 = some (mc_12, 4) := rfl
theorem ms_12 : mg_srt 0 mc_12 = true := by decide +kernel
set_option maxRecDepth 100000 in
theorem my_13 : mg_M 13 = some (mc_13, 4) := rfl
theorem ms_13 : mg_srt 0 mc_13 = true := by decide +kernel
set_option maxRecDepth 100000 in
theorem my_14 : mg_M 14 = some (mc_14, 3) := rfl
theorem ms_14 : mg_srt 0 mc_14 = true := by decide +kernel
set_option maxRecDepth 100000 in
theorem my_15 : mg_M 15 = some (mc_15, 4) := rfl
theorem ms_15 : mg_srt 0 mc_15 = true := by decide +kernel
set_option maxRecDepth 100000 in
theorem my_16 : mg_M 16 = some (mc_16, 3) := rfl
theorem ms_16 : mg_srt 0 mc_16 = true := by decide +kernel
set_option maxRecDepth 100000 in
theorem my_17 : mg_M 17 = some (mc_17, 6) := rfl
theorem ms_17 : mg_srt 0 mc_17 = true := by decide +kernel
set_option maxRecDepth 100000 in
theorem my_18 : mg_M 18 = some (mc_18, 2) := rfl
theorem ms_18 : mg_srt 0 mc_18 = true := by decide +kernel
set_option maxRecDepth 100000 in
theorem my_19 : mg_M 19 = some (mc_19, 3) := rfl
theorem ms_19 : mg_srt 0 mc_19 = true := by decide +kernel
set_option maxRecDepth 100000 in
theorem my_20 : mg_M 20 = some (mc_20, 3) := rfl
theorem ms_20 : mg_srt 0 mc_20 = true := by decide +kernel
set_option maxRecDepth 100000 in
theorem my_21 : mg_M 21 = some (mc_21, 10) := rfl
theorem ms_21 : mg_srt 0 mc_21 = true := by decide +kernel
set_option maxRecDepth 100000 in
theorem my_22 : mg_M 22 = some (mc_22, 4) := rfl
theorem ms_22 : mg_srt 0 mc_22 = true := by decide +kernel
set_option maxRecDepth 100000 in
theorem my_23 : mg_M 23 = some (mc_23, 6) := rfl
theorem ms_23 : mg_srt 0 mc_23 = true := by decide +kernel
set_option maxRecDepth 100000 in
theorem my_24 : mg_M 24 = some (mc_24, 6) := rfl
theorem ms_24 : mg_srt 0 mc_24 = true := by decide +kernel
set_option maxRecDepth 100000 in
theorem my_25 : mg_M 25 = some (mc_25, 2) := rfl
theorem ms_25 : mg_srt 0 mc_25 = true := by decide +kernel
set_option maxRecDepth 100000 in
theorem my_26 : mg_M 26 = some (mc_26, 2) := rfl
theorem ms_26 : mg_srt 0 mc_26 = true := by decide +kernel
set_option maxRecDepth 100000 in
theorem my_27 : mg_M 27 = some (mc_27, 1) := rfl
theorem ms_27 : mg_srt 0 mc_27 = true := by decide +kernel
set_option maxRecDepth 100000 in
theorem my_28 : mg_M 28 = some (mc_28, 1) := rfl
theorem ms_28 : mg_srt 0 mc_28 = true := by decide +kernel
set_option maxRecDepth 100000 in
theorem my_29 : mg_M 29 = some (mc_29, 2) := rfl
theorem ms_29 : mg_srt 0 mc_29 = true := by decide +kernel
set_option maxRecDepth 100000 in
theorem my_30 : mg_M 30 = some (mc_30, 1) := rfl
theorem ms_30 : mg_srt 0 mc_30 = true := by decide +kernel
set_option maxRecDepth 100000 in
theorem my_31 : mg_M 31 = some (mc_31, 3) := rfl
theorem ms_31 : mg_srt 0 mc_31 = true := by decide +kernel
set_option maxRecDepth 100000 in
theorem my_32 : mg_M 32 = some (mc_32, 2) := rfl
theorem ms_32 : mg_srt 0 mc_32 = true := by decide +kernel
set_option maxRecDepth 100000 in
theorem my_33 : mg_M 33 = some (mc_33, 2) := rfl
theorem ms_33 : mg_srt 0 mc_33 = true := by decide +kernel
set_option maxRecDepth 100000 in
theorem my_34 : mg_M 34 = some (mc_34, 4) := rfl
theorem ms_34 : mg_srt 0 mc_34 = true := by decide +kernel
set_option maxRecDepth 100000 in
theorem my_35 : mg_M 35 = some (mc_35, 1) := rfl
theorem ms_35 : mg_srt 0 mc_35 = true := by decide +kernel
set_option maxRecDepth 100000 in
theorem my_36 : mg_M 36 = some (mc_36, 3) := rfl
theorem ms_36 : mg_srt 0 mc_36 = true := by decide +kernel
set_option maxRecDepth 100000 in
theorem my_37 : mg_M 37 = some (mc_37, 5) := rfl
theorem ms_37 : mg_srt 0 mc_37 = true := by decide +kernel
set_option maxRecDepth 100000 in
theorem my_38 : mg_M 38 = some (mc_38, 2) := rfl
theorem ms_38 : mg_srt 0 mc_38 = true := by decide +kernel
set_option maxRecDepth 100000 in
theorem my_39 : mg_M 39 = some (mc_39, 3) := rfl
theorem ms_39 : mg_srt 0 mc_39 = true := by decide +kernel
set_option maxRecDepth 100000 in
theorem my_40 : mg_M 40 = some (mc_40, 2) := rfl
theorem ms_40 : mg_srt 0 mc_40 = true := by decide +kernel
set_option maxRecDepth 100000 in
theorem my_41 : mg_M 41 = some (mc_41, 1) := rfl
theorem ms_41 : mg_srt 0 mc_41 = true := by decide +kernel
set_option maxRecDepth 100000 in
theorem my_42 : mg_M 42 = some (mc_42, 8) := rfl
theorem ms_42 : mg_srt 0 mc_42 = true := by decide +kernel
set_option maxRecDepth 100000 in
theorem my_43 : mg_M 43 = some (mc_43, 1) := rfl
theorem ms_43 : mg_srt 0 mc_43 = true := by decide +kernel
set_option maxRecDepth 100000 in
theorem my_44 : mg_M 44 = some (mc_44, 1) := rfl
theorem ms_44 : mg_srt 0 mc_44 = true := by decide +kernel
set_option maxRecDepth 100000 in
theorem my_45 : mg_M 45 = some (mc_45, 3) := rfl
theorem ms_45 : mg_srt 0 mc_45 = true := by decide +kernel
set_option maxRecDepth 100000 in
theorem my_46 : mg_M 46 = some (mc_46, 2) := rfl
theorem ms_46 : mg_srt 0 mc_46 = true := by decide +kernel
set_option maxRecDepth 100000 in
theorem my_47 : mg_M 47 = some (mc_47, 3) := rfl
theorem ms_47 : mg_srt 0 mc_47 = true := by decide +kernel
set_option maxRecDepth 100000 in
theorem my_48 : mg_M 48 = some (mc_48, 2) := rfl
theorem ms_48 : mg_srt 0 mc_48 = true := by decide +kernel
set_option maxRecDepth 100000 in
theorem my_49 : mg_M 49 = some (mc_49, 2) := rfl
theorem ms_49 : mg_srt 0 mc_49 = true := by decide +kernel
set_option maxRecDepth 100000 in
theorem my_50 : mg_M 50 = some (mc_50, 6) := rfl
theorem ms_50 : mg_srt 0 mc_50 = true := by decide +kernel
set_option maxRecDepth 100000 in
theorem my_51 : mg_M 51 = some (mc_51, 4) := rfl
theorem ms_51 : mg_srt 0 mc_51 = true := by decide +kernel
set_option maxRecDepth 100000 in
theorem my_52 : mg_M 52 = some (mc_52, 1) := rfl
theorem ms_52 : mg_srt 0 mc_52 = true := by decide +kernel
set_option maxRecDepth 100000 in
theorem my_53 : mg_M 53 = some (mc_53, 3) := rfl
theorem ms_53 : mg_srt 0 mc_53 = true := by decide +kernel
set_option maxRecDepth 100000 in
theorem my_54 : mg_M 54 = some (mc_54, 4) := rfl
theorem ms_54 : mg_srt 0 mc_54 = true := by decide +kernel
set_option maxRecDepth 100000 in
theorem my_55 : mg_M 55 = some (mc_55, 3) := rfl
theorem ms_55 : mg_srt 0 mc_55 = true := by decide +kernel
set_option maxRecDepth 100000 in
theorem my_56 : mg_M 56 = some (mc_56, 2) := rfl
theorem ms_56 : mg_srt 0 mc_56 = true := by decide +kernel
set_option maxRecDepth 100000 in
theorem my_57 : mg_M 57 = some (mc_57, 4) := rfl
theorem ms_57 : mg_srt 0 mc_57 = true := by decide +kernel
set_option maxRecDepth 100000 in
theorem my_58 : mg_M 58 = some (mc_58, 1) := rfl
theorem ms_58 : mg_srt 0 mc_58 = true := by decide +kernel
set_option maxRecDepth 100000 in
theorem my_59 : mg_M 59 = some (mc_59, 4) := rfl
theorem ms_59 : mg_srt 0 mc_59 = true := by decide +kernel
set_option maxRecDepth 100000 in
theorem my_60 : mg_M 60 = some (mc_60, 8) := rfl
theorem ms_60 : mg_srt 0 mc_60 = true := by decide +kernel
set_option maxRecDepth 100000 in
theorem my_61 : mg_M 61 = some (mc_61, 4) := rfl
theorem ms_61 : mg_srt 0 mc_61 = true := by decide +kernel
set_option maxRecDepth 100000 in
theorem my_62 : mg_M 62 = some (mc_62, 4) := rfl
theorem ms_62 : mg_srt 0 mc_62 = true := by decide +kernel
set_option maxRecDepth 100000 in
theorem my_63 : mg_M 63 = some (mc_63, 1) := rfl
theorem ms_63 : mg_srt 0 mc_63 = true := by decide +kernel
set_option maxRecDepth 100000 in
theorem my_64 : mg_M 64 = some (mc_64, 2) := rfl
theorem ms_64 : mg_srt 0 mc_64 = true := by decide +kernel
set_option maxRecDepth 100000 in
theorem my_65 : mg_M 65 = some (mc_65, 3) := rfl
theorem ms_65 : mg_srt 0 mc_65 = true := by decide +kernel
set_option maxRecDepth 100000 in
theorem my_66 : mg_M 66 = some (mc_66, 3) := rfl
theorem ms_66 : mg_srt 0 mc_66 = true := by decide +kernel
set_option maxRecDepth 100000 in
theorem my_67 : mg_M 67 = some (mc_67, 3) := rfl
theorem ms_67 : mg_srt 0 mc_67 = true := by decide +kernel
set_option maxRecDepth 100000 in
theorem my_68 : mg_M 68 = some (mc_68, 4) := rfl
theorem ms_68 : mg_srt 0 mc_68 = true := by decide +kernel
set_option maxRecDepth 100000 in
theorem my_69 : mg_M 69 = some (mc_69, 4) := rfl
theorem ms_69 : mg_srt 0 mc_69 = true := by decide +kernel
set_option maxRecDepth 100000 in
theorem my_70 : mg_M 70 = some (mc_70, 3) := rfl
theorem ms_70 : mg_srt 0 mc_70 = true := by decide +kernel
set_option maxRecDepth 100000 in
theorem my_71 : mg_M 71 = some (mc_71, 1) := rfl
theorem ms_71 : mg_srt 0 mc_71 = true := by decide +kernel
set_option maxRecDepth 100000 in
theorem my_72 : mg_M 72 = some (mc_72, 4) := rfl
theorem ms_72 : mg_srt 0 mc_72 = true := by decide +kernel
set_option maxRecDepth 100000 in
theorem my_73 : mg_M 73 = some (mc_73, 5) := rfl
theorem ms_73 : mg_srt 0 mc_73 = true := by decide +kernel
set_option maxRecDepth 100000 in
theorem my_74 : mg_M 74 = some (mc_74, 6) := rfl
theorem ms_74 : mg_srt 0 mc_74 = true := by decide +kernel
set_option maxRecDepth 100000 in
theorem my_75 : mg_M 75 = some (mc_75, 4) := rfl
theorem ms_75 : mg_srt 0 mc_75 = true := by decide +kernel
set_option maxRecDepth 100000 in
theorem my_76 : mg_M 76 = some (mc_76, 6) := rfl
theorem ms_76 : mg_srt 0 mc_76 = true := by decide +kernel
set_option maxRecDepth 100000 in
theorem my_77 : mg_M 77 = some (mc_77, 2) := rfl
theorem ms_77 : mg_srt 0 mc_77 = true := by decide +kernel
set_option maxRecDepth 100000 in
theorem my_78 : mg_M 78 = some (mc_78, 2) := rfl
theorem ms_78 : mg_srt 0 mc_78 = true := by decide +kernel
set_option maxRecDepth 100000 in
theorem my_79 : mg_M 79 = some (mc_79, 5) := rfl
theorem ms_79 : mg_srt 0 mc_79 = true := by decide +kernel
set_option maxRecDepth 100000 in
theorem my_80 : mg_M 80 = some (mc_80, 5) := rfl
theorem ms_80 : mg_srt 0 mc_80 = true := by decide +kernel
set_option maxRecDepth 100000 in
theorem my_81 : mg_M 81 = some (mc_81, 7) := rfl
theorem ms_81 : mg_srt 0 mc_81 = true := by decide +kernel
set_option maxRecDepth 100000 in
theorem my_82 : mg_M 82 = some (mc_82, 11) := rfl
theorem ms_82 : mg_srt 0 mc_82 = true := by decide +kernel
set_option maxRecDepth 100000 in
theorem my_83 : mg_M 83 = some (mc_83, 5) := rfl
theorem ms_83 : mg_srt 0 mc_83 = true := by decide +kernel
set_option maxRecDepth 100000 in
theorem my_84 : mg_M 84 = some (mc_84, 4) := rfl
theorem ms_84 : mg_srt 0 mc_84 = true := by decide +kernel
set_option maxRecDepth 100000 in
theorem my_85 : mg_M 85 = some (mc_85, 12) := rfl
theorem ms_85 : mg_srt 0 mc_85 = true := by decide +kernel
set_option maxRecDepth 100000 in
theorem my_86 : mg_M 86 = some (mc_86, 13) := rfl
theorem ms_86 : mg_srt 0 mc_86 = true := by decide +kernel
set_option maxRecDepth 100000 in
theorem my_87 : mg_M 87 = some (mc_87, 7) := rfl
theorem ms_87 : mg_srt 0 mc_87 = true := by decide +kernel
set_option maxRecDepth 100000 in
theorem my_88 : mg_M 88 = some (mc_88, 4) := rfl
theorem ms_88 : mg_srt 0 mc_88 = true := by decide +kernel
set_option maxRecDepth 100000 in
theorem my_89 : mg_M 89 = some (mc_89, 5) := rfl
theorem ms_89 : mg_srt 0 mc_89 = true := by decide +kernel
set_option maxRecDepth 100000 in
theorem my_90 : mg_M 90 = some (mc_90, 5) := rfl
theorem ms_90 : mg_srt 0 mc_90 = true := by decide +kernel
set_option maxRecDepth 100000 in
theorem my_91 : mg_M 91 = some (mc_91, 1) := rfl
theorem ms_91 : mg_srt 0 mc_91 = true := by decide +kernel
set_option maxRecDepth 100000 in
theorem my_92 : mg_M 92 = some (mc_92, 2) := rfl
theorem ms_92 : mg_srt 0 mc_92 = true := by decide +kernel
set_option maxRecDepth 100000 in
theorem my_93 : mg_M 93 = some (mc_93, 1) := rfl
theorem ms_93 : mg_srt 0 mc_93 = true := by decide +kernel
set_option maxRecDepth 100000 in
theorem my_94 : mg_M 94 = some (mc_94, 2) := rfl
theorem ms_94 : mg_srt 0 mc_94 = true := by decide +kernel
set_option maxRecDepth 100000 in
theorem my_95 : mg_M 95 = some (mc_95, 1) := rfl
theorem ms_95 : mg_srt 0 mc_95 = true := by decide +kernel
set_option maxRecDepth 100000 in
theorem my_96 : mg_M 96 = some (mc_96, 3) := rfl
theorem ms_96 : mg_srt 0 mc_96 = true := by decide +kernel
set_option maxRecDepth 100000 in
theorem my_97 : mg_M 97 = some (mc_97, 3) := rfl
theorem ms_97 : mg_srt 0 mc_97 = true := by decide +kernel
set_option maxRecDepth 100000 in
theorem my_98 : mg_M 98 = some (mc_98, 1) := rfl
theorem ms_98 : mg_srt 0 mc_98 = true := by decide +kernel
set_option maxRecDepth 100000 in
theorem my_99 : mg_M 99 = some (mc_99, 1) := rfl
theorem ms_99 : mg_srt 0 mc_99 = true := by decide +kernel
set_option maxRecDepth 100000 in
theorem my_100 : mg_M 100 = some (mc_100, 2) := rfl
theorem ms_100 : mg_srt 0 mc_100 = true := by decide +kernel
set_option maxRecDepth 100000 in
theorem my_101 : mg_M 101 = some (mc_101, 2) := rfl
theorem ms_101 : mg_srt 0 mc_101 = true := by decide +kernel
set_option maxRecDepth 100000 in
theorem my_102 : mg_M 102 = some (mc_102, 5) := rfl
theorem ms_102 : mg_srt 0 mc_102 = true := by decide +kernel
set_option maxRecDepth 100000 in
theorem my_103 : mg_M 103 = some (mc_103, 1) := rfl
theorem ms_103 : mg_srt 0 mc_103 = true := by decide +kernel
set_option maxRecDepth 100000 in
theorem my_104 : mg_M 104 = some (mc_104, 6) := rfl
theorem ms_104 : mg_srt 0 mc_104 = true := by decide +kernel
set_option maxRecDepth 100000 in
theorem my_105 : mg_M 105 = some (mc_105, 2) := rfl
theorem ms_105 : mg_srt 0 mc_105 = true := by decide +kernel
set_option maxRecDepth 100000 in
theorem my_106 : mg_M 106 = some (mc_106, 2) := rfl
theorem ms_106 : mg_srt 0 mc_106 = true := by decide +kernel
set_option maxRecDepth 100000 in
theorem my_107 : mg_M 107 = some (mc_107, 1) := rfl
theorem ms_107 : mg_srt 0 mc_107 = true := by decide +kernel
set_option maxRecDepth 100000 in
theorem my_108 : mg_M 108 = some (mc_108, 1) := rfl
theorem ms_108 : mg_srt 0 mc_108 = true := by decide +kernel
set_option maxRecDepth 100000 in
theorem my_109 : mg_M 109 = some (mc_109, 2) := rfl
theorem ms_109 : mg_srt 0 mc_109 = true := by decide +kernel
set_option maxRecDepth 100000 in
theorem my_110 : mg_M 110 = some (mc_110, 3) := rfl
theorem ms_110 : mg_srt 0 mc_110 = true := by decide +kernel
set_option maxRecDepth 100000 in
theorem my_111 : mg_M 111 = some (mc_111, 2) := rfl
theorem ms_111 : mg_srt 0 mc_111 = true := by decide +kernel
set_option maxRecDepth 100000 in
theorem my_112 : mg_M 112 = some (mc_112, 3) := rfl
theorem ms_112 : mg_srt 0 mc_112 = true := by decide +kernel
set_option maxRecDepth 100000 in
theorem my_113 : mg_M 113 = some (mc_113, 2) := rfl
theorem ms_113 : mg_srt 0 mc_113 = true := by decide +kernel
set_option maxRecDepth 100000 in
theorem my_114 : mg_M 114 = some (mc_114, 3) := rfl
theorem ms_114 : mg_srt 0 mc_114 = true := by decide +kernel
set_option maxRecDepth 100000 in
theorem my_115 : mg_M 115 = some (mc_115, 3) := rfl
theorem ms_115 : mg_srt 0 mc_115 = true := by decide +kernel
set_option maxRecDepth 100000 in
theorem my_116 : mg_M 116 = some (mc_116, 4) := rfl
theorem ms_116 : mg_srt 0 mc_116 = true := by decide +kernel
set_option maxRecDepth 100000 in
theorem my_117 : mg_M 117 = some (mc_117, 2) := rfl
theorem ms_117 : mg_srt 0 mc_117 = true := by decide +kernel
set_option maxRecDepth 100000 in
theorem my_118 : mg_M 118 = some (mc_118, 5) := rfl
theorem ms_118 : mg_srt 0 mc_118 = true := by decide +kernel
set_option maxRecDepth 100000 in
theorem my_119 : mg_M 119 = some (mc_119, 3) := rfl
theorem ms_119 : mg_srt 0 mc_119 = true := by decide +kernel
set_option maxRecDepth 100000 in
theorem my_120 : mg_M 120 = some (mc_120, 3) := rfl
theorem ms_120 : mg_srt 0 mc_120 = true := by decide +kernel
set_option maxRecDepth 100000 in
theorem my_121 : mg_M 121 = some (mc_121, 3) := rfl
theorem ms_121 : mg_srt 0 mc_121 = true := by decide +kernel
set_option maxRecDepth 100000 in
theorem my_122 : mg_M 122 = some (mc_122, 2) := rfl
theorem ms_122 : mg_srt 0 mc_122 = true := by decide +kernel
set_option maxRecDepth 100000 in
theorem my_123 : mg_M 123 = some (mc_123, 3) := rfl
theorem ms_123 : mg_srt 0 mc_123 = true := by decide +kernel
set_option maxRecDepth 100000 in
theorem my_124 : mg_M 124 = some (mc_124, 3) := rfl
theorem ms_124 : mg_srt 0 mc_124 = true := by decide +kernel
set_option maxRecDepth 100000 in
theorem my_125 : mg_M 125 = some (mc_125, 2) := rfl
theorem ms_125 : mg_srt 0 mc_125 = true := by decide +kernel
set_option maxRecDepth 100000 in
theorem my_126 : mg_M 126 = some (mc_126, 3) := rfl
theorem ms_126 : mg_srt 0 mc_126 = true := by decide +kernel
set_option maxRecDepth 100000 in
theorem my_127 : mg_M 127 = some (mc_127, 3) := rfl
theorem ms_127 : mg_srt 0 mc_127 = true := by decide +kernel
set_option maxRecDepth 100000 in
theorem my_128 : mg_M 128 = some (mc_128, 3) := rfl
theorem ms_128 : mg_srt 0 mc_128 = true := by decide +kernel
set_option maxRecDepth 100000 in
theorem my_129 : mg_M 129 = some (mc_129, 3) := rfl
theorem ms_129 : mg_srt 0 mc_129 = true := by decide +kernel
set_option maxRecDepth 100000 in
theorem my_130 : mg_M 130 = some (mc_130, 3) := rfl
theorem ms_130 : mg_srt 0 mc_130 = true := by decide +kernel
set_option maxRecDepth 100000 in
theorem my_131 : mg_M 131 = some (mc_131, 3) := rfl
theorem ms_131 : mg_srt 0 mc_131 = true := by decide +kernel
set_option maxRecDepth 100000 in
theorem my_132 : mg_M 132 = some (mc_132, 4) := rfl
theorem ms_132 : mg_srt 0 mc_132 = true := by decide +kernel
set_option maxRecDepth 100000 in
theorem my_133 : mg_M 133 = some (mc_133, 3) := rfl
theorem ms_133 : mg_srt 0 mc_133 = true := by decide +kernel
set_option maxRecDepth 100000 in
theorem my_134 : mg_M 134 = some (mc_134, 2) := rfl
theorem ms_134 : mg_srt 0 mc_134 = true := by decide +kernel
set_option maxRecDepth 100000 in
theorem my_135 : mg_M 135 = some (mc_135, 2) := rfl
theorem ms_135 : mg_srt 0 mc_135 = true := by decide +kernel
set_option maxRecDepth 100000 in
theorem my_136 : mg_M 136 = some (mc_136, 4) := rfl
theorem ms_136 : mg_srt 0 mc_136 = true := by decide +kernel
set_option maxRecDepth 100000 in
theorem my_137 : mg_M 137 = some (mc_137, 4) := rfl
theorem ms_137 : mg_srt 0 mc_137 = true := by decide +kernel
set_option maxRecDepth 100000 in
theorem my_138 : mg_M 138 = some (mc_138, 2) := rfl
theorem ms_138 : mg_srt 0 mc_138 = true := by decide +kernel
set_option maxRecDepth 100000 in
theorem my_139 : mg_M 139 = some (mc_139, 4) := rfl
theorem ms_139 : mg_srt 0 mc_139 = true := by decide +kernel
set_option maxRecDepth 100000 in
theorem my_140 : mg_M 140 = some (mc_140, 4) := rfl
theorem ms_140 : mg_srt 0 mc_140 = true := by decide +kernel
set_option maxRecDepth 100000 in
theorem my_141 : mg_M 141 = some (mc_141, 4) := rfl
theorem ms_141 : mg_srt 0 mc_141 = true := by decide +kernel
set_option maxRecDepth 100000 in
theorem my_142 : mg_M 142 = some (mc_142, 3) := rfl
theorem ms_142 : mg_srt 0 mc_142 = true := by decide +kernel
set_option maxRecDepth 100000 in
theorem my_143 : mg_M 143 = some (mc_143, 2) := rfl
theorem ms_143 : mg_srt 0 mc_143 = true := by decide +kernel
set_option maxRecDepth 100000 in
theorem my_144 : mg_M 144 = some (mc_144, 3) := rfl
theorem ms_144 : mg_srt 0 mc_144 = true := by decide +kernel
set_option maxRecDepth 100000 in
theorem my_145 : mg_M 145 = some (mc_145, 2) := rfl
theorem ms_145 : mg_srt 0 mc_145 = true := by decide +kernel
set_option maxRecDepth 100000 in
theorem my_146 : mg_M 146 = some (mc_146, 1) := rfl
theorem ms_146 : mg_srt 0 mc_146 = true := by decide +kernel
set_option maxRecDepth 100000 in
theorem my_147 : mg_M 147 = some (mc_147, 4) := rfl
theorem ms_147 : mg_srt 0 mc_147 = true := by decide +kernel
set_option maxRecDepth 100000 in
theorem my_148 : mg_M 148 = some (mc_148, 4) := rfl
theorem ms_148 : mg_srt 0 mc_148 = true := by decide +kernel
set_option maxRecDepth 100000 in
theorem my_149 : mg_M 149 = some (mc_149, 2) := rfl
theorem ms_149 : mg_srt 0 mc_149 = true := by decide +kernel
set_option maxRecDepth 100000 in
theorem my_150 : mg_M 150 = some (mc_150, 1) := rfl
theorem ms_150 : mg_srt 0 mc_150 = true := by decide +kernel
set_option maxRecDepth 100000 in
theorem my_151 : mg_M 151 = some (mc_151, 2) := rfl
theorem ms_151 : mg_srt 0 mc_151 = true := by decide +kernel
set_option maxRecDepth 100000 in
theorem my_152 : mg_M 152 = some (mc_152, 2) := rfl
theorem ms_152 : mg_srt 0 mc_152 = true := by decide +kernel
set_option maxRecDepth 100000 in
theorem my_153 : mg_M 153 = some (mc_153, 3) := rfl
theorem ms_153 : mg_srt 0 mc_153 = true := by decide +kernel
set_option maxRecDepth 100000 in
theorem my_154 : mg_M 154 = some (mc_154, 2) := rfl
theorem ms_154 : mg_srt 0 mc_154 = true := by decide +kernel
set_option maxRecDepth 100000 in
theorem my_155 : mg_M 155 = some (mc_155, 2) := rfl
theorem ms_155 : mg_srt 0 mc_155 = true := by decide +kernel
set_option maxRecDepth 100000 in
theorem my_156 : mg_M 156 = some (mc_156, 2) := rfl
theorem ms_156 : mg_srt 0 mc_156 = true := by decide +kernel
set_option maxRecDepth 100000 in
theorem my_157 : mg_M 157 = some (mc_157, 2) := rfl
theorem ms_157 : mg_srt 0 mc_157 = true := by decide +kernel
set_option maxRecDepth 100000 in
theorem my_158 : mg_M 158 = some (mc_158, 2) := rfl
theorem ms_158 : mg_srt 0 mc_158 = true := by decide +kernel
set_option maxRecDepth 100000 in
theorem my_159 : mg_M 159 = some (mc_159, 2) := rfl
theorem ms_159 : mg_srt 0 mc_159 = true := by decide +kernel
set_option maxRecDepth 100000 in
theorem my_160 : mg_M 160 = some (mc_160, 2) := rfl
theorem ms_160 : mg_srt 0 mc_160 = true := by decide +kernel
set_option maxRecDepth 100000 in
theorem my_161 : mg_M 161 = some (mc_161, 2) := rfl
theorem ms_161 : mg_srt 0 mc_161 = true := by decide +kernel
set_option maxRecDepth 100000 in
theorem my_162 : mg_M 162 = some (mc_162, 1) := rfl
theorem ms_162 : mg_srt 0 mc_162 = true := by decide +kernel
set_option maxRecDepth 100000 in
theorem my_163 : mg_M 163 = some (mc_163, 1) := rfl
theorem ms_163 : mg_srt 0 mc_163 = true := by decide +kernel
set_option maxRecDepth 100000 in
theorem my_164 : mg_M 164 = some (mc_164, 2) := rfl
theorem ms_164 : mg_srt 0 mc_164 = true := by decide +kernel
set_option maxRecDepth 100000 in
theorem my_165 : mg_M 165 = some (mc_165, 1) := rfl
theorem ms_165 : mg_srt 0 mc_165 = true := by decide +kernel
set_option maxRecDepth 100000 in
theorem my_166 : mg_M 166 = some (mc_166, 3) := rfl
theorem ms_166 : mg_srt 0 mc_166 = true := by decide +kernel
set_option maxRecDepth 100000 in
theorem my_167 : mg_M 167 = some (mc_167, 3) := rfl
theorem ms_167 : mg_srt 0 mc_167 = true := by decide +kernel
set_option maxRecDepth 100000 in
theorem my_168 : mg_M 168 = some (mc_168, 3) := rfl
theorem ms_168 : mg_srt 0 mc_168 = true := by decide +kernel
set_option maxRecDepth 100000 in
theorem my_169 : mg_M 169 = some (mc_169, 4) := rfl
theorem ms_169 : mg_srt 0 mc_169 = true := by decide +kernel
set_option maxRecDepth 100000 in
theorem my_170 : mg_M 170 = some (mc_170, 4) := rfl
theorem ms_170 : mg_srt 0 mc_170 = true := by decide +kernel
set_option maxRecDepth 100000 in
theorem my_171 : mg_M 171 = some (mc_171, 2) := rfl
theorem ms_171 : mg_srt 0 mc_171 = true := by decide +kernel
set_option maxRecDepth 100000 in
theorem my_172 : mg_M 172 = some (mc_172, 5) := rfl
theorem ms_172 : mg_srt 0 mc_172 = true := by decide +kernel
set_option maxRecDepth 100000 in
theorem my_173 : mg_M 173 = some (mc_173, 5) := rfl
theorem ms_173 : mg_srt 0 mc_173 = true := by decide +kernel
set_option maxRecDepth 100000 in
theorem my_174 : mg_M 174 = some (mc_174, 1) := rfl
theorem ms_174 : mg_srt 0 mc_174 = true := by decide +kernel
set_option maxRecDepth 100000 in
theorem my_175 : mg_M 175 = some (mc_175, 3) := rfl
theorem ms_175 : mg_srt 0 mc_175 = true := by decide +kernel
set_option maxRecDepth 100000 in
theorem my_176 : mg_M 176 = some (mc_176, 4) := rfl
theorem ms_176 : mg_srt 0 mc_176 = true := by decide +kernel
set_option maxRecDepth 100000 in
theorem my_177 : mg_M 177 = some (mc_177, 3) := rfl
theorem ms_177 : mg_srt 0 mc_177 = true := by decide +kernel
set_option maxRecDepth 100000 in
theorem my_178 : mg_M 178 = some (mc_178, 1) := rfl
theorem ms_178 : mg_srt 0 mc_178 = true := by decide +kernel
set_option maxRecDepth 100000 in
theorem my_179 : mg_M 179 = some (mc_179, 1) := rfl
theorem ms_179 : mg_srt 0 mc_179 = true := by decide +kernel
set_option maxRecDepth 100000 in
theorem my_180 : mg_M 180 = some (mc_180, 2) := rfl
theorem ms_180 : mg_srt 0 mc_180 = true := by decide +kernel
set_option maxRecDepth 100000 in
theorem my_181 : mg_M 181 = some (mc_181, 2) := rfl
theorem ms_181 : mg_srt 0 mc_181 = true := by decide +kernel
set_option maxRecDepth 100000 in
theorem my_182 : mg_M 182 = some (mc_182, 2) := rfl
theorem ms_182 : mg_srt 0 mc_182 = true := by decide +kernel
set_option maxRecDepth 100000 in
theorem my_183 : mg_M 183 = some (mc_183, 1) := rfl
theorem ms_183 : mg_srt 0 mc_183 = true := by decide +kernel
set_option maxRecDepth 100000 in
theorem my_184 : mg_M 184 = some (mc_184, 4) := rfl
theorem ms_184 : mg_srt 0 mc_184 = true := by decide +kernel
set_option maxRecDepth 100000 in
theorem my_185 : mg_M 185 = some (mc_185, 3) := rfl
theorem ms_185 : mg_srt 0 mc_185 = true := by decide +kernel
set_option maxRecDepth 100000 in
theorem my_186 : mg_M 186 = some (mc_186, 3) := rfl
theorem ms_186 : mg_srt 0 mc_186 = true := by decide +kernel
set_option maxRecDepth 100000 in
theorem my_187 : mg_M 187 = some (mc_187, 9) := rfl
theorem ms_187 : mg_srt 0 mc_187 = true := by decide +kernel
set_option maxRecDepth 100000 in
theorem my_188 : mg_M 188 = some (mc_188, 15) := rfl
theorem ms_188 : mg_srt 0 mc_188 = true := by decide +kernel
set_option maxRecDepth 100000 in
theorem my_189 : mg_M 189 = some (mc_189, 3) := rfl
theorem ms_189 : mg_srt 0 mc_189 = true := by decide +kernel
set_option maxRecDepth 100000 in
theorem my_190 : mg_M 190 = some (mc_190, 5) := rfl
theorem ms_190 : mg_srt 0 mc_190 = true := by decide +kernel
set_option maxRecDepth 100000 in
theorem my_191 : mg_M 191 = some (mc_191, 4) := rfl
theorem ms_191 : mg_srt 0 mc_191 = true := by decide +kernel
set_option maxRecDepth 100000 in
theorem my_192 : mg_M 192 = some (mc_192, 3) := rfl
theorem ms_192 : mg_srt 0 mc_192 = true := by decide +kernel
set_option maxRecDepth 100000 in
theorem my_193 : mg_M 193 = some (mc_193, 4) := rfl
theorem ms_193 : mg_srt 0 mc_193 = true := by decide +kernel
set_option maxRecDepth 100000 in
theorem my_194 : mg_M 194 = some (mc_194, 2) := rfl
theorem ms_194 : mg_srt 0 mc_194 = true := by decide +kernel
set_option maxRecDepth 100000 in
theorem my_195 : mg_M 195 = some (mc_195, 2) := rfl
theorem ms_195 : mg_srt 0 mc_195 = true := by decide +kernel
set_option maxRecDepth 100000 in
theorem my_196 : mg_M 196 = some (mc_196, 10) := rfl
theorem ms_196 : mg_srt 0 mc_196 = true := by decide +kernel
set_option maxRecDepth 100000 in
theorem my_197 : mg_M 197 = some (mc_197, 11) := rfl
theorem ms_197 : mg_srt 0 mc_197 = true := by decide +kernel
set_option maxRecDepth 100000 in
theorem my_198 : mg_M 198 = some (mc_198, 14) := rfl
theorem ms_198 : mg_srt 0 mc_198 = true := by decide +kernel
set_option maxRecDepth 100000 in
theorem my_199 : mg_M 199 = some (mc_199, 11) := rfl
theorem ms_199 : mg_srt 0 mc_199 = true := by decide +kernel
set_option maxRecDepth 100000 in
theorem my_200 : mg_M 200 = some (mc_200, 2) := rfl
theorem ms_200 : mg_srt 0 mc_200 = true := by decide +kernel
set_option maxRecDepth 100000 in
theorem my_201 : mg_M 201 = some (mc_201, 1) := rfl
theorem ms_201 : mg_srt 0 mc_201 = true := by decide +kernel
set_option maxRecDepth 100000 in
theorem my_202 : mg_M 202 = some (mc_202, 3) := rfl
theorem ms_202 : mg_srt 0 mc_202 = true := by decide +kernel
set_option maxRecDepth 100000 in
theorem my_203 : mg_M 203 = some (mc_203, 4) := rfl
theorem ms_203 : mg_srt 0 mc_203 = true := by decide +kernel
set_option maxRecDepth 100000 in
theorem my_204 : mg_M 204 = some (mc_204, 4) := rfl
theorem ms_204 : mg_srt 0 mc_204 = true := by decide +kernel
set_option maxRecDepth 100000 in
theorem my_205 : mg_M 205 = some (mc_205, 3) := rfl
theorem ms_205 : mg_srt 0 mc_205 = true := by decide +kernel
set_option maxRecDepth 100000 in
theorem my_206 : mg_M 206 = some (mc_206, 6) := rfl
theorem ms_206 : mg_srt 0 mc_206 = true := by decide +kernel
set_option maxRecDepth 100000 in
theorem my_207 : mg_M 207 = some (mc_207, 2) := rfl
theorem ms_207 : mg_srt 0 mc_207 = true := by decide +kernel
set_option maxRecDepth 100000 in
theorem my_208 : mg_M 208 = some (mc_208, 1) := rfl
theorem ms_208 : mg_srt 0 mc_208 = true := by decide +kernel
set_option maxRecDepth 100000 in
theorem my_209 : mg_M 209 = some (mc_209, 1) := rfl
theorem ms_209 : mg_srt 0 mc_209 = true := by decide +kernel
set_option maxRecDepth 100000 in
theorem my_210 : mg_M 210 = some (mc_210, 1) := rfl
theorem ms_210 : mg_srt 0 mc_210 = true := by decide +kernel
set_option maxRecDepth 100000 in
theorem my_211 : mg_M 211 = some (mc_211, 1) := rfl
theorem ms_211 : mg_srt 0 mc_211 = true := by decide +kernel
set_option maxRecDepth 100000 in
theorem my_212 : mg_M 212 = some (mc_212, 2) := rfl
theorem ms_212 : mg_srt 0 mc_212 = true := by decide +kernel
set_option maxRecDepth 100000 in
theorem my_213 : mg_M 213 = some (mc_213, 3) := rfl
theorem ms_213 : mg_srt 0 mc_213 = true := by decide +kernel
set_option maxRecDepth 100000 in
theorem my_214 : mg_M 214 = some (mc_214, 2) := rfl
theorem ms_214 : mg_srt 0 mc_214 = true := by decide +kernel
set_option maxRecDepth 100000 in
theorem my_215 : mg_M 215 = some (mc_215, 2) := rfl
theorem ms_215 : mg_srt 0 mc_215 = true := by decide +kernel
set_option maxRecDepth 100000 in
theorem my_216 : mg_M 216 = some (mc_216, 1) := rfl
theorem ms_216 : mg_srt 0 mc_216 = true := by decide +kernel
set_option maxRecDepth 100000 in
theorem my_217 : mg_M 217 = some (mc_217, 1) := rfl
theorem ms_217 : mg_srt 0 mc_217 = true := by decide +kernel
set_option maxRecDepth 100000 in
theorem my_218 : mg_M 218 = some (mc_218, 3) := rfl
theorem ms_218 : mg_srt 0 mc_218 = true := by decide +kernel
set_option maxRecDepth 100000 in
theorem my_219 : mg_M 219 = some (mc_219, 2) := rfl
theorem ms_219 : mg_srt 0 mc_219 = true := by decide +kernel
set_option maxRecDepth 100000 in
theorem my_220 : mg_M 220 = some (mc_220, 2) := rfl
theorem ms_220 : mg_srt 0 mc_220 = true := by decide +kernel
set_option maxRecDepth 100000 in
theorem my_221 : mg_M 221 = some (mc_221, 3) := rfl
theorem ms_221 : mg_srt 0 mc_221 = true := by decide +kernel
set_option maxRecDepth 100000 in
theorem my_222 : mg_M 222 = some (mc_222, 1) := rfl
theorem ms_222 : mg_srt 0 mc_222 = true := by decide +kernel
set_option maxRecDepth 100000 in
theorem my_223 : mg_M 223 = some (mc_223, 3) := rfl
theorem ms_223 : mg_srt 0 mc_223 = true := by decide +kernel
set_option maxRecDepth 100000 in
theorem my_224 : mg_M 224 = some (mc_224, 3) := rfl
theorem ms_224 : mg_srt 0 mc_224 = true := by decide +kernel
set_option maxRecDepth 100000 in
theorem my_225 : mg_M 225 = some (mc_225, 4) := rfl
theorem ms_225 : mg_srt 0 mc_225 = true := by decide +kernel
set_option maxRecDepth 100000 in
theorem my_226 : mg_M 226 = some (mc_226, 5) := rfl
theorem ms_226 : mg_srt 0 mc_226 = true := by decide +kernel
set_option maxRecDepth 100000 in
theorem my_227 : mg_M 227 = some (mc_227, 3) := rfl
theorem ms_227 : mg_srt 0 mc_227 = true := by decide +kernel
set_option maxRecDepth 100000 in
theorem my_228 : mg_M 228 = some (mc_228, 3) := rfl
theorem ms_228 : mg_srt 0 mc_228 = true := by decide +kernel
set_option maxRecDepth 100000 in
theorem my_229 : mg_M 229 = some (mc_229, 2) := rfl
theorem ms_229 : mg_srt 0 mc_229 = true := by decide +kernel
set_option maxRecDepth 100000 in
theorem my_230 : mg_M 230 = some (mc_230, 17) := rfl
theorem ms_230 : mg_srt 0 mc_230 = true := by decide +kernel
set_option maxRecDepth 100000 in
theorem my_231 : mg_M 231 = some (mc_231, 1) := rfl
theorem ms_231 : mg_srt 0 mc_231 = true := by decide +kernel
set_option maxRecDepth 100000 in
theorem my_232 : mg_M 232 = some (mc_232, 1) := rfl
theorem ms_232 : mg_srt 0 mc_232 = true := by decide +kernel
set_option maxRecDepth 100000 in
theorem my_233 : mg_M 233 = some (mc_233, 1) := rfl
theorem ms_233 : mg_srt 0 mc_233 = true := by decide +kernel
set_option maxRecDepth 100000 in
theorem my_234 : mg_M 234 = some (mc_234, 1) := rfl
theorem ms_234 : mg_srt 0 mc_234 = true := by decide +kernel
set_option maxRecDepth 100000 in
theorem my_235 : mg_M 235 = some (mc_235, 1) := rfl
theorem ms_235 : mg_srt 0 mc_235 = true := by decide +kernel
set_option maxRecDepth 100000 in
theorem my_236 : mg_M 236 = some (mc_236, 1) := rfl
theorem ms_236 : mg_srt 0 mc_236 = true := by decide +kernel
set_option maxRecDepth 100000 in
theorem my_237 : mg_M 237 = some (mc_237, 1) := rfl
theorem ms_237 : mg_srt 0 mc_237 = true := by decide +kernel
set_option maxRecDepth 100000 in
theorem my_238 : mg_M 238 = some (mc_238, 3) := rfl
theorem ms_238 : mg_srt 0 mc_238 = true := by decide +kernel
set_option maxRecDepth 100000 in
theorem my_239 : mg_M 239 = some (mc_239, 1) := rfl
theorem ms_239 : mg_srt 0 mc_239 = true := by decide +kernel
set_option maxRecDepth 100000 in
theorem my_240 : mg_M 240 = some (mc_240, 3) := rfl
theorem ms_240 : mg_srt 0 mc_240 = true := by decide +kernel
set_option maxRecDepth 100000 in
theorem my_241 : mg_M 241 = some (mc_241, 1) := rfl
theorem ms_241 : mg_srt 0 mc_241 = true := by decide +kernel
set_option maxRecDepth 100000 in
theorem my_242 : mg_M 242 = some (mc_242, 3) := rfl
theorem ms_242 : mg_srt 0 mc_242 = true := by decide +kernel
set_option maxRecDepth 100000 in
theorem my_243 : mg_M 243 = some (mc_243, 1) := rfl
theorem ms_243 : mg_srt 0 mc_243 = true := by decide +kernel
set_option maxRecDepth 100000 in
theorem my_244 : mg_M 244 = some (mc_244, 2) := rfl
theorem ms_244 : mg_srt 0 mc_244 = true := by decide +kernel
set_option maxRecDepth 100000 in
theorem my_245 : mg_M 245 = some (mc_245, 2) := rfl
theorem ms_245 : mg_srt 0 mc_245 = true := by decide +kernel
set_option maxRecDepth 100000 in
theorem my_246 : mg_M 246 = some (mc_246, 2) := rfl
theorem ms_246 : mg_srt 0 mc_246 = true := by decide +kernel
set_option maxRecDepth 100000 in
theorem my_247 : mg_M 247 = some (mc_247, 3) := rfl
theorem ms_247 : mg_srt 0 mc_247 = true := by decide +kernel
set_option maxRecDepth 100000 in
theorem my_248 : mg_M 248 = some (mc_248, 2) := rfl
theorem ms_248 : mg_srt 0 mc_248 = true := by decide +kernel
set_option maxRecDepth 100000 in
theorem my_249 : mg_M 249 = some (mc_249, 1) := rfl
theorem ms_249 : mg_srt 0 mc_249 = true := by decide +kernel
set_option maxRecDepth 100000 in
theorem my_250 : mg_M 250 = some (mc_250, 1) := rfl
theorem ms_250 : mg_srt 0 mc_250 = true := by decide +kernel
set_option maxRecDepth 100000 in
theorem my_251 : mg_M 251 = some (mc_251, 1) := rfl
theorem ms_251 : mg_srt 0 mc_251 = true := by decide +kernel
set_option maxRecDepth 100000 in
theorem my_252 : mg_M 252 = some (mc_252, 2) := rfl
theorem ms_252 : mg_srt 0 mc_252 = true := by decide +kernel
set_option maxRecDepth 100000 in
theorem my_253 : mg_M 253 = some (mc_253, 2) := rfl
theorem ms_253 : mg_srt 0 mc_253 = true := by decide +kernel
set_option maxRecDepth 100000 in
theorem my_254 : mg_M 254 = some (mc_254, 1) := rfl
theorem ms_254 : mg_srt 0 mc_254 = true := by decide +kernel
set_option maxRecDepth 100000 in
theorem my_255 : mg_M 255 = some (mc_255, 1) := rfl
theorem ms_255 : mg_srt 0 mc_255 = true := by decide +kernel
set_option maxRecDepth 100000 in
theorem my_256 : mg_M 256 = some (mc_256, 3) := rfl
theorem ms_256 : mg_srt 0 mc_256 = true := by decide +kernel
set_option maxRecDepth 100000 in
theorem my_257 : mg_M 257 = some (mc_257, 4) := rfl
theorem ms_257 : mg_srt 0 mc_257 = true := by decide +kernel
set_option maxRecDepth 100000 in
theorem my_258 : mg_M 258 = some (mc_258, 4) := rfl
theorem ms_258 : mg_srt 0 mc_258 = true := by decide +kernel
set_option maxRecDepth 100000 in
theorem my_259 : mg_M 259 = some (mc_259, 3) := rfl
theorem ms_259 : mg_srt 0 mc_259 = true := by decide +kernel
set_option maxRecDepth 100000 in
theorem my_260 : mg_M 260 = some (mc_260, 4) := rfl
theorem ms_260 : mg_srt 0 mc_260 = true := by decide +kernel
set_option maxRecDepth 100000 in
theorem my_261 : mg_M 261 = some (mc_261, 5) := rfl
theorem ms_261 : mg_srt 0 mc_261 = true := by decide +kernel
set_option maxRecDepth 100000 in
theorem my_262 : mg_M 262 = some (mc_262, 2) := rfl
theorem ms_262 : mg_srt 0 mc_262 = true := by decide +kernel
set_option maxRecDepth 100000 in
theorem my_263 : mg_M 263 = some (mc_263, 4) := rfl
theorem ms_263 : mg_srt 0 mc_263 = true := by decide +kernel
set_option maxRecDepth 100000 in
theorem my_264 : mg_M 264 = some (mc_264, 3) := rfl
theorem ms_264 : mg_srt 0 mc_264 = true := by decide +kernel
set_option maxRecDepth 100000 in
theorem my_265 : mg_M 265 = some (mc_265, 4) := rfl
theorem ms_265 : mg_srt 0 mc_265 = true := by decide +kernel
set_option maxRecDepth 100000 in
theorem my_266 : mg_M 266 = some (mc_266, 2) := rfl
theorem ms_266 : mg_srt 0 mc_266 = true := by decide +kernel
set_option maxRecDepth 100000 in
theorem my_267 : mg_M 267 = some (mc_267, 5) := rfl
theorem ms_267 : mg_srt 0 mc_267 = true := by decide +kernel
set_option maxRecDepth 100000 in
theorem my_268 : mg_M 268 = some (mc_268, 3) := rfl
theorem ms_268 : mg_srt 0 mc_268 = true := by decide +kernel
set_option maxRecDepth 100000 in
theorem my_269 : mg_M 269 = some (mc_269, 5) := rfl
theorem ms_269 : mg_srt 0 mc_269 = true := by decide +kernel
set_option maxRecDepth 100000 in
theorem my_270 : mg_M 270 = some (mc_270, 4) := rfl
theorem ms_270 : mg_srt 0 mc_270 = true := by decide +kernel
set_option maxRecDepth 100000 in
theorem my_271 : mg_M 271 = some (mc_271, 2) := rfl
theorem ms_271 : mg_srt 0 mc_271 = true := by decide +kernel
set_option maxRecDepth 100000 in
theorem my_272 : mg_M 272 = some (mc_272, 6) := rfl
theorem ms_272 : mg_srt 0 mc_272 = true := by decide +kernel
set_option maxRecDepth 100000 in
theorem my_273 : mg_M 273 = some (mc_273, 5) := rfl
theorem ms_273 : mg_srt 0 mc_273 = true := by decide +kernel
set_option maxRecDepth 100000 in
theorem my_274 : mg_M 274 = some (mc_274, 3) := rfl
theorem ms_274 : mg_srt 0 mc_274 = true := by decide +kernel
set_option maxRecDepth 100000 in
theorem my_275 : mg_M 275 = some (mc_275, 3) := rfl
theorem ms_275 : mg_srt 0 mc_275 = true := by decide +kernel
set_option maxRecDepth 100000 in
theorem my_276 : mg_M 276 = some (mc_276, 6) := rfl
theorem ms_276 : mg_srt 0 mc_276 = true := by decide +kernel
set_option maxRecDepth 100000 in
theorem my_277 : mg_M 277 = some (mc_277, 4) := rfl
theorem ms_277 : mg_srt 0 mc_277 = true := by decide +kernel
set_option maxRecDepth 100000 in
theorem my_278 : mg_M 278 = some (mc_278, 4) := rfl
theorem ms_278 : mg_srt 0 mc_278 = true := by decide +kernel
set_option maxRecDepth 100000 in
theorem my_279 : mg_M 279 = some (mc_279, 2) := rfl
theorem ms_279 : mg_srt 0 mc_279 = true := by decide +kernel
set_option maxRecDepth 100000 in
theorem my_280 : mg_M 280 = some (mc_280, 4) := rfl
theorem ms_280 : mg_srt 0 mc_280 = true := by decide +kernel
set_option maxRecDepth 100000 in
theorem my_281 : mg_M 281 = some (mc_281, 4) := rfl
theorem ms_281 : mg_srt 0 mc_281 = true := by decide +kernel
set_option maxRecDepth 100000 in
theorem my_282 : mg_M 282 = some (mc_282, 3) := rfl
theorem ms_282 : mg_srt 0 mc_282 = true := by decide +kernel
set_option maxRecDepth 100000 in
theorem my_283 : mg_M 283 = some (mc_283, 3) := rfl
theorem ms_283 : mg_srt 0 mc_283 = true := by decide +kernel
set_option maxRecDepth 100000 in
theorem my_284 : mg_M 284 = some (mc_284, 4) := rfl
theorem ms_284 : mg_srt 0 mc_284 = true := by decide +kernel
set_option maxRecDepth 100000 in
theorem my_285 : mg_M 285 = some (mc_285, 2) := rfl
theorem ms_285 : mg_srt 0 mc_285 = true := by decide +kernel
set_option maxRecDepth 100000 in
theorem my_286 : mg_M 286 = some (mc_286, 3) := rfl
theorem ms_286 : mg_srt 0 mc_286 = true := by decide +kernel
set_option maxRecDepth 100000 in
theorem my_287 : mg_M 287 = some (mc_287, 4) := rfl
theorem ms_287 : mg_srt 0 mc_287 = true := by decide +kernel
set_option maxRecDepth 100000 in
theorem my_288 : mg_M 288 = some (mc_288, 4) := rfl
theorem ms_288 : mg_srt 0 mc_288 = true := by decide +kernel
set_option maxRecDepth 100000 in
theorem my_289 : mg_M 289 = some (mc_289, 3) := rfl
theorem ms_289 : mg_srt 0 mc_289 = true := by decide +kernel
set_option maxRecDepth 100000 in
theorem my_290 : mg_M 290 = some (mc_290, 5) := rfl
theorem ms_290 : mg_srt 0 mc_290 = true := by decide +kernel
set_option maxRecDepth 100000 in
theorem my_291 : mg_M 291 = some (mc_291, 2) := rfl
theorem ms_291 : mg_srt 0 mc_291 = true := by decide +kernel
set_option maxRecDepth 100000 in
theorem my_292 : mg_M 292 = some (mc_292, 7) := rfl
theorem ms_292 : mg_srt 0 mc_292 = true := by decide +kernel
set_option maxRecDepth 100000 in
theorem my_293 : mg_M 293 = some (mc_293, 3) := rfl
theorem ms_293 : mg_srt 0 mc_293 = true := by decide +kernel
set_option maxRecDepth 100000 in
theorem my_294 : mg_M 294 = some (mc_294, 1) := rfl
theorem ms_294 : mg_srt 0 mc_294 = true := by decide +kernel
set_option maxRecDepth 100000 in
theorem my_295 : mg_M 295 = some (mc_295, 4) := rfl
theorem ms_295 : mg_srt 0 mc_295 = true := by decide +kernel
set_option maxRecDepth 100000 in
theorem my_296 : mg_M 296 = some (mc_296, 5) := rfl
theorem ms_296 : mg_srt 0 mc_296 = true := by decide +kernel
set_option maxRecDepth 100000 in
theorem my_297 : mg_M 297 = some (mc_297, 3) := rfl
theorem ms_297 : mg_srt 0 mc_297 = true := by decide +kernel
set_option maxRecDepth 100000 in
theorem my_298 : mg_M 298 = some (mc_298, 7) := rfl
theorem ms_298 : mg_srt 0 mc_298 = true := by decide +kernel
set_option maxRecDepth 100000 in
theorem my_299 : mg_M 299 = some (mc_299, 4) := rfl
theorem ms_299 : mg_srt 0 mc_299 = true := by decide +kernel
set_option maxRecDepth 100000 in
theorem my_300 : mg_M 300 = some (mc_300, 3) := rfl
theorem ms_300 : mg_srt 0 mc_300 = true := by decide +kernel
set_option maxRecDepth 100000 in
theorem my_301 : mg_M 301 = some (mc_301, 4) := rfl
theorem ms_301 : mg_srt 0 mc_301 = true := by decide +kernel
set_option maxRecDepth 100000 in
theorem my_302 : mg_M 302 = some (mc_302, 3) := rfl
theorem ms_302 : mg_srt 0 mc_302 = true := by decide +kernel
set_option maxRecDepth 100000 in
theorem my_303 : mg_M 303 = some (mc_303, 2) := rfl
theorem ms_303 : mg_srt 0 mc_303 = true := by decide +kernel
set_option maxRecDepth 100000 in
theorem my_304 : mg_M 304 = some (mc_304, 2) := rfl
theorem ms_304 : mg_srt 0 mc_304 = true := by decide +kernel
set_option maxRecDepth 100000 in
theorem my_305 : mg_M 305 = some (mc_305, 3) := rfl
theorem ms_305 : mg_srt 0 mc_305 = true := by decide +kernel
set_option maxRecDepth 100000 in
theorem my_306 : mg_M 306 = some (mc_306, 1) := rfl
theorem ms_306 : mg_srt 0 mc_306 = true := by decide +kernel
set_option maxRecDepth 100000 in
theorem my_307 : mg_M 307 = some (mc_307, 4) := rfl
theorem ms_307 : mg_srt 0 mc_307 = true := by decide +kernel
set_option maxRecDepth 100000 in
theorem my_308 : mg_M 308 = some (mc_308, 4) := rfl
theorem ms_308 : mg_srt 0 mc_308 = true := by decide +kernel
set_option maxRecDepth 100000 in
theorem my_309 : mg_M 309 = some (mc_309, 2) := rfl
theorem ms_309 : mg_srt 0 mc_309 = true := by decide +kernel
set_option maxRecDepth 100000 in
theorem my_310 : mg_M 310 = some (mc_310, 5) := rfl
theorem ms_310 : mg_srt 0 mc_310 = true := by decide +kernel
set_option maxRecDepth 100000 in
theorem my_311 : mg_M 311 = some (mc_311, 4) := rfl
theorem ms_311 : mg_srt 0 mc_311 = true := by decide +kernel
set_option maxRecDepth 100000 in
theorem my_312 : mg_M 312 = some (mc_312, 5) := rfl
theorem ms_312 : mg_srt 0 mc_312 = true := by decide +kernel
set_option maxRecDepth 100000 in
theorem my_313 : mg_M 313 = some (mc_313, 4) := rfl
theorem ms_313 : mg_srt 0 mc_313 = true := by decide +kernel
set_option maxRecDepth 100000 in
theorem my_314 : mg_M 314 = some (mc_314, 3) := rfl
theorem ms_314 : mg_srt 0 mc_314 = true := by decide +kernel
set_option maxRecDepth 100000 in
theorem my_315 : mg_M 315 = some (mc_315, 2) := rfl
theorem ms_315 : mg_srt 0 mc_315 = true := by decide +kernel
set_option maxRecDepth 100000 in
theorem my_316 : mg_M 316 = some (mc_316, 3) := rfl
theorem ms_316 : mg_srt 0 mc_316 = true := by decide +kernel
set_option maxRecDepth 100000 in
theorem my_317 : mg_M 317 = some (mc_317, 2) := rfl
theorem ms_317 : mg_srt 0 mc_317 = true := by decide +kernel
set_option maxRecDepth 100000 in
theorem my_318 : mg_M 318 = some (mc_318, 1) := rfl
theorem ms_318 : mg_srt 0 mc_318 = true := by decide +kernel
set_option maxRecDepth 100000 in
theorem my_319 : mg_M 319 = some (mc_319, 4) := rfl
theorem ms_319 : mg_srt 0 mc_319 = true := by decide +kernel
set_option maxRecDepth 100000 in
theorem my_320 : mg_M 320 = some (mc_320, 4) := rfl
theorem ms_320 : mg_srt 0 mc_320 = true := by decide +kernel
set_option maxRecDepth 100000 in
theorem my_321 : mg_M 321 = some (mc_321, 1) := rfl
theorem ms_321 : mg_srt 0 mc_321 = true := by decide +kernel
set_option maxRecDepth 100000 in
theorem my_322 : mg_M 322 = some (mc_322, 2) := rfl
theorem ms_322 : mg_srt 0 mc_322 = true := by decide +kernel
set_option maxRecDepth 100000 in
theorem my_323 : mg_M 323 = some (mc_323, 3) := rfl
theorem ms_323 : mg_srt 0 mc_323 = true := by decide +kernel
set_option maxRecDepth 100000 in
theorem my_324 : mg_M 324 = some (mc_324, 2) := rfl
theorem ms_324 : mg_srt 0 mc_324 = true := by decide +kernel
set_option maxRecDepth 100000 in
theorem my_325 : mg_M 325 = some (mc_325, 2) := rfl
theorem ms_325 : mg_srt 0 mc_325 = true := by decide +kernel
set_option maxRecDepth 100000 in
theorem my_326 : mg_M 326 = some (mc_326, 3) := rfl
theorem ms_326 : mg_srt 0 mc_326 = true := by decide +kernel
set_option maxRecDepth 100000 in
theorem my_327 : mg_M 327 = some (mc_327, 3) := rfl
theorem ms_327 : mg_srt 0 mc_327 = true := by decide +kernel
set_option maxRecDepth 100000 in
theorem my_328 : mg_M 328 = some (mc_328, 2) := rfl
theorem ms_328 : mg_srt 0 mc_328 = true := by decide +kernel
set_option maxRecDepth 100000 in
theorem my_329 : mg_M 329 = some (mc_329, 2) := rfl
theorem ms_329 : mg_srt 0 mc_329 = true := by decide +kernel
set_option maxRecDepth 100000 in
theorem my_330 : mg_M 330 = some (mc_330, 1) := rfl
theorem ms_330 : mg_srt 0 mc_330 = true := by decide +kernel
set_option maxRecDepth 100000 in
theorem my_331 : mg_M 331 = some (mc_331, 1) := rfl
theorem ms_331 : mg_srt 0 mc_331 = true := by decide +kernel
set_option maxRecDepth 100000 in
theorem my_332 : mg_M 332 = some (mc_332, 2) := rfl
theorem ms_332 : mg_srt 0 mc_332 = true := by decide +kernel
set_option maxRecDepth 100000 in
theorem my_333 : mg_M 333 = some (mc_333, 1) := rfl
theorem ms_333 : mg_srt 0 mc_333 = true := by decide +kernel
set_option maxRecDepth 100000 in
theorem my_334 : mg_M 334 = some (mc_334, 1) := rfl
theorem ms_334 : mg_srt 0 mc_334 = true := by decide +kernel
set_option maxRecDepth 100000 in
theorem my_335 : mg_M 335 = some (mc_335, 2) := rfl
theorem ms_335 : mg_srt 0 mc_335 = true := by decide +kernel
set_option maxRecDepth 100000 in
theorem my_336 : mg_M 336 = some (mc_336, 2) := rfl
theorem ms_336 : mg_srt 0 mc_336 = true := by decide +kernel
set_option maxRecDepth 100000 in
theorem my_337 : mg_M 337 = some (mc_337, 2) := rfl
theorem ms_337 : mg_srt 0 mc_337 = true := by decide +kernel
set_option maxRecDepth 100000 in
theorem my_338 : mg_M 338 = some (mc_338, 1) := rfl
theorem ms_338 : mg_srt 0 mc_338 = true := by decide +kernel
set_option maxRecDepth 100000 in
theorem my_339 : mg_M 339 = some (mc_339, 2) := rfl
theorem ms_339 : mg_srt 0 mc_339 = true := by decide +kernel
set_option maxRecDepth 100000 in
theorem my_340 : mg_M 340 = some (mc_340, 2) := rfl
theorem ms_340 : mg_srt 0 mc_340 = true := by decide +kernel
set_option maxRecDepth 100000 in
theorem my_341 : mg_M 341 = some (mc_341, 4) := rfl
theorem ms_341 : mg_srt 0 mc_341 = true := by decide +kernel
set_option maxRecDepth 100000 in
theorem my_342 : mg_M 342 = some (mc_342, 3) := rfl
theorem ms_342 : mg_srt 0 mc_342 = true := by decide +kernel
set_option maxRecDepth 100000 in
theorem my_343 : mg_M 343 = some (mc_343, 8) := rfl
theorem ms_343 : mg_srt 0 mc_343 = true := by decide +kernel
set_option maxRecDepth 100000 in
theorem my_344 : mg_M 344 = some (mc_344, 4) := rfl
theorem ms_344 : mg_srt 0 mc_344 = true := by decide +kernel
set_option maxRecDepth 100000 in
theorem my_345 : mg_M 345 = some (mc_345, 3) := rfl
theorem ms_345 : mg_srt 0 mc_345 = true := by decide +kernel
set_option maxRecDepth 100000 in
theorem my_346 : mg_M 346 = some (mc_346, 4) := rfl
theorem ms_346 : mg_srt 0 mc_346 = true := by decide +kernel
set_option maxRecDepth 100000 in
theorem my_347 : mg_M 347 = some (mc_347, 5) := rfl
theorem ms_347 : mg_srt 0 mc_347 = true := by decide +kernel
set_option maxRecDepth 100000 in
theorem my_348 : mg_M 348 = some (mc_348, 4) := rfl
theorem ms_348 : mg_srt 0 mc_348 = true := by decide +kernel
set_option maxRecDepth 100000 in
theorem my_349 : mg_M 349 = some (mc_349, 5) := rfl
theorem ms_349 : mg_srt 0 mc_349 = true := by decide +kernel
set_option maxRecDepth 100000 in
theorem my_350 : mg_M 350 = some (mc_350, 3) := rfl
theorem ms_350 : mg_srt 0 mc_350 = true := by decide +kernel
set_option maxRecDepth 100000 in
theorem my_351 : mg_M 351 = some (mc_351, 5) := rfl
theorem ms_351 : mg_srt 0 mc_351 = true := by decide +kernel
set_option maxRecDepth 100000 in
theorem my_352 : mg_M 352 = some (mc_352, 5) := rfl
theorem ms_352 : mg_srt 0 mc_352 = true := by decide +kernel
set_option maxRecDepth 100000 in
theorem my_353 : mg_M 353 = some (mc_353, 5) := rfl
theorem ms_353 : mg_srt 0 mc_353 = true := by decide +kernel
set_option maxRecDepth 100000 in
theorem my_354 : mg_M 354 = some (mc_354, 4) := rfl
theorem ms_354 : mg_srt 0 mc_354 = true := by decide +kernel
set_option maxRecDepth 100000 in
theorem my_355 : mg_M 355 = some (mc_355, 5) := rfl
theorem ms_355 : mg_srt 0 mc_355 = true := by decide +kernel
set_option maxRecDepth 100000 in
theorem my_356 : mg_M 356 = some (mc_356, 5) := rfl
theorem ms_356 : mg_srt 0 mc_356 = true := by decide +kernel
set_option maxRecDepth 100000 in
theorem my_357 : mg_M 357 = some (mc_357, 5) := rfl
theorem ms_357 : mg_srt 0 mc_357 = true := by decide +kernel
set_option maxRecDepth 100000 in
theorem my_358 : mg_M 358 = some (mc_358, 5) := rfl
theorem ms_358 : mg_srt 0 mc_358 = true := by decide +kernel
set_option maxRecDepth 100000 in
theorem my_359 : mg_M 359 = some (mc_359, 4) := rfl
theorem ms_359 : mg_srt 0 mc_359 = true := by decide +kernel
set_option maxRecDepth 100000 in
theorem my_360 : mg_M 360 = some (mc_360, 4) := rfl
theorem ms_360 : mg_srt 0 mc_360 = true := by decide +kernel
set_option maxRecDepth 100000 in
theorem my_361 : mg_M 361 = some (mc_361, 4) := rfl
theorem ms_361 : mg_srt 0 mc_361 = true := by decide +kernel
set_option maxRecDepth 100000 in
theorem my_362 : mg_M 362 = some (mc_362, 4) := rfl
theorem ms_362 : mg_srt 0 mc_362 = true := by decide +kernel
set_option maxRecDepth 100000 in
theorem my_363 : mg_M 363 = some (mc_363, 5) := rfl
theorem ms_363 : mg_srt 0 mc_363 = true := by decide +kernel
set_option maxRecDepth 100000 in
theorem my_364 : mg_M 364 = some (mc_364, 5) := rfl
theorem ms_364 : mg_srt 0 mc_364 = true := by decide +kernel
set_option maxRecDepth 100000 in
theorem my_365 : mg_M 365 = some (mc_365, 5) := rfl
theorem ms_365 : mg_srt 0 mc_365 = true := by decide +kernel
set_option maxRecDepth 100000 in
theorem my_366 : mg_M 366 = some (mc_366, 4) := rfl
theorem ms_366 : mg_srt 0 mc_366 = true := by decide +kernel
set_option maxRecDepth 100000 in
theorem my_367 : mg_M 367 = some (mc_367, 5) := rfl
theorem ms_367 : mg_srt 0 mc_367 = true := by decide +kernel
set_option maxRecDepth 100000 in
theorem my_368 : mg_M 368 = some (mc_368, 5) := rfl
theorem ms_368 : mg_srt 0 mc_368 = true := by decide +kernel
set_option maxRecDepth 100000 in
theorem my_369 : mg_M 369 = some (mc_369, 6) := rfl
theorem ms_369 : mg_srt 0 mc_369 = true := by decide +kernel
set_option maxRecDepth 100000 in
theorem my_370 : mg_M 370 = some (mc_370, 5) := rfl
theorem ms_370 : mg_srt 0 mc_370 = true := by decide +kernel
set_option maxRecDepth 100000 in
theorem my_371 : mg_M 371 = some (mc_371, 4) := rfl
theorem ms_371 : mg_srt 0 mc_371 = true := by decide +kernel
set_option maxRecDepth 100000 in
theorem my_372 : mg_M 372 = some (mc_372, 4) := rfl
theorem ms_372 : mg_srt 0 mc_372 = true := by decide +kernel
set_option maxRecDepth 100000 in
theorem my_373 : mg_M 373 = some (mc_373, 6) := rfl
theorem ms_373 : mg_srt 0 mc_373 = true := by decide +kernel
set_option maxRecDepth 100000 in
theorem my_374 : mg_M 374 = some (mc_374, 6) := rfl
theorem ms_374 : mg_srt 0 mc_374 = true := by decide +kernel
set_option maxRecDepth 100000 in
theorem my_375 : mg_M 375 = some (mc_375, 4) := rfl
theorem ms_375 : mg_srt 0 mc_375 = true := by decide +kernel
set_option maxRecDepth 100000 in
theorem my_376 : mg_M 376 = some (mc_376, 6) := rfl
theorem ms_376 : mg_srt 0 mc_376 = true := by decide +kernel
set_option maxRecDepth 100000 in
theorem my_377 : mg_M 377 = some (mc_377, 6) := rfl
theorem ms_377 : mg_srt 0 mc_377 = true := by decide +kernel
set_option maxRecDepth 100000 in
theorem my_378 : mg_M 378 = some (mc_378, 6) := rfl
theorem ms_378 : mg_srt 0 mc_378 = true := by decide +kernel
set_option maxRecDepth 100000 in
theorem my_379 : mg_M 379 = some (mc_379, 4) := rfl
theorem ms_379 : mg_srt 0 mc_379 = true := by decide +kernel
set_option maxRecDepth 100000 in
theorem my_380 : mg_M 380 = some (mc_380, 4) := rfl
theorem ms_380 : mg_srt 0 mc_380 = true := by decide +kernel
set_option maxRecDepth 100000 in
theorem my_381 : mg_M 381 = some (mc_381, 5) := rfl
theorem ms_381 : mg_srt 0 mc_381 = true := by decide +kernel
set_option maxRecDepth 100000 in
theorem my_382 : mg_M 382 = some (mc_382, 4) := rfl
theorem ms_382 : mg_srt 0 mc_382 = true := by decide +kernel
set_option maxRecDepth 100000 in
theorem my_383 : mg_M 383 = some (mc_383, 5) := rfl
theorem ms_383 : mg_srt 0 mc_383 = true := by decide +kernel
set_option maxRecDepth 100000 in
theorem my_384 : mg_M 384 = some (mc_384, 5) := rfl
theorem ms_384 : mg_srt 0 mc_384 = true := by decide +kernel
set_option maxRecDepth 100000 in
theorem my_385 : mg_M 385 = some (mc_385, 3) := rfl
theorem ms_385 : mg_srt 0 mc_385 = true := by decide +kernel
set_option maxRecDepth 100000 in
theorem my_386 : mg_M 386 = some (mc_386, 3) := rfl
theorem ms_386 : mg_srt 0 mc_386 = true := by decide +kernel
set_option maxRecDepth 100000 in
theorem my_387 : mg_M 387 = some (mc_387, 4) := rfl
theorem ms_387 : mg_srt 0 mc_387 = true := by decide +kernel
set_option maxRecDepth 100000 in
theorem my_388 : mg_M 388 = some (mc_388, 4) := rfl
theorem ms_388 : mg_srt 0 mc_388 = true := by decide +kernel
set_option maxRecDepth 100000 in
theorem my_389 : mg_M 389 = some (mc_389, 4) := rfl
theorem ms_389 : mg_srt 0 mc_389 = true := by decide +kernel
set_option maxRecDepth 100000 in
theorem my_390 : mg_M 390 = some (mc_390, 4) := rfl
theorem ms_390 : mg_srt 0 mc_390 = true := by decide +kernel
theorem ms_law : mg_srt 0 mc_law = true := by decide +kernel
