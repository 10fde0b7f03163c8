set_option maxRecDepth 100000 in
theorem my_0 : mg_M 0 = some (mc_0, 1) := rfl
theorem ms_0 : mg_srt 0 mc_0 = true := by decide +kernel
set_option maxRecDepth 100000 in
theorem my_1 : mg_M 1 = some (mc_1, 2) := rfl
theorem ms_1 : mg_srt 0 mc_1 = true := by decide +kernel
set_option maxRecDepth 100000 in
theorem my_2 : mg_M 2 = some (mc_2, 5) := rfl
theorem ms_2 : mg_srt 0 mc_2 = true := by decide +kernel
set_option maxRecDepth 100000 in
theorem my_3 : mg_M 3 = some (mc_3, 6) := rfl
theorem ms_3 : mg_srt 0 mc_3 = true := by decide +kernel
set_option maxRecDepth 100000 in
theorem my_4 : mg_M 4 = some (mc_4, 5) := rfl
theorem ms_4 : mg_srt 0 mc_4 = true := by decide +kernel
set_option maxRecDepth 100000 in
theorem my_5 : mg_M 5 = some (mc_5, 2) := rfl
theorem ms_5 : mg_srt 0 mc_5 = true := by decide +kernel
set_option maxRecDepth 100000 in
theorem my_6 : mg_M 6 = some (mc_6, 4) := rfl
theorem ms_6 : mg_srt 0 mc_6 = true := by decide +kernel
set_option maxRecDepth 100000 in
theorem my_7 : mg_M 7 = some (mc_7, 1) := rfl
theorem ms_7 : mg_srt 0 mc_7 = true := by decide +kernel
set_option maxRecDepth 100000 in
theorem my_8 : mg_M 8 = some (mc_8, 4) := rfl
theorem ms_8 : mg_srt 0 mc_8 = true := by decide +kernel
set_option maxRecDepth 100000 in
theorem my_9 : mg_M 9 = some (mc_9, 3) := rfl
theorem ms_9 : mg_srt 0 mc_9 = true := by decide +kernel
set_option maxRecDepth 100000 in
theorem my_10 : mg_M 10 = some (mc_10, 4) := rfl
theorem ms_10 : mg_srt 0 mc_10 = true := by decide +kernel
set_option maxRecDepth 100000 in
theorem my_11 : mg_M 11 = some (mc_11, 2) := rfl
theorem ms_11 : mg_srt 0 mc_11 = true := by decide +kernel
set_option maxRecDepth 100000 in
theorem my_12 : mg_M 12 = some (mc_12, 4) := rfl
theorem ms_12 : mg_srt 0 mc_12 = true := by decide +kernel
set_option maxRecDepth 100000 in
theorem my_13 : mg_M 13 = some (mc_13, 4) := rfl
theorem ms_13 : mg_srt 0 mc_13 = true := by decide +kernel
set_option maxRecDepth 100000 in
theorem my_25 : mg_M 25 = some (mc_25, 2) := rfl
theorem ms_25 : mg_srt 0 mc_25 = true := by decide +kernel
set_option maxRecDepth 100000 in
theorem my_26 : mg_M 26 = some (mc_26, 2) := rfl
theorem ms_26 : mg_srt 0 mc_26 = true := by decide +kernel
set_option maxRecDepth 100000 in
theorem my_27 : mg_M 27 = some (mc_27, 1) := rfl
theorem ms_27 : mg_srt 0 mc_27 = true := by decide +kernel
set_option maxRecDepth 100000 in
theorem my_28 : mg_M 28 = some (mc_28, 1) := rfl
theorem ms_28 : mg_srt 0 mc_28 = true := by decide +kernel
set_option maxRecDepth 100000 in
theorem my_29 : mg_M 29 = some (mc_29, 2) := rfl
theorem ms_29 : mg_srt 0 mc_29 = true := by decide +kernel
set_option maxRecDepth 100000 in
theorem my_30 : mg_M 30 = some (mc_30, 1) := rfl
theorem ms_30 : mg_srt 0 mc_30 = true := by decide +kernel
set_option maxRecDepth 100000 in
theorem my_31 : mg_M 31 = some (mc_31, 3) := rfl
theorem ms_31 : mg_srt 0 mc_31 = true := by decide +kernel
set_option maxRecDepth 100000 in
theorem my_32 : mg_M 32 = some (mc_32, 2) := rfl
theorem ms_32 : mg_srt 0 mc_32 = true := by decide +kernel
set_option maxRecDepth 100000 in
theorem my_33 : mg_M 33 = some (mc_33, 2) := rfl
theorem ms_33 : mg_srt 0 mc_33 = true := by decide +kernel
set_option maxRecDepth 100000 in
theorem my_35 : mg_M 35 = some (mc_35, 1) := rfl
theorem ms_35 : mg_srt 0 mc_35 = true := by decide +kernel
set_option maxRecDepth 100000 in
theorem my_36 : mg_M 36 = some (mc_36, 3) := rfl
theorem ms_36 : mg_srt 0 mc_36 = true := by decide +kernel
set_option maxRecDepth 100000 in
theorem my_38 : mg_M 38 = some (mc_38, 2) := rfl
theorem ms_38 : mg_srt 0 mc_38 = true := by decide +kernel
set_option maxRecDepth 100000 in
theorem my_39 : mg_M 39 = some (mc_39, 3) := rfl
theorem ms_39 : mg_srt 0 mc_39 = true := by decide +kernel
set_option maxRecDepth 100000 in
theorem my_40 : mg_M 40 = some (mc_40, 2) := rfl
theorem ms_40 : mg_srt 0 mc_40 = true := by decide +kernel
set_option maxRecDepth 100000 in
theorem my_41 : mg_M 41 = some (mc_41, 1) := rfl
theorem ms_41 : mg_srt 0 mc_41 = true := by decide +kernel
set_option maxRecDepth 100000 in
theorem my_42 : mg_M 42 = some (mc_42, 8) := rfl
theorem ms_42 : mg_srt 0 mc_42 = true := by decide +kernel
set_option maxRecDepth 100000 in
theorem my_43 : mg_M 43 = some (mc_43, 1) := rfl
theorem ms_43 : mg_srt 0 mc_43 = true := by decide +kernel
set_option maxRecDepth 100000 in
theorem my_44 : mg_M 44 = some (mc_44, 1) := rfl
theorem ms_44 : mg_srt 0 mc_44 = true := by decide +kernel
set_option maxRecDepth 100000 in
theorem my_45 : mg_M 45 = some (mc_45, 3) := rfl
theorem ms_45 : mg_srt 0 mc_45 = true := by decide +kernel
set_option maxRecDepth 100000 in
theorem my_46 : mg_M 46 = some (mc_46, 2) := rfl
theorem ms_46 : mg_srt 0 mc_46 = true := by decide +kernel
set_option maxRecDepth 100000 in
theorem my_47 : mg_M 47 = some (mc_47, 3) := rfl
theorem ms_47 : mg_srt 0 mc_47 = true := by decide +kernel
set_option maxRecDepth 100000 in
theorem my_48 : mg_M 48 = some (mc_48, 2) := rfl
theorem ms_48 : mg_srt 0 mc_48 = true := by decide +kernel
set_option maxRecDepth 100000 in
theorem my_49 : mg_M 49 = some (mc_49, 2) := rfl
theorem ms_49 : mg_srt 0 mc_49 = true := by decide +kernel
set_option maxRecDepth 100000 in
theorem my_50 : mg_M 50 = some (mc_50, 6) := rfl
theorem ms_50 : mg_srt 0 mc_50 = true := by decide +kernel
set_option maxRecDepth 100000 in
theorem my_51 : mg_M 51 = some (mc_51, 4) := rfl
theorem ms_51 : mg_srt 0 mc_51 = true := by decide +kernel
set_option maxRecDepth 100000 in
theorem my_52 : mg_M 52 = some (mc_52, 1) := rfl
theorem ms_52 : mg_srt 0 mc_52 = true := by decide +kernel
set_option maxRecDepth 100000 in
theorem my_53 : mg_M 53 = some (mc_53, 3) := rfl
theorem ms_53 : mg_srt 0 mc_53 = true := by decide +kernel
set_option maxRecDepth 100000 in
theorem my_54 : mg_M 54 = some (mc_54, 4) := rfl
theorem ms_54 : mg_srt 0 mc_54 = true := by decide +kernel
set_option maxRecDepth 100000 in
theorem my_55 : mg_M 55 = some (mc_55, 3) := rfl
theorem ms_55 : mg_srt 0 mc_55 = true := by decide +kernel
set_option maxRecDepth 100000 in
theorem my_56 : mg_M 56 = some (mc_56, 2) := rfl
theorem ms_56 : mg_srt 0 mc_56 = true := by decide +kernel
set_option maxRecDepth 100000 in
theorem my_57 : mg_M 57 = some (mc_57, 4) := rfl
theorem ms_57 : mg_srt 0 mc_57 = true := by decide +kernel
set_option maxRecDepth 100000 in
theorem my_58 : mg_M 58 = some (mc_58, 1) := rfl
theorem ms_58 : mg_srt 0 mc_58 = true := by decide +kernel
set_option maxRecDepth 100000 in
theorem my_60 : mg_M 60 = some (mc_60, 8) := rfl
theorem ms_60 : mg_srt 0 mc_60 = true := by decide +kernel
set_option maxRecDepth 100000 in
theorem my_61 : mg_M 61 = some (mc_61, 4) := rfl
theorem ms_61 : mg_srt 0 mc_61 = true := by decide +kernel
set_option maxRecDepth 100000 in
theorem my_62 : mg_M 62 = some (mc_62, 4) := rfl
theorem ms_62 : mg_srt 0 mc_62 = true := by decide +kernel
set_option maxRecDepth 100000 in
theorem my_63 : mg_M 63 = some (mc_63, 1) := rfl
theorem ms_63 : mg_srt 0 mc_63 = true := by decide +kernel
set_option maxRecDepth 100000 in
theorem my_64 : mg_M 64 = some (mc_64, 2) := rfl
theorem ms_64 : mg_srt 0 mc_64 = true := by decide +kernel
set_option maxRecDepth 100000 in
theorem my_65 : mg_M 65 = some (mc_65, 3) := rfl
theorem ms_65 : mg_srt 0 mc_65 = true := by decide +kernel
set_option maxRecDepth 100000 in
theorem my_66 : mg_M 66 = some (mc_66, 3) := rfl
theorem ms_66 : mg_srt 0 mc_66 = true := by decide +kernel
set_option maxRecDepth 100000 in
theorem my_67 : mg_M 67 = some (mc_67, 3) := rfl
theorem ms_67 : mg_srt 0 mc_67 = true := by decide +kernel
set_option maxRecDepth 100000 in
theorem my_68 : mg_M 68 = some (mc_68, 4) := rfl
theorem ms_68 : mg_srt 0 mc_68 = true := by decide +kernel
set_option maxRecDepth 100000 in
theorem my_69 : mg_M 69 = some (mc_69, 4) := rfl
theorem ms_69 : mg_srt 0 mc_69 = true := by decide +kernel
set_option maxRecDepth 100000 in
theorem my_70 : mg_M 70 = some (mc_70, 3) := rfl
theorem ms_70 : mg_srt 0 mc_70 = true := by decide +kernel
set_option maxRecDepth 100000 in
theorem my_71 : mg_M 71 = some (mc_71, 1) := rfl
theorem ms_71 : mg_srt 0 mc_71 = true := by decide +kernel
set_option maxRecDepth 100000 in
theorem my_72 : mg_M 72 = some (mc_72, 4) := rfl
theorem ms_72 : mg_srt 0 mc_72 = true := by decide +kernel
set_option maxRecDepth 100000 in
theorem my_77 : mg_M 77 = some (mc_77, 2) := rfl
theorem ms_77 : mg_srt 0 mc_77 = true := by decide +kernel
set_option maxRecDepth 100000 in
theorem my_78 : mg_M 78 = some (mc_78, 2) := rfl
theorem ms_78 : mg_srt 0 mc_78 = true := by decide +kernel
set_option maxRecDepth 100000 in
theorem my_79 : mg_M 79 = some (mc_79, 5) := rfl
theorem ms_79 : mg_srt 0 mc_79 = true := by decide +kernel
set_option maxRecDepth 100000 in
theorem my_80 : mg_M 80 = some (mc_80, 5) := rfl
theorem ms_80 : mg_srt 0 mc_80 = true := by decide +kernel
set_option maxRecDepth 100000 in
theorem my_81 : mg_M 81 = some (mc_81, 7) := rfl
theorem ms_81 : mg_srt 0 mc_81 = true := by decide +kernel
set_option maxRecDepth 100000 in
theorem my_82 : mg_M 82 = some (mc_82, 11) := rfl
theorem ms_82 : mg_srt 0 mc_82 = true := by decide +kernel
set_option maxRecDepth 100000 in
theorem my_83 : mg_M 83 = some (mc_83, 5) := rfl
theorem ms_83 : mg_srt 0 mc_83 = true := by decide +kernel
set_option maxRecDepth 100000 in
theorem my_84 : mg_M 84 = some (mc_84, 4) := rfl
theorem ms_84 : mg_srt 0 mc_84 = true := by decide +kernel
set_option maxRecDepth 100000 in
theorem my_85 : mg_M 85 = some (mc_85, 12) := rfl
theorem ms_85 : mg_srt 0 mc_85 = true := by decide +kernel
set_option maxRecDepth 100000 in
theorem my_86 : mg_M 86 = some (mc_86, 13) := rfl
theorem ms_86 : mg_srt 0 mc_86 = true := by decide +kernel
set_option maxRecDepth 100000 in
theorem my_87 : mg_M 87 = some (mc_87, 7) := rfl
theorem ms_87 : mg_srt 0 mc_87 = true := by decide +kernel
set_option maxRecDepth 100000 in
theorem my_88 : mg_M 88 = some (mc_88, 4) := rfl
theorem ms_88 : mg_srt 0 mc_88 = true := by decide +kernel
set_option maxRecDepth 100000 in
theorem my_89 : mg_M 89 = some (mc_89, 5) := rfl
theorem ms_89 : mg_srt 0 mc_89 = true := by decide +kernel
set_option maxRecDepth 100000 in
theorem my_90 : mg_M 90 = some (mc_90, 5) := rfl
theorem ms_90 : mg_srt 0 mc_90 = true := by decide +kernel
set_option maxRecDepth 100000 in
theorem my_91 : mg_M 91 = some (mc_91, 1) := rfl
theorem ms_91 : mg_srt 0 mc_91 = true := by decide +kernel
set_option maxRecDepth 100000 in
theorem my_92 : mg_M 92 = some (mc_92, 2) := rfl
theorem ms_92 : mg_srt 0 mc_92 = true := by decide +kernel
set_option maxRecDepth 100000 in
theorem my_93 : mg_M 93 = some (mc_93, 1) := rfl
theorem ms_93 : mg_srt 0 mc_93 = true := by decide +kernel
set_option maxRecDepth 100000 in
theorem my_94 : mg_M 94 = some (mc_94, 2) := rfl
theorem ms_94 : mg_srt 0 mc_94 = true := by decide +kernel
set_option maxRecDepth 100000 in
theorem my_95 : mg_M 95 = some (mc_95, 1) := rfl
theorem ms_95 : mg_srt 0 mc_95 = true := by decide +kernel
set_option maxRecDepth 100000 in
theorem my_96 : mg_M 96 = some (mc_96, 3) := rfl
theorem ms_96 : mg_srt 0 mc_96 = true := by decide +kernel
set_option maxRecDepth 100000 in
theorem my_97 : mg_M 97 = some (mc_97, 3) := rfl
theorem ms_97 : mg_srt 0 mc_97 = true := by decide +kernel
set_option maxRecDepth 100000 in
theorem my_98 : mg_M 98 = some (mc_98, 1) := rfl
theorem ms_98 : mg_srt 0 mc_98 = true := by decide +kernel
set_option maxRecDepth 100000 in
theorem my_99 : mg_M 99 = some (mc_99, 1) := rfl
theorem ms_99 : mg_srt 0 mc_99 = true := by decide +kernel
set_option maxRecDepth 100000 in
theorem my_103 : mg_M 103 = some (mc_103, 1) := rfl
theorem ms_103 : mg_srt 0 mc_103 = true := by decide +kernel
set_option maxRecDepth 100000 in
theorem my_104 : mg_M 104 = some (mc_104, 6) := rfl
theorem ms_104 : mg_srt 0 mc_104 = true := by decide +kernel
set_option maxRecDepth 100000 in
theorem my_105 : mg_M 105 = some (mc_105, 2) := rfl
theorem ms_105 : mg_srt 0 mc_105 = true := by decide +kernel
set_option maxRecDepth 100000 in
theorem my_106 : mg_M 106 = some (mc_106, 2) := rfl
theorem ms_106 : mg_srt 0 mc_106 = true := by decide +kernel
set_option maxRecDepth 100000 in
theorem my_109 : mg_M 109 = some (mc_109, 2) := rfl
theorem ms_109 : mg_srt 0 mc_109 = true := by decide +kernel
set_option maxRecDepth 100000 in
theorem my_110 : mg_M 110 = some (mc_110, 3) := rfl
theorem ms_110 : mg_srt 0 mc_110 = true := by decide +kernel
set_option maxRecDepth 100000 in
theorem my_112 : mg_M 112 = some (mc_112, 3) := rfl
theorem ms_112 : mg_srt 0 mc_112 = true := by decide +kernel
set_option maxRecDepth 100000 in
theorem my_114 : mg_M 114 = some (mc_114, 3) := rfl
theorem ms_114 : mg_srt 0 mc_114 = true := by decide +kernel
set_option maxRecDepth 100000 in
theorem my_115 : mg_M 115 = some (mc_115, 3) := rfl
theorem ms_115 : mg_srt 0 mc_115 = true := by decide +kernel
set_option maxRecDepth 100000 in
theorem my_126 : mg_M 126 = some (mc_126, 3) := rfl
theorem ms_126 : mg_srt 0 mc_126 = true := by decide +kernel
set_option maxRecDepth 100000 in
theorem my_136 : mg_M 136 = some (mc_136, 4) := rfl
theorem ms_136 : mg_srt 0 mc_136 = true := by decide +kernel
set_option maxRecDepth 100000 in
theorem my_137 : mg_M 137 = some (mc_137, 4) := rfl
theorem ms_137 : mg_srt 0 mc_137 = true := by decide +kernel
set_option maxRecDepth 100000 in
theorem my_138 : mg_M 138 = some (mc_138, 2) := rfl
theorem ms_138 : mg_srt 0 mc_138 = true := by decide +kernel
set_option maxRecDepth 100000 in
theorem my_139 : mg_M 139 = some (mc_139, 4) := rfl
theorem ms_139 : mg_srt 0 mc_139 = true := by decide +kernel
set_option maxRecDepth 100000 in
theorem my_140 : mg_M 140 = some (mc_140, 4) := rfl
theorem ms_140 : mg_srt 0 mc_140 = true := by decide +kernel
set_option maxRecDepth 100000 in
theorem my_141 : mg_M 141 = some (mc_141, 4) := rfl
theorem ms_141 : mg_srt 0 mc_141 = true := by decide +kernel
set_option maxRecDepth 100000 in
theorem my_142 : mg_M 142 = some (mc_142, 3) := rfl
theorem ms_142 : mg_srt 0 mc_142 = true := by decide +kernel
set_option maxRecDepth 100000 in
theorem my_143 : mg_M 143 = some (mc_143, 2) := rfl
theorem ms_143 : mg_srt 0 mc_143 = true := by decide +kernel
set_option maxRecDepth 100000 in
theorem my_144 : mg_M 144 = some (mc_144, 3) := rfl
theorem ms_144 : mg_srt 0 mc_144 = true := by decide +kernel
set_option maxRecDepth 100000 in
theorem my_145 : mg_M 145 = some (mc_145, 2) := rfl
theorem ms_145 : mg_srt 0 mc_145 = true := by decide +kernel
set_option maxRecDepth 100000 in
theorem my_146 : mg_M 146 = some (mc_146, 1) := rfl
theorem ms_146 : mg_srt 0 mc_146 = true := by decide +kernel
set_option maxRecDepth 100000 in
theorem my_150 : mg_M 150 = some (mc_150, 1) := rfl
theorem ms_150 : mg_srt 0 mc_150 = true := by decide +kernel
set_option maxRecDepth 100000 in
theorem my_156 : mg_M 156 = some (mc_156, 2) := rfl
theorem ms_156 : mg_srt 0 mc_156 = true := by decide +kernel
set_option maxRecDepth 100000 in
theorem my_157 : mg_M 157 = some (mc_157, 2) := rfl
theorem ms_157 : mg_srt 0 mc_157 = true := by decide +kernel
set_option maxRecDepth 100000 in
theorem my_158 : mg_M 158 = some (mc_158, 2) := rfl
theorem ms_158 : mg_srt 0 mc_158 = true := by decide +kernel
set_option maxRecDepth 100000 in
theorem my_161 : mg_M 161 = some (mc_161, 2) := rfl
theorem ms_161 : mg_srt 0 mc_161 = true := by decide +kernel
set_option maxRecDepth 100000 in
theorem my_162 : mg_M 162 = some (mc_162, 1) := rfl
theorem ms_162 : mg_srt 0 mc_162 = true := by decide +kernel
set_option maxRecDepth 100000 in
theorem my_163 : mg_M 163 = some (mc_163, 1) := rfl
theorem ms_163 : mg_srt 0 mc_163 = true := by decide +kernel
set_option maxRecDepth 100000 in
theorem my_164 : mg_M 164 = some (mc_164, 2) := rfl
theorem ms_164 : mg_srt 0 mc_164 = true := by decide +kernel
set_option maxRecDepth 100000 in
theorem my_165 : mg_M 165 = some (mc_165, 1) := rfl
theorem ms_165 : mg_srt 0 mc_165 = true := by decide +kernel
set_option maxRecDepth 100000 in
theorem my_166 : mg_M 166 = some (mc_166, 3) := rfl
theorem ms_166 : mg_srt 0 mc_166 = true := by decide +kernel
set_option maxRecDepth 100000 in
theorem my_167 : mg_M 167 = some (mc_167, 3) := rfl
theorem ms_167 : mg_srt 0 mc_167 = true := by decide +kernel
set_option maxRecDepth 100000 in
theorem my_168 : mg_M 168 = some (mc_168, 3) := rfl
theorem ms_168 : mg_srt 0 mc_168 = true := by decide +kernel
set_option maxRecDepth 100000 in
theorem my_169 : mg_M 169 = some (mc_169, 4) := rfl
theorem ms_169 : mg_srt 0 mc_169 = true := by decide +kernel
set_option maxRecDepth 100000 in
theorem my_170 : mg_M 170 = some (mc_170, 4) := rfl
theorem ms_170 : mg_srt 0 mc_170 = true := by decide +kernel
set_option maxRecDepth 100000 in
theorem my_172 : mg_M 172 = some (mc_172, 5) := rfl
theorem ms_172 : mg_srt 0 mc_172 = true := by decide +kernel
set_option maxRecDepth 100000 in
theorem my_173 : mg_M 173 = some (mc_173, 5) := rfl
theorem ms_173 : mg_srt 0 mc_173 = true := by decide +kernel
set_option maxRecDepth 100000 in
theorem my_176 : mg_M 176 = some (mc_176, 2) := rfl
theorem ms_176 : mg_srt 0 mc_176 = true := by decide +kernel
set_option maxRecDepth 100000 in
theorem my_177 : mg_M 177 = some (mc_177, 5) := rfl
theorem ms_177 : mg_srt 0 mc_177 = true := by decide +kernel
set_option maxRecDepth 100000 in
theorem my_178 : mg_M 178 = some (mc_178, 8) := rfl
theorem ms_178 : mg_srt 0 mc_178 = true := by decide +kernel
set_option maxRecDepth 100000 in
theorem my_179 : mg_M 179 = some (mc_179, 2) := rfl
theorem ms_179 : mg_srt 0 mc_179 = true := by decide +kernel
set_option maxRecDepth 100000 in
theorem my_180 : mg_M 180 = some (mc_180, 2) := rfl
theorem ms_180 : mg_srt 0 mc_180 = true := by decide +kernel
set_option maxRecDepth 100000 in
theorem my_181 : mg_M 181 = some (mc_181, 3) := rfl
theorem ms_181 : mg_srt 0 mc_181 = true := by decide +kernel
set_option maxRecDepth 100000 in
theorem my_182 : mg_M 182 = some (mc_182, 2) := rfl
theorem ms_182 : mg_srt 0 mc_182 = true := by decide +kernel
set_option maxRecDepth 100000 in
theorem my_183 : mg_M 183 = some (mc_183, 1) := rfl
theorem ms_183 : mg_srt 0 mc_183 = true := by decide +kernel
set_option maxRecDepth 100000 in
theorem my_184 : mg_M 184 = some (mc_184, 3) := rfl
theorem ms_184 : mg_srt 0 mc_184 = true := by decide +kernel
set_option maxRecDepth 100000 in
theorem my_185 : mg_M 185 = some (mc_185, 6) := rfl
theorem ms_185 : mg_srt 0 mc_185 = true := by decide +kernel
set_option maxRecDepth 100000 in
theorem my_186 : mg_M 186 = some (mc_186, 3) := rfl
theorem ms_186 : mg_srt 0 mc_186 = true := by decide +kernel
set_option maxRecDepth 100000 in
theorem my_187 : mg_M 187 = some (mc_187, 1) := rfl
theorem ms_187 : mg_srt 0 mc_187 = true := by decide +kernel
set_option maxRecDepth 100000 in
theorem my_188 : mg_M 188 = some (mc_188, 1) := rfl
theorem ms_188 : mg_srt 0 mc_188 = true := by decide +kernel
set_option maxRecDepth 100000 in
theorem my_189 : mg_M 189 = some (mc_189, 2) := rfl
theorem ms_189 : mg_srt 0 mc_189 = true := by decide +kernel
set_option maxRecDepth 100000 in
theorem my_190 : mg_M 190 = some (mc_190, 3) := rfl
theorem ms_190 : mg_srt 0 mc_190 = true := by decide +kernel
set_option maxRecDepth 100000 in
theorem my_191 : mg_M 191 = some (mc_191, 2) := rfl
theorem ms_191 : mg_srt 0 mc_191 = true := by decide +kernel
set_option maxRecDepth 100000 in
theorem my_192 : mg_M 192 = some (mc_192, 4) := rfl
theorem ms_192 : mg_srt 0 mc_192 = true := by decide +kernel
set_option maxRecDepth 100000 in
theorem my_193 : mg_M 193 = some (mc_193, 5) := rfl
theorem ms_193 : mg_srt 0 mc_193 = true := by decide +kernel
set_option maxRecDepth 100000 in
theorem my_194 : mg_M 194 = some (mc_194, 1) := rfl
theorem ms_194 : mg_srt 0 mc_194 = true := by decide +kernel
set_option maxRecDepth 100000 in
theorem my_195 : mg_M 195 = some (mc_195, 2) := rfl
theorem ms_195 : mg_srt 0 mc_195 = true := by decide +kernel
set_option maxRecDepth 100000 in
theorem my_196 : mg_M 196 = some (mc_196, 1) := rfl
theorem ms_196 : mg_srt 0 mc_196 = true := by decide +kernel
set_option maxRecDepth 100000 in
theorem my_197 : mg_M 197 = some (mc_197, 1) := rfl
theorem ms_197 : mg_srt 0 mc_197 = true := by decide +kernel
set_option maxRecDepth 100000 in
theorem my_198 : mg_M 198 = some (mc_198, 3) := rfl
theorem ms_198 : mg_srt 0 mc_198 = true := by decide +kernel
set_option maxRecDepth 100000 in
theorem my_199 : mg_M 199 = some (mc_199, 2) := rfl
theorem ms_199 : mg_srt 0 mc_199 = true := by decide +kernel
set_option maxRecDepth 100000 in
theorem my_200 : mg_M 200 = some (mc_200, 3) := rfl
theorem ms_200 : mg_srt 0 mc_200 = true := by decide +kernel
set_option maxRecDepth 100000 in
theorem my_201 : mg_M 201 = some (mc_201, 5) := rfl
theorem ms_201 : mg_srt 0 mc_201 = true := by decide +kernel
set_option maxRecDepth 100000 in
theorem my_202 : mg_M 202 = some (mc_202, 4) := rfl
theorem ms_202 : mg_srt 0 mc_202 = true := by decide +kernel
set_option maxRecDepth 100000 in
theorem my_203 : mg_M 203 = some (mc_203, 3) := rfl
theorem ms_203 : mg_srt 0 mc_203 = true := by decide +kernel
set_option maxRecDepth 100000 in
theorem my_204 : mg_M 204 = some (mc_204, 4) := rfl
theorem ms_204 : mg_srt 0 mc_204 = true := by decide +kernel
set_option maxRecDepth 100000 in
theorem my_205 : mg_M 205 = some (mc_205, 3) := rfl
theorem ms_205 : mg_srt 0 mc_205 = true := by decide +kernel
set_option maxRecDepth 100000 in
theorem my_206 : mg_M 206 = some (mc_206, 1) := rfl
theorem ms_206 : mg_srt 0 mc_206 = true := by decide +kernel
set_option maxRecDepth 100000 in
theorem my_207 : mg_M 207 = some (mc_207, 1) := rfl
theorem ms_207 : mg_srt 0 mc_207 = true := by decide +kernel
set_option maxRecDepth 100000 in
theorem my_208 : mg_M 208 = some (mc_208, 6) := rfl
theorem ms_208 : mg_srt 0 mc_208 = true := by decide +kernel
set_option maxRecDepth 100000 in
theorem my_209 : mg_M 209 = some (mc_209, 9) := rfl
theorem ms_209 : mg_srt 0 mc_209 = true := by decide +kernel
set_option maxRecDepth 100000 in
theorem my_210 : mg_M 210 = some (mc_210, 5) := rfl
theorem ms_210 : mg_srt 0 mc_210 = true := by decide +kernel
set_option maxRecDepth 100000 in
theorem my_211 : mg_M 211 = some (mc_211, 17) := rfl
theorem ms_211 : mg_srt 0 mc_211 = true := by decide +kernel
set_option maxRecDepth 100000 in
theorem my_212 : mg_M 212 = some (mc_212, 4) := rfl
theorem ms_212 : mg_srt 0 mc_212 = true := by decide +kernel
set_option maxRecDepth 100000 in
theorem my_213 : mg_M 213 = some (mc_213, 6) := rfl
theorem ms_213 : mg_srt 0 mc_213 = true := by decide +kernel
set_option maxRecDepth 100000 in
theorem my_330 : mg_M 330 = some (mc_330, 1) := rfl
theorem ms_330 : mg_srt 0 mc_330 = true := by decide +kernel
set_option maxRecDepth 100000 in
theorem my_331 : mg_M 331 = some (mc_331, 1) := rfl
theorem ms_331 : mg_srt 0 mc_331 = true := by decide +kernel
set_option maxRecDepth 100000 in
theorem my_332 : mg_M 332 = some (mc_332, 2) := rfl
theorem ms_332 : mg_srt 0 mc_332 = true := by decide +kernel
set_option maxRecDepth 100000 in
theorem my_333 : mg_M 333 = some (mc_333, 1) := rfl
theorem ms_333 : mg_srt 0 mc_333 = true := by decide +kernel
set_option maxRecDepth 100000 in
theorem my_334 : mg_M 334 = some (mc_334, 1) := rfl
theorem ms_334 : mg_srt 0 mc_334 = true := by decide +kernel
set_option maxRecDepth 100000 in
theorem my_335 : mg_M 335 = some (mc_335, 2) := rfl
theorem ms_335 : mg_srt 0 mc_335 = true := by decide +kernel
set_option maxRecDepth 100000 in
theorem my_336 : mg_M 336 = some (mc_336, 2) := rfl
theorem ms_336 : mg_srt 0 mc_336 = true := by decide +kernel
set_option maxRecDepth 100000 in
theorem my_341 : mg_M 341 = some (mc_341, 4) := rfl
theorem ms_341 : mg_srt 0 mc_341 = true := by decide +kernel
set_option maxRecDepth 100000 in
theorem my_342 : mg_M 342 = some (mc_342, 3) := rfl
theorem ms_342 : mg_srt 0 mc_342 = true := by decide +kernel
theorem ms_law : mg_srt 0 mc_law = true := by decide +kernel
