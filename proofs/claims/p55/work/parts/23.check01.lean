set_option maxRecDepth 100000 in
theorem mb_78 : mm_tabB mm_PQ mm_MT mm_stf mm_npf mm_stn mm_sts mm_TX mm_XL mt_78 mh_78 = true := by decide +kernel
set_option maxRecDepth 100000 in
theorem mb_79 : mm_tabB mm_PQ mm_MT mm_stf mm_npf mm_stn mm_sts mm_TX mm_XL mt_79 mh_79 = true := by decide +kernel
set_option maxRecDepth 100000 in
theorem mb_80 : mm_tabB mm_PQ mm_MT mm_stf mm_npf mm_stn mm_sts mm_TX mm_XL mt_80 mh_80 = true := by decide +kernel
set_option maxRecDepth 100000 in
theorem mb_81 : mm_tabB mm_PQ mm_MT mm_stf mm_npf mm_stn mm_sts mm_TX mm_XL mt_81 mh_81 = true := by decide +kernel
set_option maxRecDepth 100000 in
theorem mb_82 : mm_tabB mm_PQ mm_MT mm_stf mm_npf mm_stn mm_sts mm_TX mm_XL mt_82 mh_82 = true := by decide +kernel
set_option maxRecDepth 100000 in
theorem mb_83 : mm_tabB mm_PQ mm_MT mm_stf mm_npf mm_stn mm_sts mm_TX mm_XL mt_83 mh_83 = true := by decide +kernel
set_option maxRecDepth 100000 in
theorem mb_84 : mm_tabB mm_PQ mm_MT mm_stf mm_npf mm_stn mm_sts mm_TX mm_XL mt_84 mh_84 = true := by decide +kernel
set_option maxRecDepth 100000 in
theorem mb_85 : mm_tabB mm_PQ mm_MT mm_stf mm_npf mm_stn mm_sts mm_TX mm_XL mt_85 mh_85 = true := by decide +kernel
set_option maxRecDepth 100000 in
theorem mb_86 : mm_tabB mm_PQ mm_MT mm_stf mm_npf mm_stn mm_sts mm_TX mm_XL mt_86 mh_86 = true := by decide +kernel
set_option maxRecDepth 100000 in
theorem mb_87 : mm_tabB mm_PQ mm_MT mm_stf mm_npf mm_stn mm_sts mm_TX mm_XL mt_87 mh_87 = true := by decide +kernel
set_option maxRecDepth 100000 in
theorem mb_88 : mm_tabB mm_PQ mm_MT mm_stf mm_npf mm_stn mm_sts mm_TX mm_XL mt_88 mh_88 = true := by decide +kernel
set_option maxRecDepth 100000 in
theorem mb_89 : mm_tabB mm_PQ mm_MT mm_stf mm_npf mm_stn mm_sts mm_TX mm_XL mt_89 mh_89 = true := by decide +kernel
set_option maxRecDepth 100000 in
theorem mb_90 : mm_tabB mm_PQ mm_MT mm_stf mm_npf mm_stn mm_sts mm_TX mm_XL mt_90 mh_90 = true := by decide +kernel
set_option maxRecDepth 100000 in
theorem mb_91 : mm_tabB mm_PQ mm_MT mm_stf mm_npf mm_stn mm_sts mm_TX mm_XL mt_91 mh_91 = true := by decide +kernel
set_option maxRecDepth 100000 in
theorem mb_92 : mm_tabB mm_PQ mm_MT mm_stf mm_npf mm_stn mm_sts mm_TX mm_XL mt_92 mh_92 = true := by decide +kernel
set_option maxRecDepth 100000 in
theorem mb_93 : mm_tabB mm_PQ mm_MT mm_stf mm_npf mm_stn mm_sts mm_TX mm_XL mt_93 mh_93 = true := by decide +kernel
set_option maxRecDepth 100000 in
theorem mb_94 : mm_tabB mm_PQ mm_MT mm_stf mm_npf mm_stn mm_sts mm_TX mm_XL mt_94 mh_94 = true := by decide +kernel
set_option maxRecDepth 100000 in
theorem mb_95 : mm_tabB mm_PQ mm_MT mm_stf mm_npf mm_stn mm_sts mm_TX mm_XL mt_95 mh_95 = true := by decide +kernel
set_option maxRecDepth 100000 in
theorem mb_96 : mm_tabB mm_PQ mm_MT mm_stf mm_npf mm_stn mm_sts mm_TX mm_XL mt_96 mh_96 = true := by decide +kernel
set_option maxRecDepth 100000 in
theorem mb_97 : mm_tabB mm_PQ mm_MT mm_stf mm_npf mm_stn mm_sts mm_TX mm_XL mt_97 mh_97 = true := by decide +kernel
set_option maxRecDepth 100000 in
theorem mb_98 : mm_tabB mm_PQ mm_MT mm_stf mm_npf mm_stn mm_sts mm_TX mm_XL mt_98 mh_98 = true := by decide +kernel
set_option maxRecDepth 100000 in
theorem mb_99 : mm_tabB mm_PQ mm_MT mm_stf mm_npf mm_stn mm_sts mm_TX mm_XL mt_99 mh_99 = true := by decide +kernel
set_option maxRecDepth 100000 in
theorem mb_103 : mm_tabB mm_PQ mm_MT mm_stf mm_npf mm_stn mm_sts mm_TX mm_XL mt_103 mh_103 = true := by decide +kernel
set_option maxRecDepth 100000 in
theorem mb_104 : mm_tabB mm_PQ mm_MT mm_stf mm_npf mm_stn mm_sts mm_TX mm_XL mt_104 mh_104 = true := by decide +kernel
set_option maxRecDepth 100000 in
theorem mb_105 : mm_tabB mm_PQ mm_MT mm_stf mm_npf mm_stn mm_sts mm_TX mm_XL mt_105 mh_105 = true := by decide +kernel
set_option maxRecDepth 100000 in
theorem mb_106 : mm_tabB mm_PQ mm_MT mm_stf mm_npf mm_stn mm_sts mm_TX mm_XL mt_106 mh_106 = true := by decide +kernel
set_option maxRecDepth 100000 in
theorem mb_109 : mm_tabB mm_PQ mm_MT mm_stf mm_npf mm_stn mm_sts mm_TX mm_XL mt_109 mh_109 = true := by decide +kernel
set_option maxRecDepth 100000 in
theorem mb_110 : mm_tabB mm_PQ mm_MT mm_stf mm_npf mm_stn mm_sts mm_TX mm_XL mt_110 mh_110 = true := by decide +kernel
set_option maxRecDepth 100000 in
theorem mb_112 : mm_tabB mm_PQ mm_MT mm_stf mm_npf mm_stn mm_sts mm_TX mm_XL mt_112 mh_112 = true := by decide +kernel
set_option maxRecDepth 100000 in
theorem mb_114 : mm_tabB mm_PQ mm_MT mm_stf mm_npf mm_stn mm_sts mm_TX mm_XL mt_114 mh_114 = true := by decide +kernel
set_option maxRecDepth 100000 in
theorem mb_115 : mm_tabB mm_PQ mm_MT mm_stf mm_npf mm_stn mm_sts mm_TX mm_XL mt_115 mh_115 = true := by decide +kernel
set_option maxRecDepth 100000 in
theorem mb_126 : mm_tabB mm_PQ mm_MT mm_stf mm_npf mm_stn mm_sts mm_TX mm_XL mt_126 mh_126 = true := by decide +kernel
set_option maxRecDepth 100000 in
theorem mb_136 : mm_tabB mm_PQ mm_MT mm_stf mm_npf mm_stn mm_sts mm_TX mm_XL mt_136 mh_136 = true := by decide +kernel
set_option maxRecDepth 100000 in
theorem mb_137 : mm_tabB mm_PQ mm_MT mm_stf mm_npf mm_stn mm_sts mm_TX mm_XL mt_137 mh_137 = true := by decide +kernel
set_option maxRecDepth 100000 in
theorem mb_138 : mm_tabB mm_PQ mm_MT mm_stf mm_npf mm_stn mm_sts mm_TX mm_XL mt_138 mh_138 = true := by decide +kernel
set_option maxRecDepth 100000 in
theorem mb_139 : mm_tabB mm_PQ mm_MT mm_stf mm_npf mm_stn mm_sts mm_TX mm_XL mt_139 mh_139 = true := by decide +kernel
set_option maxRecDepth 100000 in
theorem mb_140 : mm_tabB mm_PQ mm_MT mm_stf mm_npf mm_stn mm_sts mm_TX mm_XL mt_140 mh_140 = true := by decide +kernel
set_option maxRecDepth 100000 in
theorem mb_141 : mm_tabB mm_PQ mm_MT mm_stf mm_npf mm_stn mm_sts mm_TX mm_XL mt_141 mh_141 = true := by decide +kernel
set_option maxRecDepth 100000 in
theorem mb_142 : mm_tabB mm_PQ mm_MT mm_stf mm_npf mm_stn mm_sts mm_TX mm_XL mt_142 mh_142 = true := by decide +kernel
set_option maxRecDepth 100000 in
theorem mb_143 : mm_tabB mm_PQ mm_MT mm_stf mm_npf mm_stn mm_sts mm_TX mm_XL mt_143 mh_143 = true := by decide +kernel
set_option maxRecDepth 100000 in
theorem mb_144 : mm_tabB mm_PQ mm_MT mm_stf mm_npf mm_stn mm_sts mm_TX mm_XL mt_144 mh_144 = true := by decide +kernel
set_option maxRecDepth 100000 in
theorem mb_145 : mm_tabB mm_PQ mm_MT mm_stf mm_npf mm_stn mm_sts mm_TX mm_XL mt_145 mh_145 = true := by decide +kernel
set_option maxRecDepth 100000 in
theorem mb_146 : mm_tabB mm_PQ mm_MT mm_stf mm_npf mm_stn mm_sts mm_TX mm_XL mt_146 mh_146 = true := by decide +kernel
set_option maxRecDepth 100000 in
theorem mb_150 : mm_tabB mm_PQ mm_MT mm_stf mm_npf mm_stn mm_sts mm_TX mm_XL mt_150 mh_150 = true := by decide +kernel
set_option maxRecDepth 100000 in
theorem mb_156 : mm_tabB mm_PQ mm_MT mm_stf mm_npf mm_stn mm_sts mm_TX mm_XL mt_156 mh_156 = true := by decide +kernel
set_option maxRecDepth 100000 in
theorem mb_157 : mm_tabB mm_PQ mm_MT mm_stf mm_npf mm_stn mm_sts mm_TX mm_XL mt_157 mh_157 = true := by decide +kernel
set_option maxRecDepth 100000 in
theorem mb_158 : mm_tabB mm_PQ mm_MT mm_stf mm_npf mm_stn mm_sts mm_TX mm_XL mt_158 mh_158 = true := by decide +kernel
set_option maxRecDepth 100000 in
theorem mb_161 : mm_tabB mm_PQ mm_MT mm_stf mm_npf mm_stn mm_sts mm_TX mm_XL mt_161 mh_161 = true := by decide +kernel
set_option maxRecDepth 100000 in
theorem mb_162 : mm_tabB mm_PQ mm_MT mm_stf mm_npf mm_stn mm_sts mm_TX mm_XL mt_162 mh_162 = true := by decide +kernel
set_option maxRecDepth 100000 in
theorem mb_163 : mm_tabB mm_PQ mm_MT mm_stf mm_npf mm_stn mm_sts mm_TX mm_XL mt_163 mh_163 = true := by decide +kernel
set_option maxRecDepth 100000 in
theorem mb_164 : mm_tabB mm_PQ mm_MT mm_stf mm_npf mm_stn mm_sts mm_TX mm_XL mt_164 mh_164 = true := by decide +kernel
set_option maxRecDepth 100000 in
theorem mb_165 : mm_tabB mm_PQ mm_MT mm_stf mm_npf mm_stn mm_sts mm_TX mm_XL mt_165 mh_165 = true := by decide +kernel
set_option maxRecDepth 100000 in
theorem mb_166 : mm_tabB mm_PQ mm_MT mm_stf mm_npf mm_stn mm_sts mm_TX mm_XL mt_166 mh_166 = true := by decide +kernel
set_option maxRecDepth 100000 in
theorem mb_167 : mm_tabB mm_PQ mm_MT mm_stf mm_npf mm_stn mm_sts mm_TX mm_XL mt_167 mh_167 = true := by decide +kernel
set_option maxRecDepth 100000 in
theorem mb_168 : mm_tabB mm_PQ mm_MT mm_stf mm_npf mm_stn mm_sts mm_TX mm_XL mt_168 mh_168 = true := by decide +kernel
set_option maxRecDepth 100000 in
theorem mb_169 : mm_tabB mm_PQ mm_MT mm_stf mm_npf mm_stn mm_sts mm_TX mm_XL mt_169 mh_169 = true := by decide +kernel
set_option maxRecDepth 100000 in
theorem mb_170 : mm_tabB mm_PQ mm_MT mm_stf mm_npf mm_stn mm_sts mm_TX mm_XL mt_170 mh_170 = true := by decide +kernel
set_option maxRecDepth 100000 in
theorem mb_172 : mm_tabB mm_PQ mm_MT mm_stf mm_npf mm_stn mm_sts mm_TX mm_XL mt_172 mh_172 = true := by decide +kernel
set_option maxRecDepth 100000 in
theorem mb_173 : mm_tabB mm_PQ mm_MT mm_stf mm_npf mm_stn mm_sts mm_TX mm_XL mt_173 mh_173 = true := by decide +kernel
set_option maxRecDepth 100000 in
theorem mb_176 : mm_tabB mm_PQ mm_MT mm_stf mm_npf mm_stn mm_sts mm_TX mm_XL mt_176 mh_176 = true := by decide +kernel
