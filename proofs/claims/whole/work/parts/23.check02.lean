set_option maxRecDepth 100000 in
theorem mb_120 : mm_tabB mm_PQ mm_MT mm_stf mm_npf mm_stn mm_sts mm_TX mm_XL mt_120 mh_120 = true := by decide +kernel
set_option maxRecDepth 100000 in
theorem mb_121 : mm_tabB mm_PQ mm_MT mm_stf mm_npf mm_stn mm_sts mm_TX mm_XL mt_121 mh_121 = true := by decide +kernel
set_option maxRecDepth 100000 in
theorem mb_122 : mm_tabB mm_PQ mm_MT mm_stf mm_npf mm_stn mm_sts mm_TX mm_XL mt_122 mh_122 = true := by decide +kernel
set_option maxRecDepth 100000 in
theorem mb_123 : mm_tabB mm_PQ mm_MT mm_stf mm_npf mm_stn mm_sts mm_TX mm_XL mt_123 mh_123 = true := by decide +kernel
set_option maxRecDepth 100000 in
theorem mb_124 : mm_tabB mm_PQ mm_MT mm_stf mm_npf mm_stn mm_sts mm_TX mm_XL mt_124 mh_124 = true := by decide +kernel
set_option maxRecDepth 100000 in
theorem mb_125 : mm_tabB mm_PQ mm_MT mm_stf mm_npf mm_stn mm_sts mm_TX mm_XL mt_125 mh_125 = true := by decide +kernel
set_option maxRecDepth 100000 in
theorem mb_126 : mm_tabB mm_PQ mm_MT mm_stf mm_npf mm_stn mm_sts mm_TX mm_XL mt_126 mh_126 = true := by decide +kernel
set_option maxRecDepth 100000 in
theorem mb_127 : mm_tabB mm_PQ mm_MT mm_stf mm_npf mm_stn mm_sts mm_TX mm_XL mt_127 mh_127 = true := by decide +kernel
set_option maxRecDepth 100000 in
theorem mb_128 : mm_tabB mm_PQ mm_MT mm_stf mm_npf mm_stn mm_sts mm_TX mm_XL mt_128 mh_128 = true := by decide +kernel
set_option maxRecDepth 100000 in
theorem mb_129 : mm_tabB mm_PQ mm_MT mm_stf mm_npf mm_stn mm_sts mm_TX mm_XL mt_129 mh_129 = true := by decide +kernel
set_option maxRecDepth 100000 in
theorem mb_130 : mm_tabB mm_PQ mm_MT mm_stf mm_npf mm_stn mm_sts mm_TX mm_XL mt_130 mh_130 = true := by decide +kernel
set_option maxRecDepth 100000 in
theorem mb_131 : mm_tabB mm_PQ mm_MT mm_stf mm_npf mm_stn mm_sts mm_TX mm_XL mt_131 mh_131 = true := by decide +kernel
set_option maxRecDepth 100000 in
theorem mb_132 : mm_tabB mm_PQ mm_MT mm_stf mm_npf mm_stn mm_sts mm_TX mm_XL mt_132 mh_132 = true := by decide +kernel
set_option maxRecDepth 100000 in
theorem mb_133 : mm_tabB mm_PQ mm_MT mm_stf mm_npf mm_stn mm_sts mm_TX mm_XL mt_133 mh_133 = true := by decide +kernel
set_option maxRecDepth 100000 in
theorem mb_134 : mm_tabB mm_PQ mm_MT mm_stf mm_npf mm_stn mm_sts mm_TX mm_XL mt_134 mh_134 = true := by decide +kernel
set_option maxRecDepth 100000 in
theorem mb_135 : mm_tabB mm_PQ mm_MT mm_stf mm_npf mm_stn mm_sts mm_TX mm_XL mt_135 mh_135 = true := by decide +kernel
set_option maxRecDepth 100000 in
theorem mb_136 : mm_tabB mm_PQ mm_MT mm_stf mm_npf mm_stn mm_sts mm_TX mm_XL mt_136 mh_136 = true := by decide +kernel
set_option maxRecDepth 100000 in
theorem mb_137 : mm_tabB mm_PQ mm_MT mm_stf mm_npf mm_stn mm_sts mm_TX mm_XL mt_137 mh_137 = true := by decide +kernel
set_option maxRecDepth 100000 in
theorem mb_138 : mm_tabB mm_PQ mm_MT mm_stf mm_npf mm_stn mm_sts mm_TX mm_XL mt_138 mh_138 = true := by decide +kernel
set_option maxRecDepth 100000 in
theorem mb_139 : mm_tabB mm_PQ mm_MT mm_stf mm_npf mm_stn mm_sts mm_TX mm_XL mt_139 mh_139 = true := by decide +kernel
set_option maxRecDepth 100000 in
theorem mb_140 : mm_tabB mm_PQ mm_MT mm_stf mm_npf mm_stn mm_sts mm_TX mm_XL mt_140 mh_140 = true := by decide +kernel
set_option maxRecDepth 100000 in
theorem mb_141 : mm_tabB mm_PQ mm_MT mm_stf mm_npf mm_stn mm_sts mm_TX mm_XL mt_141 mh_141 = true := by decide +kernel
set_option maxRecDepth 100000 in
theorem mb_142 : mm_tabB mm_PQ mm_MT mm_stf mm_npf mm_stn mm_sts mm_TX mm_XL mt_142 mh_142 = true := by decide +kernel
set_option maxRecDepth 100000 in
theorem mb_143 : mm_tabB mm_PQ mm_MT mm_stf mm_npf mm_stn mm_sts mm_TX mm_XL mt_143 mh_143 = true := by decide +kernel
set_option maxRecDepth 100000 in
theorem mb_144 : mm_tabB mm_PQ mm_MT mm_stf mm_npf mm_stn mm_sts mm_TX mm_XL mt_144 mh_144 = true := by decide +kernel
set_option maxRecDepth 100000 in
theorem mb_145 : mm_tabB mm_PQ mm_MT mm_stf mm_npf mm_stn mm_sts mm_TX mm_XL mt_145 mh_145 = true := by decide +kernel
set_option maxRecDepth 100000 in
theorem mb_146 : mm_tabB mm_PQ mm_MT mm_stf mm_npf mm_stn mm_sts mm_TX mm_XL mt_146 mh_146 = true := by decide +kernel
set_option maxRecDepth 100000 in
theorem mb_147 : mm_tabB mm_PQ mm_MT mm_stf mm_npf mm_stn mm_sts mm_TX mm_XL mt_147 mh_147 = true := by decide +kernel
set_option maxRecDepth 100000 in
theorem mb_148 : mm_tabB mm_PQ mm_MT mm_stf mm_npf mm_stn mm_sts mm_TX mm_XL mt_148 mh_148 = true := by decide +kernel
set_option maxRecDepth 100000 in
theorem mb_149 : mm_tabB mm_PQ mm_MT mm_stf mm_npf mm_stn mm_sts mm_TX mm_XL mt_149 mh_149 = true := by decide +kernel
set_option maxRecDepth 100000 in
theorem mb_150 : mm_tabB mm_PQ mm_MT mm_stf mm_npf mm_stn mm_sts mm_TX mm_XL mt_150 mh_150 = true := by decide +kernel
set_option maxRecDepth 100000 in
theorem mb_151 : mm_tabB mm_PQ mm_MT mm_stf mm_npf mm_stn mm_sts mm_TX mm_XL mt_151 mh_151 = true := by decide +kernel
set_option maxRecDepth 100000 in
theorem mb_152 : mm_tabB mm_PQ mm_MT mm_stf mm_npf mm_stn mm_sts mm_TX mm_XL mt_152 mh_152 = true := by decide +kernel
set_option maxRecDepth 100000 in
theorem mb_153 : mm_tabB mm_PQ mm_MT mm_stf mm_npf mm_stn mm_sts mm_TX mm_XL mt_153 mh_153 = true := by decide +kernel
set_option maxRecDepth 100000 in
theorem mb_154 : mm_tabB mm_PQ mm_MT mm_stf mm_npf mm_stn mm_sts mm_TX mm_XL mt_154 mh_154 = true := by decide +kernel
set_option maxRecDepth 100000 in
theorem mb_155 : mm_tabB mm_PQ mm_MT mm_stf mm_npf mm_stn mm_sts mm_TX mm_XL mt_155 mh_155 = true := by decide +kernel
set_option maxRecDepth 100000 in
theorem mb_156 : mm_tabB mm_PQ mm_MT mm_stf mm_npf mm_stn mm_sts mm_TX mm_XL mt_156 mh_156 = true := by decide +kernel
set_option maxRecDepth 100000 in
theorem mb_157 : mm_tabB mm_PQ mm_MT mm_stf mm_npf mm_stn mm_sts mm_TX mm_XL mt_157 mh_157 = true := by decide +kernel
set_option maxRecDepth 100000 in
theorem mb_158 : mm_tabB mm_PQ mm_MT mm_stf mm_npf mm_stn mm_sts mm_TX mm_XL mt_158 mh_158 = true := by decide +kernel
set_option maxRecDepth 100000 in
theorem mb_159 : mm_tabB mm_PQ mm_MT mm_stf mm_npf mm_stn mm_sts mm_TX mm_XL mt_159 mh_159 = true := by decide +kernel
set_option maxRecDepth 100000 in
theorem mb_160 : mm_tabB mm_PQ mm_MT mm_stf mm_npf mm_stn mm_sts mm_TX mm_XL mt_160 mh_160 = true := by decide +kernel
set_option maxRecDepth 100000 in
theorem mb_161 : mm_tabB mm_PQ mm_MT mm_stf mm_npf mm_stn mm_sts mm_TX mm_XL mt_161 mh_161 = true := by decide +kernel
set_option maxRecDepth 100000 in
theorem mb_162 : mm_tabB mm_PQ mm_MT mm_stf mm_npf mm_stn mm_sts mm_TX mm_XL mt_162 mh_162 = true := by decide +kernel
set_option maxRecDepth 100000 in
theorem mb_163 : mm_tabB mm_PQ mm_MT mm_stf mm_npf mm_stn mm_sts mm_TX mm_XL mt_163 mh_163 = true := by decide +kernel
set_option maxRecDepth 100000 in
theorem mb_164 : mm_tabB mm_PQ mm_MT mm_stf mm_npf mm_stn mm_sts mm_TX mm_XL mt_164 mh_164 = true := by decide +kernel
set_option maxRecDepth 100000 in
theorem mb_165 : mm_tabB mm_PQ mm_MT mm_stf mm_npf mm_stn mm_sts mm_TX mm_XL mt_165 mh_165 = true := by decide +kernel
set_option maxRecDepth 100000 in
theorem mb_166 : mm_tabB mm_PQ mm_MT mm_stf mm_npf mm_stn mm_sts mm_TX mm_XL mt_166 mh_166 = true := by decide +kernel
set_option maxRecDepth 100000 in
theorem mb_167 : mm_tabB mm_PQ mm_MT mm_stf mm_npf mm_stn mm_sts mm_TX mm_XL mt_167 mh_167 = true := by decide +kernel
set_option maxRecDepth 100000 in
theorem mb_168 : mm_tabB mm_PQ mm_MT mm_stf mm_npf mm_stn mm_sts mm_TX mm_XL mt_168 mh_168 = true := by decide +kernel
set_option maxRecDepth 100000 in
theorem mb_169 : mm_tabB mm_PQ mm_MT mm_stf mm_npf mm_stn mm_sts mm_TX mm_XL mt_169 mh_169 = true := by decide +kernel
set_option maxRecDepth 100000 in
theorem mb_170 : mm_tabB mm_PQ mm_MT mm_stf mm_npf mm_stn mm_sts mm_TX mm_XL mt_170 mh_170 = true := by decide +kernel
set_option maxRecDepth 100000 in
theorem mb_171 : mm_tabB mm_PQ mm_MT mm_stf mm_npf mm_stn mm_sts mm_TX mm_XL mt_171 mh_171 = true := by decide +kernel
set_option maxRecDepth 100000 in
theorem mb_172 : mm_tabB mm_PQ mm_MT mm_stf mm_npf mm_stn mm_sts mm_TX mm_XL mt_172 mh_172 = true := by decide +kernel
set_option maxRecDepth 100000 in
theorem mb_173 : mm_tabB mm_PQ mm_MT mm_stf mm_npf mm_stn mm_sts mm_TX mm_XL mt_173 mh_173 = true := by decide +kernel
set_option maxRecDepth 100000 in
theorem mb_174 : mm_tabB mm_PQ mm_MT mm_stf mm_npf mm_stn mm_sts mm_TX mm_XL mt_174 mh_174 = true := by decide +kernel
set_option maxRecDepth 100000 in
theorem mb_175 : mm_tabB mm_PQ mm_MT mm_stf mm_npf mm_stn mm_sts mm_TX mm_XL mt_175 mh_175 = true := by decide +kernel
set_option maxRecDepth 100000 in
theorem mb_176 : mm_tabB mm_PQ mm_MT mm_stf mm_npf mm_stn mm_sts mm_TX mm_XL mt_176 mh_176 = true := by decide +kernel
set_option maxRecDepth 100000 in
theorem mb_177 : mm_tabB mm_PQ mm_MT mm_stf mm_npf mm_stn mm_sts mm_TX mm_XL mt_177 mh_177 = true := by decide +kernel
set_option maxRecDepth 100000 in
theorem mb_178 : mm_tabB mm_PQ mm_MT mm_stf mm_npf mm_stn mm_sts mm_TX mm_XL mt_178 mh_178 = true := by decide +kernel
set_option maxRecDepth 100000 in
theorem mb_179 : mm_tabB mm_PQ mm_MT mm_stf mm_npf mm_stn mm_sts mm_TX mm_XL mt_179 mh_179 = true := by decide +kernel
