set_option maxRecDepth 100000 in
theorem mb_177 : mm_tabB mm_PQ mm_MT mm_stf mm_npf mm_stn mm_sts mm_TX mm_XL mt_177 mh_177 = true := by decide +kernel
set_option maxRecDepth 100000 in
theorem mb_178 : mm_tabB mm_PQ mm_MT mm_stf mm_npf mm_stn mm_sts mm_TX mm_XL mt_178 mh_178 = true := by decide +kernel
set_option maxRecDepth 100000 in
theorem mb_179 : mm_tabB mm_PQ mm_MT mm_stf mm_npf mm_stn mm_sts mm_TX mm_XL mt_179 mh_179 = true := by decide +kernel
set_option maxRecDepth 100000 in
theorem mb_180 : mm_tabB mm_PQ mm_MT mm_stf mm_npf mm_stn mm_sts mm_TX mm_XL mt_180 mh_180 = true := by decide +kernel
set_option maxRecDepth 100000 in
theorem mb_181 : mm_tabB mm_PQ mm_MT mm_stf mm_npf mm_stn mm_sts mm_TX mm_XL mt_181 mh_181 = true := by decide +kernel
set_option maxRecDepth 100000 in
theorem mb_182 : mm_tabB mm_PQ mm_MT mm_stf mm_npf mm_stn mm_sts mm_TX mm_XL mt_182 mh_182 = true := by decide +kernel
set_option maxRecDepth 100000 in
theorem mb_183 : mm_tabB mm_PQ mm_MT mm_stf mm_npf mm_stn mm_sts mm_TX mm_XL mt_183 mh_183 = true := by decide +kernel
set_option maxRecDepth 100000 in
theorem mb_184 : mm_tabB mm_PQ mm_MT mm_stf mm_npf mm_stn mm_sts mm_TX mm_XL mt_184 mh_184 = true := by decide +kernel
set_option maxRecDepth 100000 in
theorem mb_185 : mm_tabB mm_PQ mm_MT mm_stf mm_npf mm_stn mm_sts mm_TX mm_XL mt_185 mh_185 = true := by decide +kernel
set_option maxRecDepth 100000 in
theorem mb_186 : mm_tabB mm_PQ mm_MT mm_stf mm_npf mm_stn mm_sts mm_TX mm_XL mt_186 mh_186 = true := by decide +kernel
set_option maxRecDepth 100000 in
theorem mb_187 : mm_tabB mm_PQ mm_MT mm_stf mm_npf mm_stn mm_sts mm_TX mm_XL mt_187 mh_187 = true := by decide +kernel
set_option maxRecDepth 100000 in
theorem mb_188 : mm_tabB mm_PQ mm_MT mm_stf mm_npf mm_stn mm_sts mm_TX mm_XL mt_188 mh_188 = true := by decide +kernel
set_option maxRecDepth 100000 in
theorem mb_189 : mm_tabB mm_PQ mm_MT mm_stf mm_npf mm_stn mm_sts mm_TX mm_XL mt_189 mh_189 = true := by decide +kernel
set_option maxRecDepth 100000 in
theorem mb_190 : mm_tabB mm_PQ mm_MT mm_stf mm_npf mm_stn mm_sts mm_TX mm_XL mt_190 mh_190 = true := by decide +kernel
set_option maxRecDepth 100000 in
theorem mb_191 : mm_tabB mm_PQ mm_MT mm_stf mm_npf mm_stn mm_sts mm_TX mm_XL mt_191 mh_191 = true := by decide +kernel
set_option maxRecDepth 100000 in
theorem mb_192 : mm_tabB mm_PQ mm_MT mm_stf mm_npf mm_stn mm_sts mm_TX mm_XL mt_192 mh_192 = true := by decide +kernel
set_option maxRecDepth 100000 in
theorem mb_193 : mm_tabB mm_PQ mm_MT mm_stf mm_npf mm_stn mm_sts mm_TX mm_XL mt_193 mh_193 = true := by decide +kernel
set_option maxRecDepth 100000 in
theorem mb_194 : mm_tabB mm_PQ mm_MT mm_stf mm_npf mm_stn mm_sts mm_TX mm_XL mt_194 mh_194 = true := by decide +kernel
set_option maxRecDepth 100000 in
theorem mb_195 : mm_tabB mm_PQ mm_MT mm_stf mm_npf mm_stn mm_sts mm_TX mm_XL mt_195 mh_195 = true := by decide +kernel
set_option maxRecDepth 100000 in
theorem mb_196 : mm_tabB mm_PQ mm_MT mm_stf mm_npf mm_stn mm_sts mm_TX mm_XL mt_196 mh_196 = true := by decide +kernel
set_option maxRecDepth 100000 in
theorem mb_197 : mm_tabB mm_PQ mm_MT mm_stf mm_npf mm_stn mm_sts mm_TX mm_XL mt_197 mh_197 = true := by decide +kernel
set_option maxRecDepth 100000 in
theorem mb_198 : mm_tabB mm_PQ mm_MT mm_stf mm_npf mm_stn mm_sts mm_TX mm_XL mt_198 mh_198 = true := by decide +kernel
set_option maxRecDepth 100000 in
theorem mb_199 : mm_tabB mm_PQ mm_MT mm_stf mm_npf mm_stn mm_sts mm_TX mm_XL mt_199 mh_199 = true := by decide +kernel
set_option maxRecDepth 100000 in
theorem mb_200 : mm_tabB mm_PQ mm_MT mm_stf mm_npf mm_stn mm_sts mm_TX mm_XL mt_200 mh_200 = true := by decide +kernel
set_option maxRecDepth 100000 in
theorem mb_201 : mm_tabB mm_PQ mm_MT mm_stf mm_npf mm_stn mm_sts mm_TX mm_XL mt_201 mh_201 = true := by decide +kernel
set_option maxRecDepth 100000 in
theorem mb_202 : mm_tabB mm_PQ mm_MT mm_stf mm_npf mm_stn mm_sts mm_TX mm_XL mt_202 mh_202 = true := by decide +kernel
set_option maxRecDepth 100000 in
theorem mb_203 : mm_tabB mm_PQ mm_MT mm_stf mm_npf mm_stn mm_sts mm_TX mm_XL mt_203 mh_203 = true := by decide +kernel
set_option maxRecDepth 100000 in
theorem mb_204 : mm_tabB mm_PQ mm_MT mm_stf mm_npf mm_stn mm_sts mm_TX mm_XL mt_204 mh_204 = true := by decide +kernel
set_option maxRecDepth 100000 in
theorem mb_205 : mm_tabB mm_PQ mm_MT mm_stf mm_npf mm_stn mm_sts mm_TX mm_XL mt_205 mh_205 = true := by decide +kernel
set_option maxRecDepth 100000 in
theorem mb_206 : mm_tabB mm_PQ mm_MT mm_stf mm_npf mm_stn mm_sts mm_TX mm_XL mt_206 mh_206 = true := by decide +kernel
set_option maxRecDepth 100000 in
theorem mb_207 : mm_tabB mm_PQ mm_MT mm_stf mm_npf mm_stn mm_sts mm_TX mm_XL mt_207 mh_207 = true := by decide +kernel
set_option maxRecDepth 100000 in
theorem mb_208 : mm_tabB mm_PQ mm_MT mm_stf mm_npf mm_stn mm_sts mm_TX mm_XL mt_208 mh_208 = true := by decide +kernel
set_option maxRecDepth 100000 in
theorem mb_209 : mm_tabB mm_PQ mm_MT mm_stf mm_npf mm_stn mm_sts mm_TX mm_XL mt_209 mh_209 = true := by decide +kernel
set_option maxRecDepth 100000 in
theorem mb_210 : mm_tabB mm_PQ mm_MT mm_stf mm_npf mm_stn mm_sts mm_TX mm_XL mt_210 mh_210 = true := by decide +kernel
set_option maxRecDepth 100000 in
theorem mb_211 : mm_tabB mm_PQ mm_MT mm_stf mm_npf mm_stn mm_sts mm_TX mm_XL mt_211 mh_211 = true := by decide +kernel
set_option maxRecDepth 100000 in
theorem mb_212 : mm_tabB mm_PQ mm_MT mm_stf mm_npf mm_stn mm_sts mm_TX mm_XL mt_212 mh_212 = true := by decide +kernel
set_option maxRecDepth 100000 in
theorem mb_213 : mm_tabB mm_PQ mm_MT mm_stf mm_npf mm_stn mm_sts mm_TX mm_XL mt_213 mh_213 = true := by decide +kernel
set_option maxRecDepth 100000 in
theorem mb_330 : mm_tabB mm_PQ mm_MT mm_stf mm_npf mm_stn mm_sts mm_TX mm_XL mt_330 mh_330 = true := by decide +kernel
set_option maxRecDepth 100000 in
theorem mb_331 : mm_tabB mm_PQ mm_MT mm_stf mm_npf mm_stn mm_sts mm_TX mm_XL mt_331 mh_331 = true := by decide +kernel
set_option maxRecDepth 100000 in
theorem mb_332 : mm_tabB mm_PQ mm_MT mm_stf mm_npf mm_stn mm_sts mm_TX mm_XL mt_332 mh_332 = true := by decide +kernel
set_option maxRecDepth 100000 in
theorem mb_333 : mm_tabB mm_PQ mm_MT mm_stf mm_npf mm_stn mm_sts mm_TX mm_XL mt_333 mh_333 = true := by decide +kernel
set_option maxRecDepth 100000 in
theorem mb_334 : mm_tabB mm_PQ mm_MT mm_stf mm_npf mm_stn mm_sts mm_TX mm_XL mt_334 mh_334 = true := by decide +kernel
set_option maxRecDepth 100000 in
theorem mb_335 : mm_tabB mm_PQ mm_MT mm_stf mm_npf mm_stn mm_sts mm_TX mm_XL mt_335 mh_335 = true := by decide +kernel
set_option maxRecDepth 100000 in
theorem mb_336 : mm_tabB mm_PQ mm_MT mm_stf mm_npf mm_stn mm_sts mm_TX mm_XL mt_336 mh_336 = true := by decide +kernel
set_option maxRecDepth 100000 in
theorem mb_341 : mm_tabB mm_PQ mm_MT mm_stf mm_npf mm_stn mm_sts mm_TX mm_XL mt_341 mh_341 = true := by decide +kernel
set_option maxRecDepth 100000 in
theorem mb_342 : mm_tabB mm_PQ mm_MT mm_stf mm_npf mm_stn mm_sts mm_TX mm_XL mt_342 mh_342 = true := by decide +kernel
