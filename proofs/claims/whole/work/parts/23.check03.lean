set_option maxRecDepth 100000 in
theorem mb_180 : mm_tabB mm_PQ mm_MT mm_stf mm_npf mm_stn mm_sts mm_TX mm_XL mt_180 mh_180 = true := by decide +kernel
set_option maxRecDepth 100000 in
theorem mb_181 : mm_tabB mm_PQ mm_MT mm_stf mm_npf mm_stn mm_sts mm_TX mm_XL mt_181 mh_181 = true := by decide +kernel
set_option maxRecDepth 100000 in
theorem mb_182 : mm_tabB mm_PQ mm_MT mm_stf mm_npf mm_stn mm_sts mm_TX mm_XL mt_182 mh_182 = true := by decide +kernel
set_option maxRecDepth 100000 in
theorem mb_183 : mm_tabB mm_PQ mm_MT mm_stf mm_npf mm_stn mm_sts mm_TX mm_XL mt_183 mh_183 = true := by decide +kernel
set_option maxRecDepth 100000 in
theorem mb_184 : mm_tabB mm_PQ mm_MT mm_stf mm_npf mm_stn mm_sts mm_TX mm_XL mt_184 mh_184 = true := by decide +kernel
set_option maxRecDepth 100000 in
theorem mb_185 : mm_tabB mm_PQ mm_MT mm_stf mm_npf mm_stn mm_sts mm_TX mm_XL mt_185 mh_185 = true := by decide +kernel
set_option maxRecDepth 100000 in
theorem mb_186 : mm_tabB mm_PQ mm_MT mm_stf mm_npf mm_stn mm_sts mm_TX mm_XL mt_186 mh_186 = true := by decide +kernel
set_option maxRecDepth 100000 in
theorem mb_187 : mm_tabB mm_PQ mm_MT mm_stf mm_npf mm_stn mm_sts mm_TX mm_XL mt_187 mh_187 = true := by decide +kernel
set_option maxRecDepth 100000 in
theorem mb_188 : mm_tabB mm_PQ mm_MT mm_stf mm_npf mm_stn mm_sts mm_TX mm_XL mt_188 mh_188 = true := by decide +kernel
set_option maxRecDepth 100000 in
theorem mb_189 : mm_tabB mm_PQ mm_MT mm_stf mm_npf mm_stn mm_sts mm_TX mm_XL mt_189 mh_189 = true := by decide +kernel
set_option maxRecDepth 100000 in
theorem mb_190 : mm_tabB mm_PQ mm_MT mm_stf mm_npf mm_stn mm_sts mm_TX mm_XL mt_190 mh_190 = true := by decide +kernel
set_option maxRecDepth 100000 in
theorem mb_191 : mm_tabB mm_PQ mm_MT mm_stf mm_npf mm_stn mm_sts mm_TX mm_XL mt_191 mh_191 = true := by decide +kernel
set_option maxRecDepth 100000 in
theorem mb_192 : mm_tabB mm_PQ mm_MT mm_stf mm_npf mm_stn mm_sts mm_TX mm_XL mt_192 mh_192 = true := by decide +kernel
set_option maxRecDepth 100000 in
theorem mb_193 : mm_tabB mm_PQ mm_MT mm_stf mm_npf mm_stn mm_sts mm_TX mm_XL mt_193 mh_193 = true := by decide +kernel
set_option maxRecDepth 100000 in
theorem mb_194 : mm_tabB mm_PQ mm_MT mm_stf mm_npf mm_stn mm_sts mm_TX mm_XL mt_194 mh_194 = true := by decide +kernel
set_option maxRecDepth 100000 in
theorem mb_195 : mm_tabB mm_PQ mm_MT mm_stf mm_npf mm_stn mm_sts mm_TX mm_XL mt_195 mh_195 = true := by decide +kernel
set_option maxRecDepth 100000 in
theorem mb_196 : mm_tabB mm_PQ mm_MT mm_stf mm_npf mm_stn mm_sts mm_TX mm_XL mt_196 mh_196 = true := by decide +kernel
set_option maxRecDepth 100000 in
theorem mb_197 : mm_tabB mm_PQ mm_MT mm_stf mm_npf mm_stn mm_sts mm_TX mm_XL mt_197 mh_197 = true := by decide +kernel
set_option maxRecDepth 100000 in
theorem mb_198 : mm_tabB mm_PQ mm_MT mm_stf mm_npf mm_stn mm_sts mm_TX mm_XL mt_198 mh_198 = true := by decide +kernel
set_option maxRecDepth 100000 in
theorem mb_199 : mm_tabB mm_PQ mm_MT mm_stf mm_npf mm_stn mm_sts mm_TX mm_XL mt_199 mh_199 = true := by decide +kernel
set_option maxRecDepth 100000 in
theorem mb_200 : mm_tabB mm_PQ mm_MT mm_stf mm_npf mm_stn mm_sts mm_TX mm_XL mt_200 mh_200 = true := by decide +kernel
set_option maxRecDepth 100000 in
theorem mb_201 : mm_tabB mm_PQ mm_MT mm_stf mm_npf mm_stn mm_sts mm_TX mm_XL mt_201 mh_201 = true := by decide +kernel
set_option maxRecDepth 100000 in
theorem mb_202 : mm_tabB mm_PQ mm_MT mm_stf mm_npf mm_stn mm_sts mm_TX mm_XL mt_202 mh_202 = true := by decide +kernel
set_option maxRecDepth 100000 in
theorem mb_203 : mm_tabB mm_PQ mm_MT mm_stf mm_npf mm_stn mm_sts mm_TX mm_XL mt_203 mh_203 = true := by decide +kernel
set_option maxRecDepth 100000 in
theorem mb_204 : mm_tabB mm_PQ mm_MT mm_stf mm_npf mm_stn mm_sts mm_TX mm_XL mt_204 mh_204 = true := by decide +kernel
set_option maxRecDepth 100000 in
theorem mb_205 : mm_tabB mm_PQ mm_MT mm_stf mm_npf mm_stn mm_sts mm_TX mm_XL mt_205 mh_205 = true := by decide +kernel
set_option maxRecDepth 100000 in
theorem mb_206 : mm_tabB mm_PQ mm_MT mm_stf mm_npf mm_stn mm_sts mm_TX mm_XL mt_206 mh_206 = true := by decide +kernel
set_option maxRecDepth 100000 in
theorem mb_207 : mm_tabB mm_PQ mm_MT mm_stf mm_npf mm_stn mm_sts mm_TX mm_XL mt_207 mh_207 = true := by decide +kernel
set_option maxRecDepth 100000 in
theorem mb_208 : mm_tabB mm_PQ mm_MT mm_stf mm_npf mm_stn mm_sts mm_TX mm_XL mt_208 mh_208 = true := by decide +kernel
set_option maxRecDepth 100000 in
theorem mb_209 : mm_tabB mm_PQ mm_MT mm_stf mm_npf mm_stn mm_sts mm_TX mm_XL mt_209 mh_209 = true := by decide +kernel
set_option maxRecDepth 100000 in
theorem mb_210 : mm_tabB mm_PQ mm_MT mm_stf mm_npf mm_stn mm_sts mm_TX mm_XL mt_210 mh_210 = true := by decide +kernel
set_option maxRecDepth 100000 in
theorem mb_211 : mm_tabB mm_PQ mm_MT mm_stf mm_npf mm_stn mm_sts mm_TX mm_XL mt_211 mh_211 = true := by decide +kernel
set_option maxRecDepth 100000 in
theorem mb_212 : mm_tabB mm_PQ mm_MT mm_stf mm_npf mm_stn mm_sts mm_TX mm_XL mt_212 mh_212 = true := by decide +kernel
set_option maxRecDepth 100000 in
theorem mb_213 : mm_tabB mm_PQ mm_MT mm_stf mm_npf mm_stn mm_sts mm_TX mm_XL mt_213 mh_213 = true := by decide +kernel
set_option maxRecDepth 100000 in
theorem mb_214 : mm_tabB mm_PQ mm_MT mm_stf mm_npf mm_stn mm_sts mm_TX mm_XL mt_214 mh_214 = true := by decide +kernel
set_option maxRecDepth 100000 in
theorem mb_215 : mm_tabB mm_PQ mm_MT mm_stf mm_npf mm_stn mm_sts mm_TX mm_XL mt_215 mh_215 = true := by decide +kernel
set_option maxRecDepth 100000 in
theorem mb_216 : mm_tabB mm_PQ mm_MT mm_stf mm_npf mm_stn mm_sts mm_TX mm_XL mt_216 mh_216 = true := by decide +kernel
set_option maxRecDepth 100000 in
theorem mb_217 : mm_tabB mm_PQ mm_MT mm_stf mm_npf mm_stn mm_sts mm_TX mm_XL mt_217 mh_217 = true := by decide +kernel
set_option maxRecDepth 100000 in
theorem mb_218 : mm_tabB mm_PQ mm_MT mm_stf mm_npf mm_stn mm_sts mm_TX mm_XL mt_218 mh_218 = true := by decide +kernel
set_option maxRecDepth 100000 in
theorem mb_219 : mm_tabB mm_PQ mm_MT mm_stf mm_npf mm_stn mm_sts mm_TX mm_XL mt_219 mh_219 = true := by decide +kernel
set_option maxRecDepth 100000 in
theorem mb_220 : mm_tabB mm_PQ mm_MT mm_stf mm_npf mm_stn mm_sts mm_TX mm_XL mt_220 mh_220 = true := by decide +kernel
set_option maxRecDepth 100000 in
theorem mb_221 : mm_tabB mm_PQ mm_MT mm_stf mm_npf mm_stn mm_sts mm_TX mm_XL mt_221 mh_221 = true := by decide +kernel
set_option maxRecDepth 100000 in
theorem mb_222 : mm_tabB mm_PQ mm_MT mm_stf mm_npf mm_stn mm_sts mm_TX mm_XL mt_222 mh_222 = true := by decide +kernel
set_option maxRecDepth 100000 in
theorem mb_223 : mm_tabB mm_PQ mm_MT mm_stf mm_npf mm_stn mm_sts mm_TX mm_XL mt_223 mh_223 = true := by decide +kernel
set_option maxRecDepth 100000 in
theorem mb_224 : mm_tabB mm_PQ mm_MT mm_stf mm_npf mm_stn mm_sts mm_TX mm_XL mt_224 mh_224 = true := by decide +kernel
set_option maxRecDepth 100000 in
theorem mb_225 : mm_tabB mm_PQ mm_MT mm_stf mm_npf mm_stn mm_sts mm_TX mm_XL mt_225 mh_225 = true := by decide +kernel
set_option maxRecDepth 100000 in
theorem mb_226 : mm_tabB mm_PQ mm_MT mm_stf mm_npf mm_stn mm_sts mm_TX mm_XL mt_226 mh_226 = true := by decide +kernel
set_option maxRecDepth 100000 in
theorem mb_227 : mm_tabB mm_PQ mm_MT mm_stf mm_npf mm_stn mm_sts mm_TX mm_XL mt_227 mh_227 = true := by decide +kernel
set_option maxRecDepth 100000 in
theorem mb_228 : mm_tabB mm_PQ mm_MT mm_stf mm_npf mm_stn mm_sts mm_TX mm_XL mt_228 mh_228 = true := by decide +kernel
set_option maxRecDepth 100000 in
theorem mb_229 : mm_tabB mm_PQ mm_MT mm_stf mm_npf mm_stn mm_sts mm_TX mm_XL mt_229 mh_229 = true := by decide +kernel
set_option maxRecDepth 100000 in
theorem mb_230 : mm_tabB mm_PQ mm_MT mm_stf mm_npf mm_stn mm_sts mm_TX mm_XL mt_230 mh_230 = true := by decide +kernel
set_option maxRecDepth 100000 in
theorem mb_231 : mm_tabB mm_PQ mm_MT mm_stf mm_npf mm_stn mm_sts mm_TX mm_XL mt_231 mh_231 = true := by decide +kernel
set_option maxRecDepth 100000 in
theorem mb_232 : mm_tabB mm_PQ mm_MT mm_stf mm_npf mm_stn mm_sts mm_TX mm_XL mt_232 mh_232 = true := by decide +kernel
set_option maxRecDepth 100000 in
theorem mb_233 : mm_tabB mm_PQ mm_MT mm_stf mm_npf mm_stn mm_sts mm_TX mm_XL mt_233 mh_233 = true := by decide +kernel
set_option maxRecDepth 100000 in
theorem mb_234 : mm_tabB mm_PQ mm_MT mm_stf mm_npf mm_stn mm_sts mm_TX mm_XL mt_234 mh_234 = true := by decide +kernel
set_option maxRecDepth 100000 in
theorem mb_235 : mm_tabB mm_PQ mm_MT mm_stf mm_npf mm_stn mm_sts mm_TX mm_XL mt_235 mh_235 = true := by decide +kernel
set_option maxRecDepth 100000 in
theorem mb_236 : mm_tabB mm_PQ mm_MT mm_stf mm_npf mm_stn mm_sts mm_TX mm_XL mt_236 mh_236 = true := by decide +kernel
set_option maxRecDepth 100000 in
theorem mb_237 : mm_tabB mm_PQ mm_MT mm_stf mm_npf mm_stn mm_sts mm_TX mm_XL mt_237 mh_237 = true := by decide +kernel
set_option maxRecDepth 100000 in
theorem mb_238 : mm_tabB mm_PQ mm_MT mm_stf mm_npf mm_stn mm_sts mm_TX mm_XL mt_238 mh_238 = true := by decide +kernel
set_option maxRecDepth 100000 in
theorem mb_239 : mm_tabB mm_PQ mm_MT mm_stf mm_npf mm_stn mm_sts mm_TX mm_XL mt_239 mh_239 = true := by decide +kernel
