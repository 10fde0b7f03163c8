set_option maxRecDepth 100000 in
theorem mb_240 : mm_tabB mm_PQ mm_MT mm_stf mm_npf mm_stn mm_sts mm_TX mm_XL mt_240 mh_240 = true := by decide +kernel
set_option maxRecDepth 100000 in
theorem mb_241 : mm_tabB mm_PQ mm_MT mm_stf mm_npf mm_stn mm_sts mm_TX mm_XL mt_241 mh_241 = true := by decide +kernel
set_option maxRecDepth 100000 in
theorem mb_242 : mm_tabB mm_PQ mm_MT mm_stf mm_npf mm_stn mm_sts mm_TX mm_XL mt_242 mh_242 = true := by decide +kernel
set_option maxRecDepth 100000 in
theorem mb_243 : mm_tabB mm_PQ mm_MT mm_stf mm_npf mm_stn mm_sts mm_TX mm_XL mt_243 mh_243 = true := by decide +kernel
set_option maxRecDepth 100000 in
theorem mb_244 : mm_tabB mm_PQ mm_MT mm_stf mm_npf mm_stn mm_sts mm_TX mm_XL mt_244 mh_244 = true := by decide +kernel
set_option maxRecDepth 100000 in
theorem mb_245 : mm_tabB mm_PQ mm_MT mm_stf mm_npf mm_stn mm_sts mm_TX mm_XL mt_245 mh_245 = true := by decide +kernel
set_option maxRecDepth 100000 in
theorem mb_246 : mm_tabB mm_PQ mm_MT mm_stf mm_npf mm_stn mm_sts mm_TX mm_XL mt_246 mh_246 = true := by decide +kernel
set_option maxRecDepth 100000 in
theorem mb_247 : mm_tabB mm_PQ mm_MT mm_stf mm_npf mm_stn mm_sts mm_TX mm_XL mt_247 mh_247 = true := by decide +kernel
set_option maxRecDepth 100000 in
theorem mb_248 : mm_tabB mm_PQ mm_MT mm_stf mm_npf mm_stn mm_sts mm_TX mm_XL mt_248 mh_248 = true := by decide +kernel
set_option maxRecDepth 100000 in
theorem mb_249 : mm_tabB mm_PQ mm_MT mm_stf mm_npf mm_stn mm_sts mm_TX mm_XL mt_249 mh_249 = true := by decide +kernel
set_option maxRecDepth 100000 in
theorem mb_250 : mm_tabB mm_PQ mm_MT mm_stf mm_npf mm_stn mm_sts mm_TX mm_XL mt_250 mh_250 = true := by decide +kernel
set_option maxRecDepth 100000 in
theorem mb_251 : mm_tabB mm_PQ mm_MT mm_stf mm_npf mm_stn mm_sts mm_TX mm_XL mt_251 mh_251 = true := by decide +kernel
set_option maxRecDepth 100000 in
theorem mb_252 : mm_tabB mm_PQ mm_MT mm_stf mm_npf mm_stn mm_sts mm_TX mm_XL mt_252 mh_252 = true := by decide +kernel
set_option maxRecDepth 100000 in
theorem mb_253 : mm_tabB mm_PQ mm_MT mm_stf mm_npf mm_stn mm_sts mm_TX mm_XL mt_253 mh_253 = true := by decide +kernel
set_option maxRecDepth 100000 in
theorem mb_254 : mm_tabB mm_PQ mm_MT mm_stf mm_npf mm_stn mm_sts mm_TX mm_XL mt_254 mh_254 = true := by decide +kernel
set_option maxRecDepth 100000 in
theorem mb_255 : mm_tabB mm_PQ mm_MT mm_stf mm_npf mm_stn mm_sts mm_TX mm_XL mt_255 mh_255 = true := by decide +kernel
set_option maxRecDepth 100000 in
theorem mb_256 : mm_tabB mm_PQ mm_MT mm_stf mm_npf mm_stn mm_sts mm_TX mm_XL mt_256 mh_256 = true := by decide +kernel
set_option maxRecDepth 100000 in
theorem mb_257 : mm_tabB mm_PQ mm_MT mm_stf mm_npf mm_stn mm_sts mm_TX mm_XL mt_257 mh_257 = true := by decide +kernel
set_option maxRecDepth 100000 in
theorem mb_258 : mm_tabB mm_PQ mm_MT mm_stf mm_npf mm_stn mm_sts mm_TX mm_XL mt_258 mh_258 = true := by decide +kernel
set_option maxRecDepth 100000 in
theorem mb_259 : mm_tabB mm_PQ mm_MT mm_stf mm_npf mm_stn mm_sts mm_TX mm_XL mt_259 mh_259 = true := by decide +kernel
set_option maxRecDepth 100000 in
theorem mb_260 : mm_tabB mm_PQ mm_MT mm_stf mm_npf mm_stn mm_sts mm_TX mm_XL mt_260 mh_260 = true := by decide +kernel
set_option maxRecDepth 100000 in
theorem mb_261 : mm_tabB mm_PQ mm_MT mm_stf mm_npf mm_stn mm_sts mm_TX mm_XL mt_261 mh_261 = true := by decide +kernel
set_option maxRecDepth 100000 in
theorem mb_262 : mm_tabB mm_PQ mm_MT mm_stf mm_npf mm_stn mm_sts mm_TX mm_XL mt_262 mh_262 = true := by decide +kernel
set_option maxRecDepth 100000 in
theorem mb_263 : mm_tabB mm_PQ mm_MT mm_stf mm_npf mm_stn mm_sts mm_TX mm_XL mt_263 mh_263 = true := by decide +kernel
set_option maxRecDepth 100000 in
theorem mb_264 : mm_tabB mm_PQ mm_MT mm_stf mm_npf mm_stn mm_sts mm_TX mm_XL mt_264 mh_264 = true := by decide +kernel
set_option maxRecDepth 100000 in
theorem mb_265 : mm_tabB mm_PQ mm_MT mm_stf mm_npf mm_stn mm_sts mm_TX mm_XL mt_265 mh_265 = true := by decide +kernel
set_option maxRecDepth 100000 in
theorem mb_266 : mm_tabB mm_PQ mm_MT mm_stf mm_npf mm_stn mm_sts mm_TX mm_XL mt_266 mh_266 = true := by decide +kernel
set_option maxRecDepth 100000 in
theorem mb_267 : mm_tabB mm_PQ mm_MT mm_stf mm_npf mm_stn mm_sts mm_TX mm_XL mt_267 mh_267 = true := by decide +kernel
set_option maxRecDepth 100000 in
theorem mb_268 : mm_tabB mm_PQ mm_MT mm_stf mm_npf mm_stn mm_sts mm_TX mm_XL mt_268 mh_268 = true := by decide +kernel
set_option maxRecDepth 100000 in
theorem mb_269 : mm_tabB mm_PQ mm_MT mm_stf mm_npf mm_stn mm_sts mm_TX mm_XL mt_269 mh_269 = true := by decide +kernel
set_option maxRecDepth 100000 in
theorem mb_270 : mm_tabB mm_PQ mm_MT mm_stf mm_npf mm_stn mm_sts mm_TX mm_XL mt_270 mh_270 = true := by decide +kernel
set_option maxRecDepth 100000 in
theorem mb_271 : mm_tabB mm_PQ mm_MT mm_stf mm_npf mm_stn mm_sts mm_TX mm_XL mt_271 mh_271 = true := by decide +kernel
set_option maxRecDepth 100000 in
theorem mb_272 : mm_tabB mm_PQ mm_MT mm_stf mm_npf mm_stn mm_sts mm_TX mm_XL mt_272 mh_272 = true := by decide +kernel
set_option maxRecDepth 100000 in
theorem mb_273 : mm_tabB mm_PQ mm_MT mm_stf mm_npf mm_stn mm_sts mm_TX mm_XL mt_273 mh_273 = true := by decide +kernel
set_option maxRecDepth 100000 in
theorem mb_274 : mm_tabB mm_PQ mm_MT mm_stf mm_npf mm_stn mm_sts mm_TX mm_XL mt_274 mh_274 = true := by decide +kernel
set_option maxRecDepth 100000 in
theorem mb_275 : mm_tabB mm_PQ mm_MT mm_stf mm_npf mm_stn mm_sts mm_TX mm_XL mt_275 mh_275 = true := by decide +kernel
set_option maxRecDepth 100000 in
theorem mb_276 : mm_tabB mm_PQ mm_MT mm_stf mm_npf mm_stn mm_sts mm_TX mm_XL mt_276 mh_276 = true := by decide +kernel
set_option maxRecDepth 100000 in
theorem mb_277 : mm_tabB mm_PQ mm_MT mm_stf mm_npf mm_stn mm_sts mm_TX mm_XL mt_277 mh_277 = true := by decide +kernel
set_option maxRecDepth 100000 in
theorem mb_278 : mm_tabB mm_PQ mm_MT mm_stf mm_npf mm_stn mm_sts mm_TX mm_XL mt_278 mh_278 = true := by decide +kernel
set_option maxRecDepth 100000 in
theorem mb_279 : mm_tabB mm_PQ mm_MT mm_stf mm_npf mm_stn mm_sts mm_TX mm_XL mt_279 mh_279 = true := by decide +kernel
set_option maxRecDepth 100000 in
theorem mb_280 : mm_tabB mm_PQ mm_MT mm_stf mm_npf mm_stn mm_sts mm_TX mm_XL mt_280 mh_280 = true := by decide +kernel
set_option maxRecDepth 100000 in
theorem mb_281 : mm_tabB mm_PQ mm_MT mm_stf mm_npf mm_stn mm_sts mm_TX mm_XL mt_281 mh_281 = true := by decide +kernel
set_option maxRecDepth 100000 in
theorem mb_282 : mm_tabB mm_PQ mm_MT mm_stf mm_npf mm_stn mm_sts mm_TX mm_XL mt_282 mh_282 = true := by decide +kernel
set_option maxRecDepth 100000 in
theorem mb_283 : mm_tabB mm_PQ mm_MT mm_stf mm_npf mm_stn mm_sts mm_TX mm_XL mt_283 mh_283 = true := by decide +kernel
set_option maxRecDepth 100000 in
theorem mb_284 : mm_tabB mm_PQ mm_MT mm_stf mm_npf mm_stn mm_sts mm_TX mm_XL mt_284 mh_284 = true := by decide +kernel
set_option maxRecDepth 100000 in
theorem mb_285 : mm_tabB mm_PQ mm_MT mm_stf mm_npf mm_stn mm_sts mm_TX mm_XL mt_285 mh_285 = true := by decide +kernel
set_option maxRecDepth 100000 in
theorem mb_286 : mm_tabB mm_PQ mm_MT mm_stf mm_npf mm_stn mm_sts mm_TX mm_XL mt_286 mh_286 = true := by decide +kernel
set_option maxRecDepth 100000 in
theorem mb_287 : mm_tabB mm_PQ mm_MT mm_stf mm_npf mm_stn mm_sts mm_TX mm_XL mt_287 mh_287 = true := by decide +kernel
set_option maxRecDepth 100000 in
theorem mb_288 : mm_tabB mm_PQ mm_MT mm_stf mm_npf mm_stn mm_sts mm_TX mm_XL mt_288 mh_288 = true := by decide +kernel
set_option maxRecDepth 100000 in
theorem mb_289 : mm_tabB mm_PQ mm_MT mm_stf mm_npf mm_stn mm_sts mm_TX mm_XL mt_289 mh_289 = true := by decide +kernel
set_option maxRecDepth 100000 in
theorem mb_290 : mm_tabB mm_PQ mm_MT mm_stf mm_npf mm_stn mm_sts mm_TX mm_XL mt_290 mh_290 = true := by decide +kernel
set_option maxRecDepth 100000 in
theorem mb_291 : mm_tabB mm_PQ mm_MT mm_stf mm_npf mm_stn mm_sts mm_TX mm_XL mt_291 mh_291 = true := by decide +kernel
set_option maxRecDepth 100000 in
theorem mb_292 : mm_tabB mm_PQ mm_MT mm_stf mm_npf mm_stn mm_sts mm_TX mm_XL mt_292 mh_292 = true := by decide +kernel
set_option maxRecDepth 100000 in
theorem mb_293 : mm_tabB mm_PQ mm_MT mm_stf mm_npf mm_stn mm_sts mm_TX mm_XL mt_293 mh_293 = true := by decide +kernel
set_option maxRecDepth 100000 in
theorem mb_294 : mm_tabB mm_PQ mm_MT mm_stf mm_npf mm_stn mm_sts mm_TX mm_XL mt_294 mh_294 = true := by decide +kernel
set_option maxRecDepth 100000 in
theorem mb_295 : mm_tabB mm_PQ mm_MT mm_stf mm_npf mm_stn mm_sts mm_TX mm_XL mt_295 mh_295 = true := by decide +kernel
set_option maxRecDepth 100000 in
theorem mb_296 : mm_tabB mm_PQ mm_MT mm_stf mm_npf mm_stn mm_sts mm_TX mm_XL mt_296 mh_296 = true := by decide +kernel
set_option maxRecDepth 100000 in
theorem mb_297 : mm_tabB mm_PQ mm_MT mm_stf mm_npf mm_stn mm_sts mm_TX mm_XL mt_297 mh_297 = true := by decide +kernel
set_option maxRecDepth 100000 in
theorem mb_298 : mm_tabB mm_PQ mm_MT mm_stf mm_npf mm_stn mm_sts mm_TX mm_XL mt_298 mh_298 = true := by decide +kernel
set_option maxRecDepth 100000 in
theorem mb_299 : mm_tabB mm_PQ mm_MT mm_stf mm_npf mm_stn mm_sts mm_TX mm_XL mt_299 mh_299 = true := by decide +kernel
