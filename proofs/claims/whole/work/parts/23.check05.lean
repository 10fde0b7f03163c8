set_option maxRecDepth 100000 in
theorem mb_300 : mm_tabB mm_PQ mm_MT mm_stf mm_npf mm_stn mm_sts mm_TX mm_XL mt_300 mh_300 = true := by decide +kernel
set_option maxRecDepth 100000 in
theorem mb_301 : mm_tabB mm_PQ mm_MT mm_stf mm_npf mm_stn mm_sts mm_TX mm_XL mt_301 mh_301 = true := by decide +kernel
set_option maxRecDepth 100000 in
theorem mb_302 : mm_tabB mm_PQ mm_MT mm_stf mm_npf mm_stn mm_sts mm_TX mm_XL mt_302 mh_302 = true := by decide +kernel
set_option maxRecDepth 100000 in
theorem mb_303 : mm_tabB mm_PQ mm_MT mm_stf mm_npf mm_stn mm_sts mm_TX mm_XL mt_303 mh_303 = true := by decide +kernel
set_option maxRecDepth 100000 in
theorem mb_304 : mm_tabB mm_PQ mm_MT mm_stf mm_npf mm_stn mm_sts mm_TX mm_XL mt_304 mh_304 = true := by decide +kernel
set_option maxRecDepth 100000 in
theorem mb_305 : mm_tabB mm_PQ mm_MT mm_stf mm_npf mm_stn mm_sts mm_TX mm_XL mt_305 mh_305 = true := by decide +kernel
set_option maxRecDepth 100000 in
theorem mb_306 : mm_tabB mm_PQ mm_MT mm_stf mm_npf mm_stn mm_sts mm_TX mm_XL mt_306 mh_306 = true := by decide +kernel
set_option maxRecDepth 100000 in
theorem mb_307 : mm_tabB mm_PQ mm_MT mm_stf mm_npf mm_stn mm_sts mm_TX mm_XL mt_307 mh_307 = true := by decide +kernel
set_option maxRecDepth 100000 in
theorem mb_308 : mm_tabB mm_PQ mm_MT mm_stf mm_npf mm_stn mm_sts mm_TX mm_XL mt_308 mh_308 = true := by decide +kernel
set_option maxRecDepth 100000 in
theorem mb_309 : mm_tabB mm_PQ mm_MT mm_stf mm_npf mm_stn mm_sts mm_TX mm_XL mt_309 mh_309 = true := by decide +kernel
set_option maxRecDepth 100000 in
theorem mb_310 : mm_tabB mm_PQ mm_MT mm_stf mm_npf mm_stn mm_sts mm_TX mm_XL mt_310 mh_310 = true := by decide +kernel
set_option maxRecDepth 100000 in
theorem mb_311 : mm_tabB mm_PQ mm_MT mm_stf mm_npf mm_stn mm_sts mm_TX mm_XL mt_311 mh_311 = true := by decide +kernel
set_option maxRecDepth 100000 in
theorem mb_312 : mm_tabB mm_PQ mm_MT mm_stf mm_npf mm_stn mm_sts mm_TX mm_XL mt_312 mh_312 = true := by decide +kernel
set_option maxRecDepth 100000 in
theorem mb_313 : mm_tabB mm_PQ mm_MT mm_stf mm_npf mm_stn mm_sts mm_TX mm_XL mt_313 mh_313 = true := by decide +kernel
set_option maxRecDepth 100000 in
theorem mb_314 : mm_tabB mm_PQ mm_MT mm_stf mm_npf mm_stn mm_sts mm_TX mm_XL mt_314 mh_314 = true := by decide +kernel
set_option maxRecDepth 100000 in
theorem mb_315 : mm_tabB mm_PQ mm_MT mm_stf mm_npf mm_stn mm_sts mm_TX mm_XL mt_315 mh_315 = true := by decide +kernel
set_option maxRecDepth 100000 in
theorem mb_316 : mm_tabB mm_PQ mm_MT mm_stf mm_npf mm_stn mm_sts mm_TX mm_XL mt_316 mh_316 = true := by decide +kernel
set_option maxRecDepth 100000 in
theorem mb_317 : mm_tabB mm_PQ mm_MT mm_stf mm_npf mm_stn mm_sts mm_TX mm_XL mt_317 mh_317 = true := by decide +kernel
set_option maxRecDepth 100000 in
theorem mb_318 : mm_tabB mm_PQ mm_MT mm_stf mm_npf mm_stn mm_sts mm_TX mm_XL mt_318 mh_318 = true := by decide +kernel
set_option maxRecDepth 100000 in
theorem mb_319 : mm_tabB mm_PQ mm_MT mm_stf mm_npf mm_stn mm_sts mm_TX mm_XL mt_319 mh_319 = true := by decide +kernel
set_option maxRecDepth 100000 in
theorem mb_320 : mm_tabB mm_PQ mm_MT mm_stf mm_npf mm_stn mm_sts mm_TX mm_XL mt_320 mh_320 = true := by decide +kernel
set_option maxRecDepth 100000 in
theorem mb_321 : mm_tabB mm_PQ mm_MT mm_stf mm_npf mm_stn mm_sts mm_TX mm_XL mt_321 mh_321 = true := by decide +kernel
set_option maxRecDepth 100000 in
theorem mb_322 : mm_tabB mm_PQ mm_MT mm_stf mm_npf mm_stn mm_sts mm_TX mm_XL mt_322 mh_322 = true := by decide +kernel
set_option maxRecDepth 100000 in
theorem mb_323 : mm_tabB mm_PQ mm_MT mm_stf mm_npf mm_stn mm_sts mm_TX mm_XL mt_323 mh_323 = true := by decide +kernel
set_option maxRecDepth 100000 in
theorem mb_324 : mm_tabB mm_PQ mm_MT mm_stf mm_npf mm_stn mm_sts mm_TX mm_XL mt_324 mh_324 = true := by decide +kernel
set_option maxRecDepth 100000 in
theorem mb_325 : mm_tabB mm_PQ mm_MT mm_stf mm_npf mm_stn mm_sts mm_TX mm_XL mt_325 mh_325 = true := by decide +kernel
set_option maxRecDepth 100000 in
theorem mb_326 : mm_tabB mm_PQ mm_MT mm_stf mm_npf mm_stn mm_sts mm_TX mm_XL mt_326 mh_326 = true := by decide +kernel
set_option maxRecDepth 100000 in
theorem mb_327 : mm_tabB mm_PQ mm_MT mm_stf mm_npf mm_stn mm_sts mm_TX mm_XL mt_327 mh_327 = true := by decide +kernel
set_option maxRecDepth 100000 in
theorem mb_328 : mm_tabB mm_PQ mm_MT mm_stf mm_npf mm_stn mm_sts mm_TX mm_XL mt_328 mh_328 = true := by decide +kernel
set_option maxRecDepth 100000 in
theorem mb_329 : mm_tabB mm_PQ mm_MT mm_stf mm_npf mm_stn mm_sts mm_TX mm_XL mt_329 mh_329 = true := by decide +kernel
set_option maxRecDepth 100000 in
theorem mb_330 : mm_tabB mm_PQ mm_MT mm_stf mm_npf mm_stn mm_sts mm_TX mm_XL mt_330 mh_330 = true := by decide +kernel
set_option maxRecDepth 100000 in
theorem mb_331 : mm_tabB mm_PQ mm_MT mm_stf mm_npf mm_stn mm_sts mm_TX mm_XL mt_331 mh_331 = true := by decide +kernel
set_option maxRecDepth 100000 in
theorem mb_332 : mm_tabB mm_PQ mm_MT mm_stf mm_npf mm_stn mm_sts mm_TX mm_XL mt_332 mh_332 = true := by decide +kernel
set_option maxRecDepth 100000 in
theorem mb_333 : mm_tabB mm_PQ mm_MT mm_stf mm_npf mm_stn mm_sts mm_TX mm_XL mt_333 mh_333 = true := by decide +kernel
set_option maxRecDepth 100000 in
theorem mb_334 : mm_tabB mm_PQ mm_MT mm_stf mm_npf mm_stn mm_sts mm_TX mm_XL mt_334 mh_334 = true := by decide +kernel
set_option maxRecDepth 100000 in
theorem mb_335 : mm_tabB mm_PQ mm_MT mm_stf mm_npf mm_stn mm_sts mm_TX mm_XL mt_335 mh_335 = true := by decide +kernel
set_option maxRecDepth 100000 in
theorem mb_336 : mm_tabB mm_PQ mm_MT mm_stf mm_npf mm_stn mm_sts mm_TX mm_XL mt_336 mh_336 = true := by decide +kernel
set_option maxRecDepth 100000 in
theorem mb_337 : mm_tabB mm_PQ mm_MT mm_stf mm_npf mm_stn mm_sts mm_TX mm_XL mt_337 mh_337 = true := by decide +kernel
set_option maxRecDepth 100000 in
theorem mb_338 : mm_tabB mm_PQ mm_MT mm_stf mm_npf mm_stn mm_sts mm_TX mm_XL mt_338 mh_338 = true := by decide +kernel
set_option maxRecDepth 100000 in
theorem mb_339 : mm_tabB mm_PQ mm_MT mm_stf mm_npf mm_stn mm_sts mm_TX mm_XL mt_339 mh_339 = true := by decide +kernel
set_option maxRecDepth 100000 in
theorem mb_340 : mm_tabB mm_PQ mm_MT mm_stf mm_npf mm_stn mm_sts mm_TX mm_XL mt_340 mh_340 = true := by decide +kernel
set_option maxRecDepth 100000 in
theorem mb_341 : mm_tabB mm_PQ mm_MT mm_stf mm_npf mm_stn mm_sts mm_TX mm_XL mt_341 mh_341 = true := by decide +kernel
set_option maxRecDepth 100000 in
theorem mb_342 : mm_tabB mm_PQ mm_MT mm_stf mm_npf mm_stn mm_sts mm_TX mm_XL mt_342 mh_342 = true := by decide +kernel
set_option maxRecDepth 100000 in
theorem mb_343 : mm_tabB mm_PQ mm_MT mm_stf mm_npf mm_stn mm_sts mm_TX mm_XL mt_343 mh_343 = true := by decide +kernel
set_option maxRecDepth 100000 in
theorem mb_344 : mm_tabB mm_PQ mm_MT mm_stf mm_npf mm_stn mm_sts mm_TX mm_XL mt_344 mh_344 = true := by decide +kernel
set_option maxRecDepth 100000 in
theorem mb_345 : mm_tabB mm_PQ mm_MT mm_stf mm_npf mm_stn mm_sts mm_TX mm_XL mt_345 mh_345 = true := by decide +kernel
set_option maxRecDepth 100000 in
theorem mb_346 : mm_tabB mm_PQ mm_MT mm_stf mm_npf mm_stn mm_sts mm_TX mm_XL mt_346 mh_346 = true := by decide +kernel
set_option maxRecDepth 100000 in
theorem mb_347 : mm_tabB mm_PQ mm_MT mm_stf mm_npf mm_stn mm_sts mm_TX mm_XL mt_347 mh_347 = true := by decide +kernel
set_option maxRecDepth 100000 in
theorem mb_348 : mm_tabB mm_PQ mm_MT mm_stf mm_npf mm_stn mm_sts mm_TX mm_XL mt_348 mh_348 = true := by decide +kernel
set_option maxRecDepth 100000 in
theorem mb_349 : mm_tabB mm_PQ mm_MT mm_stf mm_npf mm_stn mm_sts mm_TX mm_XL mt_349 mh_349 = true := by decide +kernel
set_option maxRecDepth 100000 in
theorem mb_350 : mm_tabB mm_PQ mm_MT mm_stf mm_npf mm_stn mm_sts mm_TX mm_XL mt_350 mh_350 = true := by decide +kernel
set_option maxRecDepth 100000 in
theorem mb_351 : mm_tabB mm_PQ mm_MT mm_stf mm_npf mm_stn mm_sts mm_TX mm_XL mt_351 mh_351 = true := by decide +kernel
set_option maxRecDepth 100000 in
theorem mb_352 : mm_tabB mm_PQ mm_MT mm_stf mm_npf mm_stn mm_sts mm_TX mm_XL mt_352 mh_352 = true := by decide +kernel
set_option maxRecDepth 100000 in
theorem mb_353 : mm_tabB mm_PQ mm_MT mm_stf mm_npf mm_stn mm_sts mm_TX mm_XL mt_353 mh_353 = true := by decide +kernel
set_option maxRecDepth 100000 in
theorem mb_354 : mm_tabB mm_PQ mm_MT mm_stf mm_npf mm_stn mm_sts mm_TX mm_XL mt_354 mh_354 = true := by decide +kernel
set_option maxRecDepth 100000 in
theorem mb_355 : mm_tabB mm_PQ mm_MT mm_stf mm_npf mm_stn mm_sts mm_TX mm_XL mt_355 mh_355 = true := by decide +kernel
set_option maxRecDepth 100000 in
theorem mb_356 : mm_tabB mm_PQ mm_MT mm_stf mm_npf mm_stn mm_sts mm_TX mm_XL mt_356 mh_356 = true := by decide +kernel
set_option maxRecDepth 100000 in
theorem mb_357 : mm_tabB mm_PQ mm_MT mm_stf mm_npf mm_stn mm_sts mm_TX mm_XL mt_357 mh_357 = true := by decide +kernel
set_option maxRecDepth 100000 in
theorem mb_358 : mm_tabB mm_PQ mm_MT mm_stf mm_npf mm_stn mm_sts mm_TX mm_XL mt_358 mh_358 = true := by decide +kernel
set_option maxRecDepth 100000 in
theorem mb_359 : mm_tabB mm_PQ mm_MT mm_stf mm_npf mm_stn mm_sts mm_TX mm_XL mt_359 mh_359 = true := by decide +kernel
