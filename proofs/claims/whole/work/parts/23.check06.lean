set_option maxRecDepth 100000 in
theorem mb_360 : mm_tabB mm_PQ mm_MT mm_stf mm_npf mm_stn mm_sts mm_TX mm_XL mt_360 mh_360 = true := by decide +kernel
set_option maxRecDepth 100000 in
theorem mb_361 : mm_tabB mm_PQ mm_MT mm_stf mm_npf mm_stn mm_sts mm_TX mm_XL mt_361 mh_361 = true := by decide +kernel
set_option maxRecDepth 100000 in
theorem mb_362 : mm_tabB mm_PQ mm_MT mm_stf mm_npf mm_stn mm_sts mm_TX mm_XL mt_362 mh_362 = true := by decide +kernel
set_option maxRecDepth 100000 in
theorem mb_363 : mm_tabB mm_PQ mm_MT mm_stf mm_npf mm_stn mm_sts mm_TX mm_XL mt_363 mh_363 = true := by decide +kernel
set_option maxRecDepth 100000 in
theorem mb_364 : mm_tabB mm_PQ mm_MT mm_stf mm_npf mm_stn mm_sts mm_TX mm_XL mt_364 mh_364 = true := by decide +kernel
set_option maxRecDepth 100000 in
theorem mb_365 : mm_tabB mm_PQ mm_MT mm_stf mm_npf mm_stn mm_sts mm_TX mm_XL mt_365 mh_365 = true := by decide +kernel
set_option maxRecDepth 100000 in
theorem mb_366 : mm_tabB mm_PQ mm_MT mm_stf mm_npf mm_stn mm_sts mm_TX mm_XL mt_366 mh_366 = true := by decide +kernel
set_option maxRecDepth 100000 in
theorem mb_367 : mm_tabB mm_PQ mm_MT mm_stf mm_npf mm_stn mm_sts mm_TX mm_XL mt_367 mh_367 = true := by decide +kernel
set_option maxRecDepth 100000 in
theorem mb_368 : mm_tabB mm_PQ mm_MT mm_stf mm_npf mm_stn mm_sts mm_TX mm_XL mt_368 mh_368 = true := by decide +kernel
set_option maxRecDepth 100000 in
theorem mb_369 : mm_tabB mm_PQ mm_MT mm_stf mm_npf mm_stn mm_sts mm_TX mm_XL mt_369 mh_369 = true := by decide +kernel
set_option maxRecDepth 100000 in
theorem mb_370 : mm_tabB mm_PQ mm_MT mm_stf mm_npf mm_stn mm_sts mm_TX mm_XL mt_370 mh_370 = true := by decide +kernel
set_option maxRecDepth 100000 in
theorem mb_371 : mm_tabB mm_PQ mm_MT mm_stf mm_npf mm_stn mm_sts mm_TX mm_XL mt_371 mh_371 = true := by decide +kernel
set_option maxRecDepth 100000 in
theorem mb_372 : mm_tabB mm_PQ mm_MT mm_stf mm_npf mm_stn mm_sts mm_TX mm_XL mt_372 mh_372 = true := by decide +kernel
set_option maxRecDepth 100000 in
theorem mb_373 : mm_tabB mm_PQ mm_MT mm_stf mm_npf mm_stn mm_sts mm_TX mm_XL mt_373 mh_373 = true := by decide +kernel
set_option maxRecDepth 100000 in
theorem mb_374 : mm_tabB mm_PQ mm_MT mm_stf mm_npf mm_stn mm_sts mm_TX mm_XL mt_374 mh_374 = true := by decide +kernel
set_option maxRecDepth 100000 in
theorem mb_375 : mm_tabB mm_PQ mm_MT mm_stf mm_npf mm_stn mm_sts mm_TX mm_XL mt_375 mh_375 = true := by decide +kernel
set_option maxRecDepth 100000 in
theorem mb_376 : mm_tabB mm_PQ mm_MT mm_stf mm_npf mm_stn mm_sts mm_TX mm_XL mt_376 mh_376 = true := by decide +kernel
set_option maxRecDepth 100000 in
theorem mb_377 : mm_tabB mm_PQ mm_MT mm_stf mm_npf mm_stn mm_sts mm_TX mm_XL mt_377 mh_377 = true := by decide +kernel
set_option maxRecDepth 100000 in
theorem mb_378 : mm_tabB mm_PQ mm_MT mm_stf mm_npf mm_stn mm_sts mm_TX mm_XL mt_378 mh_378 = true := by decide +kernel
set_option maxRecDepth 100000 in
theorem mb_379 : mm_tabB mm_PQ mm_MT mm_stf mm_npf mm_stn mm_sts mm_TX mm_XL mt_379 mh_379 = true := by decide +kernel
set_option maxRecDepth 100000 in
theorem mb_380 : mm_tabB mm_PQ mm_MT mm_stf mm_npf mm_stn mm_sts mm_TX mm_XL mt_380 mh_380 = true := by decide +kernel
set_option maxRecDepth 100000 in
theorem mb_381 : mm_tabB mm_PQ mm_MT mm_stf mm_npf mm_stn mm_sts mm_TX mm_XL mt_381 mh_381 = true := by decide +kernel
set_option maxRecDepth 100000 in
theorem mb_382 : mm_tabB mm_PQ mm_MT mm_stf mm_npf mm_stn mm_sts mm_TX mm_XL mt_382 mh_382 = true := by decide +kernel
set_option maxRecDepth 100000 in
theorem mb_383 : mm_tabB mm_PQ mm_MT mm_stf mm_npf mm_stn mm_sts mm_TX mm_XL mt_383 mh_383 = true := by decide +kernel
set_option maxRecDepth 100000 in
theorem mb_384 : mm_tabB mm_PQ mm_MT mm_stf mm_npf mm_stn mm_sts mm_TX mm_XL mt_384 mh_384 = true := by decide +kernel
set_option maxRecDepth 100000 in
theorem mb_385 : mm_tabB mm_PQ mm_MT mm_stf mm_npf mm_stn mm_sts mm_TX mm_XL mt_385 mh_385 = true := by decide +kernel
set_option maxRecDepth 100000 in
theorem mb_386 : mm_tabB mm_PQ mm_MT mm_stf mm_npf mm_stn mm_sts mm_TX mm_XL mt_386 mh_386 = true := by decide +kernel
set_option maxRecDepth 100000 in
theorem mb_387 : mm_tabB mm_PQ mm_MT mm_stf mm_npf mm_stn mm_sts mm_TX mm_XL mt_387 mh_387 = true := by decide +kernel
set_option maxRecDepth 100000 in
theorem mb_388 : mm_tabB mm_PQ mm_MT mm_stf mm_npf mm_stn mm_sts mm_TX mm_XL mt_388 mh_388 = true := by decide +kernel
set_option maxRecDepth 100000 in
theorem mb_389 : mm_tabB mm_PQ mm_MT mm_stf mm_npf mm_stn mm_sts mm_TX mm_XL mt_389 mh_389 = true := by decide +kernel
set_option maxRecDepth 100000 in
theorem mb_390 : mm_tabB mm_PQ mm_MT mm_stf mm_npf mm_stn mm_sts mm_TX mm_XL mt_390 mh_390 = true := by decide +kernel
