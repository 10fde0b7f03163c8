set_option maxRecDepth 100000 in
theorem mb_law_0 : mm_rowsB (fun pc len op i x y => mm_opB mm_PQ mm_MT mm_stf mm_npf mm_stn mm_sts mm_TX mm_XL "DecisionDiagramsLaw" "law" code [] ret pc len op i x y) mc_law_0 mh_law_0 = true := by decide +kernel
set_option maxRecDepth 100000 in
theorem mb_law_1 : mm_rowsB (fun pc len op i x y => mm_opB mm_PQ mm_MT mm_stf mm_npf mm_stn mm_sts mm_TX mm_XL "DecisionDiagramsLaw" "law" code [] ret pc len op i x y) mc_law_1 mh_law_1 = true := by decide +kernel
set_option maxRecDepth 100000 in
theorem mb_law_2 : mm_rowsB (fun pc len op i x y => mm_opB mm_PQ mm_MT mm_stf mm_npf mm_stn mm_sts mm_TX mm_XL "DecisionDiagramsLaw" "law" code [] ret pc len op i x y) mc_law_2 mh_law_2 = true := by decide +kernel
set_option maxRecDepth 100000 in
theorem mb_law_3 : mm_rowsB (fun pc len op i x y => mm_opB mm_PQ mm_MT mm_stf mm_npf mm_stn mm_sts mm_TX mm_XL "DecisionDiagramsLaw" "law" code [] ret pc len op i x y) mc_law_3 mh_law_3 = true := by decide +kernel
