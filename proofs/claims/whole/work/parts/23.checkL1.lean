set_option maxRecDepth 100000 in
theorem mb_law_7 : mm_rowsB (fun pc len op i x y => mm_opB mm_PQ mm_MT mm_stf mm_npf mm_stn mm_sts mm_TX mm_XL "DecisionDiagramsLaw" "law" code [] ret pc len op i x y) mc_law_7 mh_law_7 = true := by decide +kernel
set_option maxRecDepth 100000 in
theorem mb_law_8 : mm_rowsB (fun pc len op i x y => mm_opB mm_PQ mm_MT mm_stf mm_npf mm_stn mm_sts mm_TX mm_XL "DecisionDiagramsLaw" "law" code [] ret pc len op i x y) mc_law_8 mh_law_8 = true := by decide +kernel
set_option maxRecDepth 100000 in
theorem mb_law_9 : mm_rowsB (fun pc len op i x y => mm_opB mm_PQ mm_MT mm_stf mm_npf mm_stn mm_sts mm_TX mm_XL "DecisionDiagramsLaw" "law" code [] ret pc len op i x y) mc_law_9 mh_law_9 = true := by decide +kernel
set_option maxRecDepth 100000 in
theorem mb_law_10 : mm_rowsB (fun pc len op i x y => mm_opB mm_PQ mm_MT mm_stf mm_npf mm_stn mm_sts mm_TX mm_XL "DecisionDiagramsLaw" "law" code [] ret pc len op i x y) mc_law_10 mh_law_10 = true := by decide +kernel
set_option maxRecDepth 100000 in
theorem mb_law_11 : mm_rowsB (fun pc len op i x y => mm_opB mm_PQ mm_MT mm_stf mm_npf mm_stn mm_sts mm_TX mm_XL "DecisionDiagramsLaw" "law" code [] ret pc len op i x y) mc_law_11 mh_law_11 = true := by decide +kernel
set_option maxRecDepth 100000 in
theorem mb_law_12 : mm_rowsB (fun pc len op i x y => mm_opB mm_PQ mm_MT mm_stf mm_npf mm_stn mm_sts mm_TX mm_XL "DecisionDiagramsLaw" "law" code [] ret pc len op i x y) mc_law_12 mh_law_12 = true := by decide +kernel
set_option maxRecDepth 100000 in
theorem mb_law_13 : mm_rowsB (fun pc len op i x y => mm_opB mm_PQ mm_MT mm_stf mm_npf mm_stn mm_sts mm_TX mm_XL "DecisionDiagramsLaw" "law" code [] ret pc len op i x y) mc_law_13 mh_law_13 = true := by decide +kernel
