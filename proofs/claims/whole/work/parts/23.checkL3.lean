set_option maxRecDepth 100000 in
theorem mb_law_21 : mm_rowsB (fun pc len op i x y => mm_opB mm_PQ mm_MT mm_stf mm_npf mm_stn mm_sts mm_TX mm_XL "DecisionDiagramsLaw" "law" code [] ret pc len op i x y) mc_law_21 mh_law_21 = true := by decide +kernel
set_option maxRecDepth 100000 in
theorem mb_law_22 : mm_rowsB (fun pc len op i x y => mm_opB mm_PQ mm_MT mm_stf mm_npf mm_stn mm_sts mm_TX mm_XL "DecisionDiagramsLaw" "law" code [] ret pc len op i x y) mc_law_22 mh_law_22 = true := by decide +kernel
set_option maxRecDepth 100000 in
theorem mb_law_23 : mm_rowsB (fun pc len op i x y => mm_opB mm_PQ mm_MT mm_stf mm_npf mm_stn mm_sts mm_TX mm_XL "DecisionDiagramsLaw" "law" code [] ret pc len op i x y) mc_law_23 mh_law_23 = true := by decide +kernel
set_option maxRecDepth 100000 in
theorem mb_law_24 : mm_rowsB (fun pc len op i x y => mm_opB mm_PQ mm_MT mm_stf mm_npf mm_stn mm_sts mm_TX mm_XL "DecisionDiagramsLaw" "law" code [] ret pc len op i x y) mc_law_24 mh_law_24 = true := by decide +kernel
set_option maxRecDepth 100000 in
theorem mb_law_25 : mm_rowsB (fun pc len op i x y => mm_opB mm_PQ mm_MT mm_stf mm_npf mm_stn mm_sts mm_TX mm_XL "DecisionDiagramsLaw" "law" code [] ret pc len op i x y) mc_law_25 mh_law_25 = true := by decide +kernel
set_option maxRecDepth 100000 in
theorem mb_law_26 : mm_rowsB (fun pc len op i x y => mm_opB mm_PQ mm_MT mm_stf mm_npf mm_stn mm_sts mm_TX mm_XL "DecisionDiagramsLaw" "law" code [] ret pc len op i x y) mc_law_26 mh_law_26 = true := by decide +kernel
set_option maxRecDepth 100000 in
theorem mb_law_27 : mm_rowsB (fun pc len op i x y => mm_opB mm_PQ mm_MT mm_stf mm_npf mm_stn mm_sts mm_TX mm_XL "DecisionDiagramsLaw" "law" code [] ret pc len op i x y) mc_law_27 mh_law_27 = true := by decide +kernel
