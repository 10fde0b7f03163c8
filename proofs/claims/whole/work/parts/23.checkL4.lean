set_option maxRecDepth 100000 in
theorem mb_law_28 : mm_rowsB (fun pc len op i x y => mm_opB mm_PQ mm_MT mm_stf mm_npf mm_stn mm_sts mm_TX mm_XL "DecisionDiagramsLaw" "law" code [] ret pc len op i x y) mc_law_28 mh_law_28 = true := by decide +kernel
set_option maxRecDepth 100000 in
theorem mb_law_29 : mm_rowsB (fun pc len op i x y => mm_opB mm_PQ mm_MT mm_stf mm_npf mm_stn mm_sts mm_TX mm_XL "DecisionDiagramsLaw" "law" code [] ret pc len op i x y) mc_law_29 mh_law_29 = true := by decide +kernel
set_option maxRecDepth 100000 in
theorem mb_law_30 : mm_rowsB (fun pc len op i x y => mm_opB mm_PQ mm_MT mm_stf mm_npf mm_stn mm_sts mm_TX mm_XL "DecisionDiagramsLaw" "law" code [] ret pc len op i x y) mc_law_30 mh_law_30 = true := by decide +kernel
set_option maxRecDepth 100000 in
theorem mb_law_31 : mm_rowsB (fun pc len op i x y => mm_opB mm_PQ mm_MT mm_stf mm_npf mm_stn mm_sts mm_TX mm_XL "DecisionDiagramsLaw" "law" code [] ret pc len op i x y) mc_law_31 mh_law_31 = true := by decide +kernel
set_option maxRecDepth 100000 in
theorem mb_law_32 : mm_rowsB (fun pc len op i x y => mm_opB mm_PQ mm_MT mm_stf mm_npf mm_stn mm_sts mm_TX mm_XL "DecisionDiagramsLaw" "law" code [] ret pc len op i x y) mc_law_32 mh_law_32 = true := by decide +kernel
set_option maxRecDepth 100000 in
theorem mb_law_33 : mm_rowsB (fun pc len op i x y => mm_opB mm_PQ mm_MT mm_stf mm_npf mm_stn mm_sts mm_TX mm_XL "DecisionDiagramsLaw" "law" code [] ret pc len op i x y) mc_law_33 mh_law_33 = true := by decide +kernel
set_option maxRecDepth 100000 in
theorem mb_law_34 : mm_rowsB (fun pc len op i x y => mm_opB mm_PQ mm_MT mm_stf mm_npf mm_stn mm_sts mm_TX mm_XL "DecisionDiagramsLaw" "law" code [] ret pc len op i x y) mc_law_34 mh_law_34 = true := by decide +kernel
