set_option maxRecDepth 100000 in
theorem mb_law_14 : mm_rowsB (fun pc len op i x y => mm_opB mm_PQ mm_MT mm_stf mm_npf mm_stn mm_sts mm_TX mm_XL "DecisionDiagramsLaw" "law" code [] ret pc len op i x y) mc_law_14 mh_law_14 = true := by decide +kernel
set_option maxRecDepth 100000 in
theorem mb_law_15 : mm_rowsB (fun pc len op i x y => mm_opB mm_PQ mm_MT mm_stf mm_npf mm_stn mm_sts mm_TX mm_XL "DecisionDiagramsLaw" "law" code [] ret pc len op i x y) mc_law_15 mh_law_15 = true := by decide +kernel
set_option maxRecDepth 100000 in
theorem mb_law_16 : mm_rowsB (fun pc len op i x y => mm_opB mm_PQ mm_MT mm_stf mm_npf mm_stn mm_sts mm_TX mm_XL "DecisionDiagramsLaw" "law" code [] ret pc len op i x y) mc_law_16 mh_law_16 = true := by decide +kernel
set_option maxRecDepth 100000 in
theorem mb_law_17 : mm_rowsB (fun pc len op i x y => mm_opB mm_PQ mm_MT mm_stf mm_npf mm_stn mm_sts mm_TX mm_XL "DecisionDiagramsLaw" "law" code [] ret pc len op i x y) mc_law_17 mh_law_17 = true := by decide +kernel
set_option maxRecDepth 100000 in
theorem mb_law_18 : mm_rowsB (fun pc len op i x y => mm_opB mm_PQ mm_MT mm_stf mm_npf mm_stn mm_sts mm_TX mm_XL "DecisionDiagramsLaw" "law" code [] ret pc len op i x y) mc_law_18 mh_law_18 = true := by decide +kernel
set_option maxRecDepth 100000 in
theorem mb_law_19 : mm_rowsB (fun pc len op i x y => mm_opB mm_PQ mm_MT mm_stf mm_npf mm_stn mm_sts mm_TX mm_XL "DecisionDiagramsLaw" "law" code [] ret pc len op i x y) mc_law_19 mh_law_19 = true := by decide +kernel
set_option maxRecDepth 100000 in
theorem mb_law_20 : mm_rowsB (fun pc len op i x y => mm_opB mm_PQ mm_MT mm_stf mm_npf mm_stn mm_sts mm_TX mm_XL "DecisionDiagramsLaw" "law" code [] ret pc len op i x y) mc_law_20 mh_law_20 = true := by decide +kernel
