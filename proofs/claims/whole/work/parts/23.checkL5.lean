set_option maxRecDepth 100000 in
theorem mb_law_35 : mm_rowsB (fun pc len op i x y => mm_opB mm_PQ mm_MT mm_stf mm_npf mm_stn mm_sts mm_TX mm_XL "DecisionDiagramsLaw" "law" code [] ret pc len op i x y) mc_law_35 mh_law_35 = true := by decide +kernel
set_option maxRecDepth 100000 in
theorem mb_law_36 : mm_rowsB (fun pc len op i x y => mm_opB mm_PQ mm_MT mm_stf mm_npf mm_stn mm_sts mm_TX mm_XL "DecisionDiagramsLaw" "law" code [] ret pc len op i x y) mc_law_36 mh_law_36 = true := by decide +kernel
set_option maxRecDepth 100000 in
theorem mb_law_37 : mm_rowsB (fun pc len op i x y => mm_opB mm_PQ mm_MT mm_stf mm_npf mm_stn mm_sts mm_TX mm_XL "DecisionDiagramsLaw" "law" code [] ret pc len op i x y) mc_law_37 mh_law_37 = true := by decide +kernel
set_option maxRecDepth 100000 in
theorem mb_law_38 : mm_rowsB (fun pc len op i x y => mm_opB mm_PQ mm_MT mm_stf mm_npf mm_stn mm_sts mm_TX mm_XL "DecisionDiagramsLaw" "law" code [] ret pc len op i x y) mc_law_38 mh_law_38 = true := by decide +kernel
set_option maxRecDepth 100000 in
theorem mb_law_39 : mm_rowsB (fun pc len op i x y => mm_opB mm_PQ mm_MT mm_stf mm_npf mm_stn mm_sts mm_TX mm_XL "DecisionDiagramsLaw" "law" code [] ret pc len op i x y) mc_law_39 mh_law_39 = true := by decide +kernel
set_option maxRecDepth 100000 in
theorem mb_law_40 : mm_rowsB (fun pc len op i x y => mm_opB mm_PQ mm_MT mm_stf mm_npf mm_stn mm_sts mm_TX mm_XL "DecisionDiagramsLaw" "law" code [] ret pc len op i x y) mc_law_40 mh_law_40 = true := by decide +kernel
set_option maxRecDepth 100000 in
theorem mb_law_41 : mm_rowsB (fun pc len op i x y => mm_opB mm_PQ mm_MT mm_stf mm_npf mm_stn mm_sts mm_TX mm_XL "DecisionDiagramsLaw" "law" code [] ret pc len op i x y) mc_law_41 mh_law_41 = true := by decide +kernel
