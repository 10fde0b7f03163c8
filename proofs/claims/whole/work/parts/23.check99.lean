set_option maxRecDepth 100000 in
theorem mb_law : mm_rowsB (fun pc len op i x y => mm_opB mm_PQ mm_MT mm_stf mm_npf mm_stn mm_sts mm_TX mm_XL "DecisionDiagramsLaw" "law" code [] ret pc len op i x y) mc_law mh_law = true := by decide +kernel
