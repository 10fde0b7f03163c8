set_option maxRecDepth 100000 in
theorem mb_60 : mm_tabB mm_PQ mm_MT mm_stf mm_npf mm_stn mm_sts mm_TX mm_XL mt_60 mh_60 = true := by decide +kernel
set_option maxRecDepth 100000 in
theorem mb_61 : mm_tabB mm_PQ mm_MT mm_stf mm_npf mm_stn mm_sts mm_TX mm_XL mt_61 mh_61 = true := by decide +kernel
set_option maxRecDepth 100000 in
theorem mb_62 : mm_tabB mm_PQ mm_MT mm_stf mm_npf mm_stn mm_sts mm_TX mm_XL mt_62 mh_62 = true := by decide +kernel
set_option maxRecDepth 100000 in
theorem mb_63 : mm_tabB mm_PQ mm_MT mm_stf mm_npf mm_stn mm_sts mm_TX mm_XL mt_63 mh_63 = true := by decide +kernel
set_option maxRecDepth 100000 in
theorem mb_64 : mm_tabB mm_PQ mm_MT mm_stf mm_npf mm_stn mm_sts mm_TX mm_XL mt_64 mh_64 = true := by decide +kernel
set_option maxRecDepth 100000 in
theorem mb_65 : mm_tabB mm_PQ mm_MT mm_stf mm_npf mm_stn mm_sts mm_TX mm_XL mt_65 mh_65 = true := by decide +kernel
set_option maxRecDepth 100000 in
theorem mb_66 : mm_tabB mm_PQ mm_MT mm_stf mm_npf mm_stn mm_sts mm_TX mm_XL mt_66 mh_66 = true := by decide +kernel
set_option maxRecDepth 100000 in
theorem mb_67 : mm_tabB mm_PQ mm_MT mm_stf mm_npf mm_stn mm_sts mm_TX mm_XL mt_67 mh_67 = true := by decide +kernel
set_option maxRecDepth 100000 in
theorem mb_68 : mm_tabB mm_PQ mm_MT mm_stf mm_npf mm_stn mm_sts mm_TX mm_XL mt_68 mh_68 = true := by decide +kernel
set_option maxRecDepth 100000 in
theorem mb_69 : mm_tabB mm_PQ mm_MT mm_stf mm_npf mm_stn mm_sts mm_TX mm_XL mt_69 mh_69 = true := by decide +kernel
set_option maxRecDepth 100000 in
theorem mb_70 : mm_tabB mm_PQ mm_MT mm_stf mm_npf mm_stn mm_sts mm_TX mm_XL mt_70 mh_70 = true := by decide +kernel
set_option maxRecDepth 100000 in
theorem mb_71 : mm_tabB mm_PQ mm_MT mm_stf mm_npf mm_stn mm_sts mm_TX mm_XL mt_71 mh_71 = true := by decide +kernel
set_option maxRecDepth 100000 in
theorem mb_72 : mm_tabB mm_PQ mm_MT mm_stf mm_npf mm_stn mm_sts mm_TX mm_XL mt_72 mh_72 = true := by decide +kernel
set_option maxRecDepth 100000 in
theorem mb_73 : mm_tabB mm_PQ mm_MT mm_stf mm_npf mm_stn mm_sts mm_TX mm_XL mt_73 mh_73 = true := by decide +kernel
set_option maxRecDepth 100000 in
theorem mb_74 : mm_tabB mm_PQ mm_MT mm_stf mm_npf mm_stn mm_sts mm_TX mm_XL mt_74 mh_74 = true := by decide +kernel
set_option maxRecDepth 100000 in
theorem mb_75 : mm_tabB mm_PQ mm_MT mm_stf mm_npf mm_stn mm_sts mm_TX mm_XL mt_75 mh_75 = true := by decide +kernel
set_option maxRecDepth 100000 in
theorem mb_76 : mm_tabB mm_PQ mm_MT mm_stf mm_npf mm_stn mm_sts mm_TX mm_XL mt_76 mh_76 = true := by decide +kernel
set_option maxRecDepth 100000 in
theorem mb_77 : mm_tabB mm_PQ mm_MT mm_stf mm_npf mm_stn mm_sts mm_TX mm_XL mt_77 mh_77 = true := by decide +kernel
set_option maxRecDepth 100000 in
theorem mb_78 : mm_tabB mm_PQ mm_MT mm_stf mm_npf mm_stn mm_sts mm_TX mm_XL mt_78 mh_78 = true := by decide +kernel
set_option maxRecDepth 100000 in
theorem mb_79 : mm_tabB mm_PQ mm_MT mm_stf mm_npf mm_stn mm_sts mm_TX mm_XL mt_79 mh_79 = true := by decide +kernel
set_option maxRecDepth 100000 in
theorem mb_80 : mm_tabB mm_PQ mm_MT mm_stf mm_npf mm_stn mm_sts mm_TX mm_XL mt_80 mh_80 = true := by decide +kernel
set_option maxRecDepth 100000 in
theorem mb_81 : mm_tabB mm_PQ mm_MT mm_stf mm_npf mm_stn mm_sts mm_TX mm_XL mt_81 mh_81 = true := by decide +kernel
set_option maxRecDepth 100000 in
theorem mb_82 : mm_tabB mm_PQ mm_MT mm_stf mm_npf mm_stn mm_sts mm_TX mm_XL mt_82 mh_82 = true := by decide +kernel
set_option maxRecDepth 100000 in
theorem mb_83 : mm_tabB mm_PQ mm_MT mm_stf mm_npf mm_stn mm_sts mm_TX mm_XL mt_83 mh_83 = true := by decide +kernel
set_option maxRecDepth 100000 in
theorem mb_84 : mm_tabB mm_PQ mm_MT mm_stf mm_npf mm_stn mm_sts mm_TX mm_XL mt_84 mh_84 = true := by decide +kernel
set_option maxRecDepth 100000 in
theorem mb_85 : mm_tabB mm_PQ mm_MT mm_stf mm_npf mm_stn mm_sts mm_TX mm_XL mt_85 mh_85 = true := by decide +kernel
set_option maxRecDepth 100000 in
theorem mb_86 : mm_tabB mm_PQ mm_MT mm_stf mm_npf mm_stn mm_sts mm_TX mm_XL mt_86 mh_86 = true := by decide +kernel
set_option maxRecDepth 100000 in
theorem mb_87 : mm_tabB mm_PQ mm_MT mm_stf mm_npf mm_stn mm_sts mm_TX mm_XL mt_87 mh_87 = true := by decide +kernel
set_option maxRecDepth 100000 in
theorem mb_88 : mm_tabB mm_PQ mm_MT mm_stf mm_npf mm_stn mm_sts mm_TX mm_XL mt_88 mh_88 = true := by decide +kernel
set_option maxRecDepth 100000 in
theorem mb_89 : mm_tabB mm_PQ mm_MT mm_stf mm_npf mm_stn mm_sts mm_TX mm_XL mt_89 mh_89 = true := by decide +kernel
set_option maxRecDepth 100000 in
theorem mb_90 : mm_tabB mm_PQ mm_MT mm_stf mm_npf mm_stn mm_sts mm_TX mm_XL mt_90 mh_90 = true := by decide +kernel
set_option maxRecDepth 100000 in
theorem mb_91 : mm_tabB mm_PQ mm_MT mm_stf mm_npf mm_stn mm_sts mm_TX mm_XL mt_91 mh_91 = true := by decide +kernel
set_option maxRecDepth 100000 in
theorem mb_92 : mm_tabB mm_PQ mm_MT mm_stf mm_npf mm_stn mm_sts mm_TX mm_XL mt_92 mh_92 = true := by decide +kernel
set_option maxRecDepth 100000 in
theorem mb_93 : mm_tabB mm_PQ mm_MT mm_stf mm_npf mm_stn mm_sts mm_TX mm_XL mt_93 mh_93 = true := by decide +kernel
set_option maxRecDepth 100000 in
theorem mb_94 : mm_tabB mm_PQ mm_MT mm_stf mm_npf mm_stn mm_sts mm_TX mm_XL mt_94 mh_94 = true := by decide +kernel
set_option maxRecDepth 100000 in
theorem mb_95 : mm_tabB mm_PQ mm_MT mm_stf mm_npf mm_stn mm_sts mm_TX mm_XL mt_95 mh_95 = true := by decide +kernel
set_option maxRecDepth 100000 in
theorem mb_96 : mm_tabB mm_PQ mm_MT mm_stf mm_npf mm_stn mm_sts mm_TX mm_XL mt_96 mh_96 = true := by decide +kernel
set_option maxRecDepth 100000 in
theorem mb_97 : mm_tabB mm_PQ mm_MT mm_stf mm_npf mm_stn mm_sts mm_TX mm_XL mt_97 mh_97 = true := by decide +kernel
set_option maxRecDepth 100000 in
theorem mb_98 : mm_tabB mm_PQ mm_MT mm_stf mm_npf mm_stn mm_sts mm_TX mm_XL mt_98 mh_98 = true := by decide +kernel
set_option maxRecDepth 100000 in
theorem mb_99 : mm_tabB mm_PQ mm_MT mm_stf mm_npf mm_stn mm_sts mm_TX mm_XL mt_99 mh_99 = true := by decide +kernel
set_option maxRecDepth 100000 in
theorem mb_100 : mm_tabB mm_PQ mm_MT mm_stf mm_npf mm_stn mm_sts mm_TX mm_XL mt_100 mh_100 = true := by decide +kernel
set_option maxRecDepth 100000 in
theorem mb_101 : mm_tabB mm_PQ mm_MT mm_stf mm_npf mm_stn mm_sts mm_TX mm_XL mt_101 mh_101 = true := by decide +kernel
set_option maxRecDepth 100000 in
theorem mb_102 : mm_tabB mm_PQ mm_MT mm_stf mm_npf mm_stn mm_sts mm_TX mm_XL mt_102 mh_102 = true := by decide +kernel
set_option maxRecDepth 100000 in
theorem mb_103 : mm_tabB mm_PQ mm_MT mm_stf mm_npf mm_stn mm_sts mm_TX mm_XL mt_103 mh_103 = true := by decide +kernel
set_option maxRecDepth 100000 in
theorem mb_104 : mm_tabB mm_PQ mm_MT mm_stf mm_npf mm_stn mm_sts mm_TX mm_XL mt_104 mh_104 = true := by decide +kernel
set_option maxRecDepth 100000 in
theorem mb_105 : mm_tabB mm_PQ mm_MT mm_stf mm_npf mm_stn mm_sts mm_TX mm_XL mt_105 mh_105 = true := by decide +kernel
set_option maxRecDepth 100000 in
theorem mb_106 : mm_tabB mm_PQ mm_MT mm_stf mm_npf mm_stn mm_sts mm_TX mm_XL mt_106 mh_106 = true := by decide +kernel
set_option maxRecDepth 100000 in
theorem mb_107 : mm_tabB mm_PQ mm_MT mm_stf mm_npf mm_stn mm_sts mm_TX mm_XL mt_107 mh_107 = true := by decide +kernel
set_option maxRecDepth 100000 in
theorem mb_108 : mm_tabB mm_PQ mm_MT mm_stf mm_npf mm_stn mm_sts mm_TX mm_XL mt_108 mh_108 = true := by decide +kernel
set_option maxRecDepth 100000 in
theorem mb_109 : mm_tabB mm_PQ mm_MT mm_stf mm_npf mm_stn mm_sts mm_TX mm_XL mt_109 mh_109 = true := by decide +kernel
set_option maxRecDepth 100000 in
theorem mb_110 : mm_tabB mm_PQ mm_MT mm_stf mm_npf mm_stn mm_sts mm_TX mm_XL mt_110 mh_110 = true := by decide +kernel
set_option maxRecDepth 100000 in
theorem mb_111 : mm_tabB mm_PQ mm_MT mm_stf mm_npf mm_stn mm_sts mm_TX mm_XL mt_111 mh_111 = true := by decide +kernel
set_option maxRecDepth 100000 in
theorem mb_112 : mm_tabB mm_PQ mm_MT mm_stf mm_npf mm_stn mm_sts mm_TX mm_XL mt_112 mh_112 = true := by decide +kernel
set_option maxRecDepth 100000 in
theorem mb_113 : mm_tabB mm_PQ mm_MT mm_stf mm_npf mm_stn mm_sts mm_TX mm_XL mt_113 mh_113 = true := by decide +kernel
set_option maxRecDepth 100000 in
theorem mb_114 : mm_tabB mm_PQ mm_MT mm_stf mm_npf mm_stn mm_sts mm_TX mm_XL mt_114 mh_114 = true := by decide +kernel
set_option maxRecDepth 100000 in
theorem mb_115 : mm_tabB mm_PQ mm_MT mm_stf mm_npf mm_stn mm_sts mm_TX mm_XL mt_115 mh_115 = true := by decide +kernel
set_option maxRecDepth 100000 in
theorem mb_116 : mm_tabB mm_PQ mm_MT mm_stf mm_npf mm_stn mm_sts mm_TX mm_XL mt_116 mh_116 = true := by decide +kernel
set_option maxRecDepth 100000 in
theorem mb_117 : mm_tabB mm_PQ mm_MT mm_stf mm_npf mm_stn mm_sts mm_TX mm_XL mt_117 mh_117 = true := by decide +kernel
set_option maxRecDepth 100000 in
theorem mb_118 : mm_tabB mm_PQ mm_MT mm_stf mm_npf mm_stn mm_sts mm_TX mm_XL mt_118 mh_118 = true := by decide +kernel
set_option maxRecDepth 100000 in
theorem mb_119 : mm_tabB mm_PQ mm_MT mm_stf mm_npf mm_stn mm_sts mm_TX mm_XL mt_119 mh_119 = true := by decide +kernel
