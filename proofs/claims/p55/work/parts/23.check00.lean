set_option maxRecDepth 100000 in
theorem mb_0 : mm_tabB mm_PQ mm_MT mm_stf mm_npf mm_stn mm_sts mm_TX mm_XL mt_0 mh_0 = true := by decide +kernel
set_option maxRecDepth 100000 in
theorem mb_1 : mm_tabB mm_PQ mm_MT mm_stf mm_npf mm_stn mm_sts mm_TX mm_XL mt_1 mh_1 = true := by decide +kernel
set_option maxRecDepth 100000 in
theorem mb_2 : mm_tabB mm_PQ mm_MT mm_stf mm_npf mm_stn mm_sts mm_TX mm_XL mt_2 mh_2 = true := by decide +kernel
set_option maxRecDepth 100000 in
theorem mb_3 : mm_tabB mm_PQ mm_MT mm_stf mm_npf mm_stn mm_sts mm_TX mm_XL mt_3 mh_3 = true := by decide +kernel
set_option maxRecDepth 100000 in
theorem mb_4 : mm_tabB mm_PQ mm_MT mm_stf mm_npf mm_stn mm_sts mm_TX mm_XL mt_4 mh_4 = true := by decide +kernel
set_option maxRecDepth 100000 in
theorem mb_5 : mm_tabB mm_PQ mm_MT mm_stf mm_npf mm_stn mm_sts mm_TX mm_XL mt_5 mh_5 = true := by decide +kernel
set_option maxRecDepth 100000 in
theorem mb_6 : mm_tabB mm_PQ mm_MT mm_stf mm_npf mm_stn mm_sts mm_TX mm_XL mt_6 mh_6 = true := by decide +kernel
set_option maxRecDepth 100000 in
theorem mb_7 : mm_tabB mm_PQ mm_MT mm_stf mm_npf mm_stn mm_sts mm_TX mm_XL mt_7 mh_7 = true := by decide +kernel
set_option maxRecDepth 100000 in
theorem mb_8 : mm_tabB mm_PQ mm_MT mm_stf mm_npf mm_stn mm_sts mm_TX mm_XL mt_8 mh_8 = true := by decide +kernel
set_option maxRecDepth 100000 in
theorem mb_9 : mm_tabB mm_PQ mm_MT mm_stf mm_npf mm_stn mm_sts mm_TX mm_XL mt_9 mh_9 = true := by decide +kernel
set_option maxRecDepth 100000 in
theorem mb_10 : mm_tabB mm_PQ mm_MT mm_stf mm_npf mm_stn mm_sts mm_TX mm_XL mt_10 mh_10 = true := by decide +kernel
set_option maxRecDepth 100000 in
theorem mb_11 : mm_tabB mm_PQ mm_MT mm_stf mm_npf mm_stn mm_sts mm_TX mm_XL mt_11 mh_11 = true := by decide +kernel
set_option maxRecDepth 100000 in
theorem mb_12 : mm_tabB mm_PQ mm_MT mm_stf mm_npf mm_stn mm_sts mm_TX mm_XL mt_12 mh_12 = true := by decide +kernel
set_option maxRecDepth 100000 in
theorem mb_13 : mm_tabB mm_PQ mm_MT mm_stf mm_npf mm_stn mm_sts mm_TX mm_XL mt_13 mh_13 = true := by decide +kernel
set_option maxRecDepth 100000 in
theorem mb_25 : mm_tabB mm_PQ mm_MT mm_stf mm_npf mm_stn mm_sts mm_TX mm_XL mt_25 mh_25 = true := by decide +kernel
set_option maxRecDepth 100000 in
theorem mb_26 : mm_tabB mm_PQ mm_MT mm_stf mm_npf mm_stn mm_sts mm_TX mm_XL mt_26 mh_26 = true := by decide +kernel
set_option maxRecDepth 100000 in
theorem mb_27 : mm_tabB mm_PQ mm_MT mm_stf mm_npf mm_stn mm_sts mm_TX mm_XL mt_27 mh_27 = true := by decide +kernel
set_option maxRecDepth 100000 in
theorem mb_28 : mm_tabB mm_PQ mm_MT mm_stf mm_npf mm_stn mm_sts mm_TX mm_XL mt_28 mh_28 = true := by decide +kernel
set_option maxRecDepth 100000 in
theorem mb_29 : mm_tabB mm_PQ mm_MT mm_stf mm_npf mm_stn mm_sts mm_TX mm_XL mt_29 mh_29 = true := by decide +kernel
set_option maxRecDepth 100000 in
theorem mb_30 : mm_tabB mm_PQ mm_MT mm_stf mm_npf mm_stn mm_sts mm_TX mm_XL mt_30 mh_30 = true := by decide +kernel
set_option maxRecDepth 100000 in
theorem mb_31 : mm_tabB mm_PQ mm_MT mm_stf mm_npf mm_stn mm_sts mm_TX mm_XL mt_31 mh_31 = true := by decide +kernel
set_option maxRecDepth 100000 in
theorem mb_32 : mm_tabB mm_PQ mm_MT mm_stf mm_npf mm_stn mm_sts mm_TX mm_XL mt_32 mh_32 = true := by decide +kernel
set_option maxRecDepth 100000 in
theorem mb_33 : mm_tabB mm_PQ mm_MT mm_stf mm_npf mm_stn mm_sts mm_TX mm_XL mt_33 mh_33 = true := by decide +kernel
set_option maxRecDepth 100000 in
theorem mb_35 : mm_tabB mm_PQ mm_MT mm_stf mm_npf mm_stn mm_sts mm_TX mm_XL mt_35 mh_35 = true := by decide +kernel
set_option maxRecDepth 100000 in
theorem mb_36 : mm_tabB mm_PQ mm_MT mm_stf mm_npf mm_stn mm_sts mm_TX mm_XL mt_36 mh_36 = true := by decide +kernel
set_option maxRecDepth 100000 in
theorem mb_38 : mm_tabB mm_PQ mm_MT mm_stf mm_npf mm_stn mm_sts mm_TX mm_XL mt_38 mh_38 = true := by decide +kernel
set_option maxRecDepth 100000 in
theorem mb_39 : mm_tabB mm_PQ mm_MT mm_stf mm_npf mm_stn mm_sts mm_TX mm_XL mt_39 mh_39 = true := by decide +kernel
set_option maxRecDepth 100000 in
theorem mb_40 : mm_tabB mm_PQ mm_MT mm_stf mm_npf mm_stn mm_sts mm_TX mm_XL mt_40 mh_40 = true := by decide +kernel
set_option maxRecDepth 100000 in
theorem mb_41 : mm_tabB mm_PQ mm_MT mm_stf mm_npf mm_stn mm_sts mm_TX mm_XL mt_41 mh_41 = true := by decide +kernel
set_option maxRecDepth 100000 in
theorem mb_42 : mm_tabB mm_PQ mm_MT mm_stf mm_npf mm_stn mm_sts mm_TX mm_XL mt_42 mh_42 = true := by decide +kernel
set_option maxRecDepth 100000 in
theorem mb_43 : mm_tabB mm_PQ mm_MT mm_stf mm_npf mm_stn mm_sts mm_TX mm_XL mt_43 mh_43 = true := by decide +kernel
set_option maxRecDepth 100000 in
theorem mb_44 : mm_tabB mm_PQ mm_MT mm_stf mm_npf mm_stn mm_sts mm_TX mm_XL mt_44 mh_44 = true := by decide +kernel
set_option maxRecDepth 100000 in
theorem mb_45 : mm_tabB mm_PQ mm_MT mm_stf mm_npf mm_stn mm_sts mm_TX mm_XL mt_45 mh_45 = true := by decide +kernel
set_option maxRecDepth 100000 in
theorem mb_46 : mm_tabB mm_PQ mm_MT mm_stf mm_npf mm_stn mm_sts mm_TX mm_XL mt_46 mh_46 = true := by decide +kernel
set_option maxRecDepth 100000 in
theorem mb_47 : mm_tabB mm_PQ mm_MT mm_stf mm_npf mm_stn mm_sts mm_TX mm_XL mt_47 mh_47 = true := by decide +kernel
set_option maxRecDepth 100000 in
theorem mb_48 : mm_tabB mm_PQ mm_MT mm_stf mm_npf mm_stn mm_sts mm_TX mm_XL mt_48 mh_48 = true := by decide +kernel
set_option maxRecDepth 100000 in
theorem mb_49 : mm_tabB mm_PQ mm_MT mm_stf mm_npf mm_stn mm_sts mm_TX mm_XL mt_49 mh_49 = true := by decide +kernel
set_option maxRecDepth 100000 in
theorem mb_50 : mm_tabB mm_PQ mm_MT mm_stf mm_npf mm_stn mm_sts mm_TX mm_XL mt_50 mh_50 = true := by decide +kernel
set_option maxRecDepth 100000 in
theorem mb_51 : mm_tabB mm_PQ mm_MT mm_stf mm_npf mm_stn mm_sts mm_TX mm_XL mt_51 mh_51 = true := by decide +kernel
set_option maxRecDepth 100000 in
theorem mb_52 : mm_tabB mm_PQ mm_MT mm_stf mm_npf mm_stn mm_sts mm_TX mm_XL mt_52 mh_52 = true := by decide +kernel
set_option maxRecDepth 100000 in
theorem mb_53 : mm_tabB mm_PQ mm_MT mm_stf mm_npf mm_stn mm_sts mm_TX mm_XL mt_53 mh_53 = true := by decide +kernel
set_option maxRecDepth 100000 in
theorem mb_54 : mm_tabB mm_PQ mm_MT mm_stf mm_npf mm_stn mm_sts mm_TX mm_XL mt_54 mh_54 = true := by decide +kernel
set_option maxRecDepth 100000 in
theorem mb_55 : mm_tabB mm_PQ mm_MT mm_stf mm_npf mm_stn mm_sts mm_TX mm_XL mt_55 mh_55 = true := by decide +kernel
set_option maxRecDepth 100000 in
theorem mb_56 : mm_tabB mm_PQ mm_MT mm_stf mm_npf mm_stn mm_sts mm_TX mm_XL mt_56 mh_56 = true := by decide +kernel
set_option maxRecDepth 100000 in
theorem mb_57 : mm_tabB mm_PQ mm_MT mm_stf mm_npf mm_stn mm_sts mm_TX mm_XL mt_57 mh_57 = true := by decide +kernel
set_option maxRecDepth 100000 in
theorem mb_58 : mm_tabB mm_PQ mm_MT mm_stf mm_npf mm_stn mm_sts mm_TX mm_XL mt_58 mh_58 = true := by decide +kernel
set_option maxRecDepth 100000 in
theorem mb_60 : mm_tabB mm_PQ mm_MT mm_stf mm_npf mm_stn mm_sts mm_TX mm_XL mt_60 mh_60 = true := by decide +kernel
set_option maxRecDepth 100000 in
theorem mb_61 : mm_tabB mm_PQ mm_MT mm_stf mm_npf mm_stn mm_sts mm_TX mm_XL mt_61 mh_61 = true := by decide +kernel
set_option maxRecDepth 100000 in
theorem mb_62 : mm_tabB mm_PQ mm_MT mm_stf mm_npf mm_stn mm_sts mm_TX mm_XL mt_62 mh_62 = true := by decide +kernel
set_option maxRecDepth 100000 in
theorem mb_63 : mm_tabB mm_PQ mm_MT mm_stf mm_npf mm_stn mm_sts mm_TX mm_XL mt_63 mh_63 = true := by decide +kernel
set_option maxRecDepth 100000 in
theorem mb_64 : mm_tabB mm_PQ mm_MT mm_stf mm_npf mm_stn mm_sts mm_TX mm_XL mt_64 mh_64 = true := by decide +kernel
set_option maxRecDepth 100000 in
theorem mb_65 : mm_tabB mm_PQ mm_MT mm_stf mm_npf mm_stn mm_sts mm_TX mm_XL mt_65 mh_65 = true := by decide +kernel
set_option maxRecDepth 100000 in
theorem mb_66 : mm_tabB mm_PQ mm_MT mm_stf mm_npf mm_stn mm_sts mm_TX mm_XL mt_66 mh_66 = true := by decide +kernel
set_option maxRecDepth 100000 in
theorem mb_67 : mm_tabB mm_PQ mm_MT mm_stf mm_npf mm_stn mm_sts mm_TX mm_XL mt_67 mh_67 = true := by decide +kernel
set_option maxRecDepth 100000 in
theorem mb_68 : mm_tabB mm_PQ mm_MT mm_stf mm_npf mm_stn mm_sts mm_TX mm_XL mt_68 mh_68 = true := by decide +kernel
set_option maxRecDepth 100000 in
theorem mb_69 : mm_tabB mm_PQ mm_MT mm_stf mm_npf mm_stn mm_sts mm_TX mm_XL mt_69 mh_69 = true := by decide +kernel
set_option maxRecDepth 100000 in
theorem mb_70 : mm_tabB mm_PQ mm_MT mm_stf mm_npf mm_stn mm_sts mm_TX mm_XL mt_70 mh_70 = true := by decide +kernel
set_option maxRecDepth 100000 in
theorem mb_71 : mm_tabB mm_PQ mm_MT mm_stf mm_npf mm_stn mm_sts mm_TX mm_XL mt_71 mh_71 = true := by decide +kernel
set_option maxRecDepth 100000 in
theorem mb_72 : mm_tabB mm_PQ mm_MT mm_stf mm_npf mm_stn mm_sts mm_TX mm_XL mt_72 mh_72 = true := by decide +kernel
set_option maxRecDepth 100000 in
theorem mb_77 : mm_tabB mm_PQ mm_MT mm_stf mm_npf mm_stn mm_sts mm_TX mm_XL mt_77 mh_77 = true := by decide +kernel
