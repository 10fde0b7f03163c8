theorem mm_TX_ok : mm_TXok mm_TX := by unfold mm_TXok; decide +kernel
theorem mm_XL_ok : mm_XLok mm_XL := by unfold mm_XLok; decide +kernel
set_option maxRecDepth 100000 in
theorem mo_0 : mm_mE mt_0 false 0 := mm_mB_ok (p2 := 151) (p3 := 315) (mm_gw_of (i := 173) rfl rfl) (by decide +kernel)
set_option maxRecDepth 100000 in
theorem mo_1 : mm_mE mt_1 false 1 := mm_mB_ok (p2 := 151) (p3 := 785) (mm_gw_of (i := 644) rfl rfl) (by decide +kernel)
set_option maxRecDepth 100000 in
theorem mo_2 : mm_mE mt_2 false 3 := mm_mB_ok (p2 := 151) (p3 := 792) (mm_gw_of (i := 651) rfl rfl) (by decide +kernel)
set_option maxRecDepth 100000 in
theorem mo_3 : mm_mE mt_3 false 1 := mm_mB_ok (p2 := 151) (p3 := 801) (mm_gw_of (i := 659) rfl rfl) (by decide +kernel)
set_option maxRecDepth 100000 in
theorem mo_4 : mm_mE mt_4 false 4 := mm_mB_ok (p2 := 151) (p3 := 814) (mm_gw_of (i := 672) rfl rfl) (by decide +kernel)
set_option maxRecDepth 100000 in
theorem mo_5 : mm_mE mt_5 false 0 := mm_mB_ok (p2 := 151) (p3 := 899) (mm_gw_of (i := 758) rfl rfl) (by decide +kernel)
set_option maxRecDepth 100000 in
theorem mo_6 : mm_mE mt_6 false 3 := mm_mB_ok (p2 := 151) (p3 := 904) (mm_gw_of (i := 762) rfl rfl) (by decide +kernel)
set_option maxRecDepth 100000 in
theorem mo_7 : mm_mE mt_7 false 0 := mm_mB_ok (p2 := 151) (p3 := 823) (mm_gw_of (i := 682) rfl rfl) (by decide +kernel)
set_option maxRecDepth 100000 in
theorem mo_8 : mm_mE mt_8 false 1 := mm_mB_ok (p2 := 151) (p3 := 832) (mm_gw_of (i := 691) rfl rfl) (by decide +kernel)
set_option maxRecDepth 100000 in
theorem mo_9 : mm_mE mt_9 false 0 := mm_mB_ok (p2 := 151) (p3 := 987) (mm_gw_of (i := 846) rfl rfl) (by decide +kernel)
set_option maxRecDepth 100000 in
theorem mo_10 : mm_mE mt_10 false 1 := mm_mB_ok (p2 := 151) (p3 := 1073) (mm_gw_of (i := 932) rfl rfl) (by decide +kernel)
set_option maxRecDepth 100000 in
theorem mo_11 : mm_mE mt_11 false 1 := mm_mB_ok (p2 := 151) (p3 := 1133) (mm_gw_of (i := 992) rfl rfl) (by decide +kernel)
set_option maxRecDepth 100000 in
theorem mo_12 : mm_mE mt_12 false 1 := mm_mB_ok (p2 := 151) (p3 := 1137) (mm_gw_of (i := 996) rfl rfl) (by decide +kernel)
set_option maxRecDepth 100000 in
theorem mo_13 : mm_mE mt_13 false 1 := mm_mB_ok (p2 := 151) (p3 := 1141) (mm_gw_of (i := 1000) rfl rfl) (by decide +kernel)
set_option maxRecDepth 100000 in
theorem mo_14 : mm_mE mt_14 false 2 := mm_mB_ok (p2 := 151) (p3 := 1205) (mm_gw_of (i := 1064) rfl rfl) (by decide +kernel)
set_option maxRecDepth 100000 in
theorem mo_15 : mm_mE mt_15 false 3 := mm_mB_ok (p2 := 151) (p3 := 1210) (mm_gw_of (i := 1068) rfl rfl) (by decide +kernel)
set_option maxRecDepth 100000 in
theorem mo_16 : mm_mE mt_16 false 2 := mm_mB_ok (p2 := 151) (p3 := 1220) (mm_gw_of (i := 1079) rfl rfl) (by decide +kernel)
set_option maxRecDepth 100000 in
theorem mo_17 : mm_mE mt_17 false 3 := mm_mB_ok (p2 := 151) (p3 := 1225) (mm_gw_of (i := 1083) rfl rfl) (by decide +kernel)
set_option maxRecDepth 100000 in
theorem mo_18 : mm_mE mt_18 false 1 := mm_mB_ok (p2 := 151) (p3 := 1235) (mm_gw_of (i := 1094) rfl rfl) (by decide +kernel)
set_option maxRecDepth 100000 in
theorem mo_19 : mm_mE mt_19 false 2 := mm_mB_ok (p2 := 151) (p3 := 1240) (mm_gw_of (i := 1098) rfl rfl) (by decide +kernel)
set_option maxRecDepth 100000 in
theorem mo_20 : mm_mE mt_20 false 2 := mm_mB_ok (p2 := 151) (p3 := 1277) (mm_gw_of (i := 1136) rfl rfl) (by decide +kernel)
set_option maxRecDepth 100000 in
theorem mo_21 : mm_mE mt_21 false 3 := mm_mB_ok (p2 := 151) (p3 := 1282) (mm_gw_of (i := 1140) rfl rfl) (by decide +kernel)
set_option maxRecDepth 100000 in
theorem mo_22 : mm_mE mt_22 false 2 := mm_mB_ok (p2 := 151) (p3 := 1329) (mm_gw_of (i := 1188) rfl rfl) (by decide +kernel)
set_option maxRecDepth 100000 in
theorem mo_23 : mm_mE mt_23 false 2 := mm_mB_ok (p2 := 151) (p3 := 1334) (mm_gw_of (i := 1192) rfl rfl) (by decide +kernel)
set_option maxRecDepth 100000 in
theorem mo_24 : mm_mE mt_24 false 2 := mm_mB_ok (p2 := 151) (p3 := 1339) (mm_gw_of (i := 1197) rfl rfl) (by decide +kernel)
set_option maxRecDepth 100000 in
theorem mo_25 : mm_mE mt_25 false 0 := mm_mB_ok (p2 := 152) (p3 := 409) (mm_gw_of (i := 267) rfl rfl) (by decide +kernel)
set_option maxRecDepth 100000 in
theorem mo_26 : mm_mE mt_26 false 1 := mm_mB_ok (p2 := 152) (p3 := 887) (mm_gw_of (i := 746) rfl rfl) (by decide +kernel)
set_option maxRecDepth 100000 in
theorem mo_27 : mm_mE mt_27 false 0 := mm_mB_ok (p2 := 152) (p3 := 1502) (mm_gw_of (i := 1361) rfl rfl) (by decide +kernel)
set_option maxRecDepth 100000 in
theorem mo_28 : mm_mE mt_28 false 0 := mm_mB_ok (p2 := 152) (p3 := 968) (mm_gw_of (i := 827) rfl rfl) (by decide +kernel)
set_option maxRecDepth 100000 in
theorem mo_29 : mm_mE mt_29 false 0 := mm_mB_ok (p2 := 152) (p3 := 972) (mm_gw_of (i := 831) rfl rfl) (by decide +kernel)
set_option maxRecDepth 100000 in
theorem mo_30 : mm_mE mt_30 false 0 := mm_mB_ok (p2 := 145) (p3 := 181) (mm_gw_of (i := 39) rfl rfl) (by decide +kernel)
set_option maxRecDepth 100000 in
theorem mo_31 : mm_mE mt_31 false 1 := mm_mB_ok (p2 := 145) (p3 := 456) (mm_gw_of (i := 315) rfl rfl) (by decide +kernel)
set_option maxRecDepth 100000 in
theorem mo_32 : mm_mE mt_32 false 1 := mm_mB_ok (p2 := 145) (p3 := 945) (mm_gw_of (i := 804) rfl rfl) (by decide +kernel)
set_option maxRecDepth 100000 in
theorem mo_33 : mm_mE mt_33 false 1 := mm_mB_ok (p2 := 145) (p3 := 509) (mm_gw_of (i := 367) rfl rfl) (by decide +kernel)
set_option maxRecDepth 100000 in
theorem mo_34 : mm_mE mt_34 false 0 := mm_mB_ok (p2 := 145) (p3 := 1104) (mm_gw_of (i := 963) rfl rfl) (by decide +kernel)
set_option maxRecDepth 100000 in
theorem mo_35 : mm_mE mt_35 false 0 := mm_mB_ok (p2 := 146) (p3 := 198) (mm_gw_of (i := 56) rfl rfl) (by decide +kernel)
set_option maxRecDepth 100000 in
theorem mo_36 : mm_mE mt_36 false 1 := mm_mB_ok (p2 := 146) (p3 := 512) (mm_gw_of (i := 371) rfl rfl) (by decide +kernel)
set_option maxRecDepth 100000 in
theorem mo_37 : mm_mE mt_37 false 2 := mm_mB_ok (p2 := 146) (p3 := 1488) (mm_gw_of (i := 1347) rfl rfl) (by decide +kernel)
set_option maxRecDepth 100000 in
theorem mo_38 : mm_mE mt_38 false 1 := mm_mB_ok (p2 := 146) (p3 := 518) (mm_gw_of (i := 376) rfl rfl) (by decide +kernel)
set_option maxRecDepth 100000 in
theorem mo_39 : mm_mE mt_39 false 2 := mm_mB_ok (p2 := 146) (p3 := 541) (mm_gw_of (i := 399) rfl rfl) (by decide +kernel)
set_option maxRecDepth 100000 in
theorem mo_40 : mm_mE mt_40 false 0 := mm_mB_ok (p2 := 146) (p3 := 530) (mm_gw_of (i := 388) rfl rfl) (by decide +kernel)
set_option maxRecDepth 100000 in
theorem mo_41 : mm_mE mt_41 false 0 := mm_mB_ok (p2 := 146) (p3 := 613) (mm_gw_of (i := 471) rfl rfl) (by decide +kernel)
set_option maxRecDepth 100000 in
theorem mo_42 : mm_mE mt_42 false 2 := mm_mB_ok (p2 := 146) (p3 := 640) (mm_gw_of (i := 498) rfl rfl) (by decide +kernel)
set_option maxRecDepth 100000 in
theorem mo_43 : mm_mE mt_43 true 1 := mm_mB_ok (p2 := 146) (p3 := 655) (mm_gw_of (i := 513) rfl rfl) (by decide +kernel)
set_option maxRecDepth 100000 in
theorem mo_44 : mm_mE mt_44 false 0 := mm_mB_ok (p2 := 146) (p3 := 644) (mm_gw_of (i := 502) rfl rfl) (by decide +kernel)
set_option maxRecDepth 100000 in
theorem mo_45 : mm_mE mt_45 false 0 := mm_mB_ok (p2 := 146) (p3 := 663) (mm_gw_of (i := 521) rfl rfl) (by decide +kernel)
set_option maxRecDepth 100000 in
theorem mo_46 : mm_mE mt_46 false 1 := mm_mB_ok (p2 := 146) (p3 := 704) (mm_gw_of (i := 562) rfl rfl) (by decide +kernel)
set_option maxRecDepth 100000 in
theorem mo_47 : mm_mE mt_47 false 1 := mm_mB_ok (p2 := 146) (p3 := 761) (mm_gw_of (i := 619) rfl rfl) (by decide +kernel)
set_option maxRecDepth 100000 in
theorem mo_48 : mm_mE mt_48 false 0 := mm_mB_ok (p2 := 146) (p3 := 659) (mm_gw_of (i := 517) rfl rfl) (by decide +kernel)
set_option maxRecDepth 100000 in
theorem mo_49 : mm_mE mt_49 false 0 := mm_mB_ok (p2 := 146) (p3 := 765) (mm_gw_of (i := 623) rfl rfl) (by decide +kernel)
set_option maxRecDepth 100000 in
theorem mo_50 : mm_mE mt_50 false 3 := mm_mB_ok (p2 := 146) (p3 := 671) (mm_gw_of (i := 529) rfl rfl) (by decide +kernel)
set_option maxRecDepth 100000 in
theorem mo_51 : mm_mE mt_51 false 2 := mm_mB_ok (p2 := 146) (p3 := 677) (mm_gw_of (i := 535) rfl rfl) (by decide +kernel)
set_option maxRecDepth 100000 in
theorem mo_52 : mm_mE mt_52 false 0 := mm_mB_ok (p2 := 146) (p3 := 681) (mm_gw_of (i := 539) rfl rfl) (by decide +kernel)
set_option maxRecDepth 100000 in
theorem mo_53 : mm_mE mt_53 false 0 := mm_mB_ok (p2 := 146) (p3 := 691) (mm_gw_of (i := 549) rfl rfl) (by decide +kernel)
set_option maxRecDepth 100000 in
theorem mo_54 : mm_mE mt_54 false 2 := mm_mB_ok (p2 := 146) (p3 := 735) (mm_gw_of (i := 593) rfl rfl) (by decide +kernel)
set_option maxRecDepth 100000 in
theorem mo_55 : mm_mE mt_55 false 2 := mm_mB_ok (p2 := 146) (p3 := 696) (mm_gw_of (i := 554) rfl rfl) (by decide +kernel)
set_option maxRecDepth 100000 in
theorem mo_56 : mm_mE mt_56 false 1 := mm_mB_ok (p2 := 146) (p3 := 700) (mm_gw_of (i := 558) rfl rfl) (by decide +kernel)
set_option maxRecDepth 100000 in
theorem mo_57 : mm_mE mt_57 false 1 := mm_mB_ok (p2 := 146) (p3 := 713) (mm_gw_of (i := 571) rfl rfl) (by decide +kernel)
set_option maxRecDepth 100000 in
theorem mo_58 : mm_mE mt_58 false 0 := mm_mB_ok (p2 := 150) (p3 := 309) (mm_gw_of (i := 167) rfl rfl) (by decide +kernel)
set_option maxRecDepth 100000 in
theorem mo_59 : mm_mE mt_59 false 3 := mm_mB_ok (p2 := 150) (p3 := 1364) (mm_gw_of (i := 1223) rfl rfl) (by decide +kernel)
set_option maxRecDepth 100000 in
theorem mo_60 : mm_mE mt_60 false 2 := mm_mB_ok (p2 := 150) (p3 := 780) (mm_gw_of (i := 639) rfl rfl) (by decide +kernel)
set_option maxRecDepth 100000 in
theorem mo_61 : mm_mE mt_61 false 1 := mm_mB_ok (p2 := 150) (p3 := 828) (mm_gw_of (i := 687) rfl rfl) (by decide +kernel)
set_option maxRecDepth 100000 in
theorem mo_62 : mm_mE mt_62 false 1 := mm_mB_ok (p2 := 150) (p3 := 837) (mm_gw_of (i := 695) rfl rfl) (by decide +kernel)
set_option maxRecDepth 100000 in
theorem mo_63 : mm_mE mt_63 false 0 := mm_mB_ok (p2 := 147) (p3 := 204) (mm_gw_of (i := 62) rfl rfl) (by decide +kernel)
set_option maxRecDepth 100000 in
theorem mo_64 : mm_mE mt_64 false 1 := mm_mB_ok (p2 := 147) (p3 := 841) (mm_gw_of (i := 700) rfl rfl) (by decide +kernel)
set_option maxRecDepth 100000 in
theorem mo_65 : mm_mE mt_65 false 1 := mm_mB_ok (p2 := 147) (p3 := 627) (mm_gw_of (i := 486) rfl rfl) (by decide +kernel)
set_option maxRecDepth 100000 in
theorem mo_66 : mm_mE mt_66 false 1 := mm_mB_ok (p2 := 147) (p3 := 756) (mm_gw_of (i := 615) rfl rfl) (by decide +kernel)
set_option maxRecDepth 100000 in
theorem mo_67 : mm_mE mt_67 false 1 := mm_mB_ok (p2 := 147) (p3 := 768) (mm_gw_of (i := 627) rfl rfl) (by decide +kernel)
set_option maxRecDepth 100000 in
theorem mo_68 : mm_mE mt_68 false 1 := mm_mB_ok (p2 := 147) (p3 := 666) (mm_gw_of (i := 525) rfl rfl) (by decide +kernel)
set_option maxRecDepth 100000 in
theorem mo_69 : mm_mE mt_69 false 1 := mm_mB_ok (p2 := 147) (p3 := 623) (mm_gw_of (i := 482) rfl rfl) (by decide +kernel)
set_option maxRecDepth 100000 in
theorem mo_70 : mm_mE mt_70 false 1 := mm_mB_ok (p2 := 147) (p3 := 776) (mm_gw_of (i := 635) rfl rfl) (by decide +kernel)
set_option maxRecDepth 100000 in
theorem mo_71 : mm_mE mt_71 false 0 := mm_mB_ok (p2 := 147) (p3 := 1081) (mm_gw_of (i := 940) rfl rfl) (by decide +kernel)
set_option maxRecDepth 100000 in
theorem mo_72 : mm_mE mt_72 false 1 := mm_mB_ok (p2 := 147) (p3 := 1077) (mm_gw_of (i := 936) rfl rfl) (by decide +kernel)
set_option maxRecDepth 100000 in
theorem mo_73 : mm_mE mt_73 false 2 := mm_mB_ok (p2 := 147) (p3 := 1163) (mm_gw_of (i := 1022) rfl rfl) (by decide +kernel)
set_option maxRecDepth 100000 in
theorem mo_74 : mm_mE mt_74 false 3 := mm_mB_ok (p2 := 147) (p3 := 1182) (mm_gw_of (i := 1041) rfl rfl) (by decide +kernel)
set_option maxRecDepth 100000 in
theorem mo_75 : mm_mE mt_75 false 1 := mm_mB_ok (p2 := 147) (p3 := 1257) (mm_gw_of (i := 1116) rfl rfl) (by decide +kernel)
set_option maxRecDepth 100000 in
theorem mo_76 : mm_mE mt_76 false 1 := mm_mB_ok (p2 := 147) (p3 := 1253) (mm_gw_of (i := 1112) rfl rfl) (by decide +kernel)
set_option maxRecDepth 100000 in
theorem mo_77 : mm_mE mt_77 false 1 := mm_mB_ok (p2 := 148) (p3 := 210) (mm_gw_of (i := 68) rfl rfl) (by decide +kernel)
set_option maxRecDepth 100000 in
theorem mo_78 : mm_mE mt_78 false 1 := mm_mB_ok (p2 := 148) (p3 := 631) (mm_gw_of (i := 490) rfl rfl) (by decide +kernel)
set_option maxRecDepth 100000 in
theorem mo_79 : mm_mE mt_79 false 2 := mm_mB_ok (p2 := 148) (p3 := 720) (mm_gw_of (i := 579) rfl rfl) (by decide +kernel)
set_option maxRecDepth 100000 in
theorem mo_80 : mm_mE mt_80 false 2 := mm_mB_ok (p2 := 148) (p3 := 724) (mm_gw_of (i := 583) rfl rfl) (by decide +kernel)
set_option maxRecDepth 100000 in
theorem mo_81 : mm_mE mt_81 false 3 := mm_mB_ok (p2 := 148) (p3 := 730) (mm_gw_of (i := 589) rfl rfl) (by decide +kernel)
set_option maxRecDepth 100000 in
theorem mo_82 : mm_mE mt_82 false 4 := mm_mB_ok (p2 := 148) (p3 := 746) (mm_gw_of (i := 605) rfl rfl) (by decide +kernel)
set_option maxRecDepth 100000 in
theorem mo_83 : mm_mE mt_83 true 3 := mm_mB_ok (p2 := 148) (p3 := 750) (mm_gw_of (i := 608) rfl rfl) (by decide +kernel)
set_option maxRecDepth 100000 in
theorem mo_84 : mm_mE mt_84 false 2 := mm_mB_ok (p2 := 148) (p3 := 738) (mm_gw_of (i := 597) rfl rfl) (by decide +kernel)
set_option maxRecDepth 100000 in
theorem mo_85 : mm_mE mt_85 false 4 := mm_mB_ok (p2 := 148) (p3 := 707) (mm_gw_of (i := 566) rfl rfl) (by decide +kernel)
set_option maxRecDepth 100000 in
theorem mo_86 : mm_mE mt_86 false 4 := mm_mB_ok (p2 := 148) (p3 := 742) (mm_gw_of (i := 601) rfl rfl) (by decide +kernel)
set_option maxRecDepth 100000 in
theorem mo_87 : mm_mE mt_87 false 2 := mm_mB_ok (p2 := 148) (p3 := 817) (mm_gw_of (i := 676) rfl rfl) (by decide +kernel)
set_option maxRecDepth 100000 in
theorem mo_88 : mm_mE mt_88 false 2 := mm_mB_ok (p2 := 148) (p3 := 809) (mm_gw_of (i := 668) rfl rfl) (by decide +kernel)
set_option maxRecDepth 100000 in
theorem mo_89 : mm_mE mt_89 false 2 := mm_mB_ok (p2 := 148) (p3 := 1085) (mm_gw_of (i := 944) rfl rfl) (by decide +kernel)
set_option maxRecDepth 100000 in
theorem mo_90 : mm_mE mt_90 false 1 := mm_mB_ok (p2 := 148) (p3 := 804) (mm_gw_of (i := 663) rfl rfl) (by decide +kernel)
set_option maxRecDepth 100000 in
theorem mo_91 : mm_mE mt_91 false 0 := mm_mB_ok (p2 := 149) (p3 := 274) (mm_gw_of (i := 132) rfl rfl) (by decide +kernel)
set_option maxRecDepth 100000 in
theorem mo_92 : mm_mE mt_92 false 1 := mm_mB_ok (p2 := 149) (p3 := 521) (mm_gw_of (i := 380) rfl rfl) (by decide +kernel)
set_option maxRecDepth 100000 in
theorem mo_93 : mm_mE mt_93 false 0 := mm_mB_ok (p2 := 149) (p3 := 525) (mm_gw_of (i := 384) rfl rfl) (by decide +kernel)
set_option maxRecDepth 100000 in
theorem mo_94 : mm_mE mt_94 false 1 := mm_mB_ok (p2 := 149) (p3 := 635) (mm_gw_of (i := 494) rfl rfl) (by decide +kernel)
set_option maxRecDepth 100000 in
theorem mo_95 : mm_mE mt_95 false 0 := mm_mB_ok (p2 := 149) (p3 := 716) (mm_gw_of (i := 575) rfl rfl) (by decide +kernel)
set_option maxRecDepth 100000 in
theorem mo_96 : mm_mE mt_96 false 1 := mm_mB_ok (p2 := 149) (p3 := 534) (mm_gw_of (i := 393) rfl rfl) (by decide +kernel)
set_option maxRecDepth 100000 in
theorem mo_97 : mm_mE mt_97 false 1 := mm_mB_ok (p2 := 149) (p3 := 685) (mm_gw_of (i := 544) rfl rfl) (by decide +kernel)
set_option maxRecDepth 100000 in
theorem mo_98 : mm_mE mt_98 false 0 := mm_mB_ok (p2 := 149) (p3 := 616) (mm_gw_of (i := 475) rfl rfl) (by decide +kernel)
set_option maxRecDepth 100000 in
theorem mo_99 : mm_mE mt_99 false 0 := mm_mB_ok (p2 := 153) (p3 := 442) (mm_gw_of (i := 300) rfl rfl) (by decide +kernel)
set_option maxRecDepth 100000 in
theorem mo_100 : mm_mE mt_100 false 1 := mm_mB_ok (p2 := 153) (p3 := 912) (mm_gw_of (i := 771) rfl rfl) (by decide +kernel)
set_option maxRecDepth 100000 in
theorem mo_101 : mm_mE mt_101 false 1 := mm_mB_ok (p2 := 153) (p3 := 1533) (mm_gw_of (i := 1392) rfl rfl) (by decide +kernel)
set_option maxRecDepth 100000 in
theorem mo_102 : mm_mE mt_102 false 1 := mm_mB_ok (p2 := 153) (p3 := 916) (mm_gw_of (i := 775) rfl rfl) (by decide +kernel)
set_option maxRecDepth 100000 in
theorem mo_103 : mm_mE mt_103 false 0 := mm_mB_ok (p2 := 144) (p3 := 173) (mm_gw_of (i := 31) rfl rfl) (by decide +kernel)
set_option maxRecDepth 100000 in
theorem mo_104 : mm_mE mt_104 false 5 := mm_mB_ok (p2 := 144) (p3 := 925) (mm_gw_of (i := 784) rfl rfl) (by decide +kernel)
set_option maxRecDepth 100000 in
theorem mo_105 : mm_mE mt_105 false 1 := mm_mB_ok (p2 := 144) (p3 := 953) (mm_gw_of (i := 812) rfl rfl) (by decide +kernel)
set_option maxRecDepth 100000 in
theorem mo_106 : mm_mE mt_106 false 0 := mm_mB_ok (p2 := 144) (p3 := 963) (mm_gw_of (i := 822) rfl rfl) (by decide +kernel)
set_option maxRecDepth 100000 in
theorem mo_107 : mm_mE mt_107 false 0 := mm_mB_ok (p2 := 144) (p3 := 871) (mm_gw_of (i := 730) rfl rfl) (by decide +kernel)
set_option maxRecDepth 100000 in
theorem mo_108 : mm_mE mt_108 false 0 := mm_mB_ok (p2 := 144) (p3 := 875) (mm_gw_of (i := 734) rfl rfl) (by decide +kernel)
set_option maxRecDepth 100000 in
theorem mo_109 : mm_mE mt_109 false 1 := mm_mB_ok (p2 := 144) (p3 := 983) (mm_gw_of (i := 842) rfl rfl) (by decide +kernel)
set_option maxRecDepth 100000 in
theorem mo_110 : mm_mE mt_110 false 2 := mm_mB_ok (p2 := 144) (p3 := 1015) (mm_gw_of (i := 874) rfl rfl) (by decide +kernel)
set_option maxRecDepth 100000 in
theorem mo_111 : mm_mE mt_111 false 1 := mm_mB_ok (p2 := 144) (p3 := 1052) (mm_gw_of (i := 911) rfl rfl) (by decide +kernel)
set_option maxRecDepth 100000 in
theorem mo_112 : mm_mE mt_112 false 2 := mm_mB_ok (p2 := 144) (p3 := 1064) (mm_gw_of (i := 923) rfl rfl) (by decide +kernel)
set_option maxRecDepth 100000 in
theorem mo_113 : mm_mE mt_113 false 0 := mm_mB_ok (p2 := 144) (p3 := 1100) (mm_gw_of (i := 959) rfl rfl) (by decide +kernel)
set_option maxRecDepth 100000 in
theorem mo_114 : mm_mE mt_114 false 2 := mm_mB_ok (p2 := 144) (p3 := 1128) (mm_gw_of (i := 987) rfl rfl) (by decide +kernel)
set_option maxRecDepth 100000 in
theorem mo_115 : mm_mE mt_115 false 2 := mm_mB_ok (p2 := 144) (p3 := 1149) (mm_gw_of (i := 1008) rfl rfl) (by decide +kernel)
set_option maxRecDepth 100000 in
theorem mo_116 : mm_mE mt_116 false 2 := mm_mB_ok (p2 := 144) (p3 := 1159) (mm_gw_of (i := 1018) rfl rfl) (by decide +kernel)
set_option maxRecDepth 100000 in
theorem mo_117 : mm_mE mt_117 false 1 := mm_mB_ok (p2 := 144) (p3 := 1171) (mm_gw_of (i := 1030) rfl rfl) (by decide +kernel)
set_option maxRecDepth 100000 in
theorem mo_118 : mm_mE mt_118 false 2 := mm_mB_ok (p2 := 144) (p3 := 1178) (mm_gw_of (i := 1037) rfl rfl) (by decide +kernel)
set_option maxRecDepth 100000 in
theorem mo_119 : mm_mE mt_119 false 2 := mm_mB_ok (p2 := 144) (p3 := 1189) (mm_gw_of (i := 1048) rfl rfl) (by decide +kernel)
set_option maxRecDepth 100000 in
theorem mo_120 : mm_mE mt_120 false 2 := mm_mB_ok (p2 := 144) (p3 := 1196) (mm_gw_of (i := 1055) rfl rfl) (by decide +kernel)
set_option maxRecDepth 100000 in
theorem mo_121 : mm_mE mt_121 false 2 := mm_mB_ok (p2 := 144) (p3 := 1216) (mm_gw_of (i := 1075) rfl rfl) (by decide +kernel)
set_option maxRecDepth 100000 in
theorem mo_122 : mm_mE mt_122 false 1 := mm_mB_ok (p2 := 144) (p3 := 1231) (mm_gw_of (i := 1090) rfl rfl) (by decide +kernel)
set_option maxRecDepth 100000 in
theorem mo_123 : mm_mE mt_123 false 1 := mm_mB_ok (p2 := 144) (p3 := 1249) (mm_gw_of (i := 1108) rfl rfl) (by decide +kernel)
set_option maxRecDepth 100000 in
theorem mo_124 : mm_mE mt_124 false 1 := mm_mB_ok (p2 := 144) (p3 := 1265) (mm_gw_of (i := 1124) rfl rfl) (by decide +kernel)
set_option maxRecDepth 100000 in
theorem mo_125 : mm_mE mt_125 false 1 := mm_mB_ok (p2 := 144) (p3 := 1273) (mm_gw_of (i := 1132) rfl rfl) (by decide +kernel)
set_option maxRecDepth 100000 in
theorem mo_126 : mm_mE mt_126 false 2 := mm_mB_ok (p2 := 144) (p3 := 1289) (mm_gw_of (i := 1148) rfl rfl) (by decide +kernel)
set_option maxRecDepth 100000 in
theorem mo_127 : mm_mE mt_127 false 2 := mm_mB_ok (p2 := 144) (p3 := 1296) (mm_gw_of (i := 1155) rfl rfl) (by decide +kernel)
set_option maxRecDepth 100000 in
theorem mo_128 : mm_mE mt_128 false 2 := mm_mB_ok (p2 := 144) (p3 := 1304) (mm_gw_of (i := 1163) rfl rfl) (by decide +kernel)
set_option maxRecDepth 100000 in
theorem mo_129 : mm_mE mt_129 false 1 := mm_mB_ok (p2 := 144) (p3 := 1311) (mm_gw_of (i := 1170) rfl rfl) (by decide +kernel)
set_option maxRecDepth 100000 in
theorem mo_130 : mm_mE mt_130 false 2 := mm_mB_ok (p2 := 144) (p3 := 1318) (mm_gw_of (i := 1177) rfl rfl) (by decide +kernel)
set_option maxRecDepth 100000 in
theorem mo_131 : mm_mE mt_131 false 2 := mm_mB_ok (p2 := 144) (p3 := 1325) (mm_gw_of (i := 1184) rfl rfl) (by decide +kernel)
set_option maxRecDepth 100000 in
theorem mo_132 : mm_mE mt_132 false 3 := mm_mB_ok (p2 := 144) (p3 := 1348) (mm_gw_of (i := 1207) rfl rfl) (by decide +kernel)
set_option maxRecDepth 100000 in
theorem mo_133 : mm_mE mt_133 false 2 := mm_mB_ok (p2 := 144) (p3 := 1360) (mm_gw_of (i := 1219) rfl rfl) (by decide +kernel)
set_option maxRecDepth 100000 in
theorem mo_134 : mm_mE mt_134 false 1 := mm_mB_ok (p2 := 144) (p3 := 1371) (mm_gw_of (i := 1230) rfl rfl) (by decide +kernel)
set_option maxRecDepth 100000 in
theorem mo_135 : mm_mE mt_135 false 1 := mm_mB_ok (p2 := 144) (p3 := 1379) (mm_gw_of (i := 1238) rfl rfl) (by decide +kernel)
set_option maxRecDepth 100000 in
theorem mo_136 : mm_mE mt_136 false 3 := mm_mB_ok (p2 := 144) (p3 := 1386) (mm_gw_of (i := 1245) rfl rfl) (by decide +kernel)
set_option maxRecDepth 100000 in
theorem mo_137 : mm_mE mt_137 false 3 := mm_mB_ok (p2 := 144) (p3 := 1399) (mm_gw_of (i := 1258) rfl rfl) (by decide +kernel)
set_option maxRecDepth 100000 in
theorem mo_138 : mm_mE mt_138 false 1 := mm_mB_ok (p2 := 144) (p3 := 1407) (mm_gw_of (i := 1266) rfl rfl) (by decide +kernel)
set_option maxRecDepth 100000 in
theorem mo_139 : mm_mE mt_139 false 3 := mm_mB_ok (p2 := 144) (p3 := 1415) (mm_gw_of (i := 1274) rfl rfl) (by decide +kernel)
set_option maxRecDepth 100000 in
theorem mo_140 : mm_mE mt_140 false 3 := mm_mB_ok (p2 := 144) (p3 := 1423) (mm_gw_of (i := 1282) rfl rfl) (by decide +kernel)
set_option maxRecDepth 100000 in
theorem mo_141 : mm_mE mt_141 false 3 := mm_mB_ok (p2 := 144) (p3 := 1430) (mm_gw_of (i := 1289) rfl rfl) (by decide +kernel)
set_option maxRecDepth 100000 in
theorem mo_142 : mm_mE mt_142 false 1 := mm_mB_ok (p2 := 144) (p3 := 1437) (mm_gw_of (i := 1296) rfl rfl) (by decide +kernel)
set_option maxRecDepth 100000 in
theorem mo_143 : mm_mE mt_143 false 1 := mm_mB_ok (p2 := 144) (p3 := 1445) (mm_gw_of (i := 1304) rfl rfl) (by decide +kernel)
set_option maxRecDepth 100000 in
theorem mo_144 : mm_mE mt_144 false 2 := mm_mB_ok (p2 := 144) (p3 := 1454) (mm_gw_of (i := 1313) rfl rfl) (by decide +kernel)
set_option maxRecDepth 100000 in
theorem mo_145 : mm_mE mt_145 false 1 := mm_mB_ok (p2 := 144) (p3 := 1461) (mm_gw_of (i := 1320) rfl rfl) (by decide +kernel)
set_option maxRecDepth 100000 in
theorem mo_146 : mm_mE mt_146 false 0 := mm_mB_ok (p2 := 144) (p3 := 879) (mm_gw_of (i := 738) rfl rfl) (by decide +kernel)
set_option maxRecDepth 100000 in
theorem mo_147 : mm_mE mt_147 false 2 := mm_mB_ok (p2 := 144) (p3 := 1468) (mm_gw_of (i := 1327) rfl rfl) (by decide +kernel)
set_option maxRecDepth 100000 in
theorem mo_148 : mm_mE mt_148 false 2 := mm_mB_ok (p2 := 144) (p3 := 1476) (mm_gw_of (i := 1335) rfl rfl) (by decide +kernel)
set_option maxRecDepth 100000 in
theorem mo_149 : mm_mE mt_149 false 0 := mm_mB_ok (p2 := 144) (p3 := 1484) (mm_gw_of (i := 1343) rfl rfl) (by decide +kernel)
set_option maxRecDepth 100000 in
theorem mo_150 : mm_mE mt_150 false 0 := mm_mB_ok (p2 := 144) (p3 := 1497) (mm_gw_of (i := 1356) rfl rfl) (by decide +kernel)
set_option maxRecDepth 100000 in
theorem mo_151 : mm_mE mt_151 false 1 := mm_mB_ok (p2 := 144) (p3 := 1509) (mm_gw_of (i := 1368) rfl rfl) (by decide +kernel)
set_option maxRecDepth 100000 in
theorem mo_152 : mm_mE mt_152 false 1 := mm_mB_ok (p2 := 144) (p3 := 1521) (mm_gw_of (i := 1380) rfl rfl) (by decide +kernel)
set_option maxRecDepth 100000 in
theorem mo_153 : mm_mE mt_153 false 1 := mm_mB_ok (p2 := 144) (p3 := 1529) (mm_gw_of (i := 1388) rfl rfl) (by decide +kernel)
set_option maxRecDepth 100000 in
theorem mo_154 : mm_mE mt_154 false 0 := mm_mB_ok (p2 := 144) (p3 := 908) (mm_gw_of (i := 767) rfl rfl) (by decide +kernel)
set_option maxRecDepth 100000 in
theorem mo_155 : mm_mE mt_155 false 1 := mm_mB_ok (p2 := 144) (p3 := 1544) (mm_gw_of (i := 1403) rfl rfl) (by decide +kernel)
set_option maxRecDepth 100000 in
theorem mo_156 : mm_mE mt_156 false 1 := mm_mB_ok (p2 := 144) (p3 := 1069) (mm_gw_of (i := 927) rfl rfl) (by decide +kernel)
set_option maxRecDepth 100000 in
theorem mo_157 : mm_mE mt_157 false 1 := mm_mB_ok (p2 := 144) (p3 := 1020) (mm_gw_of (i := 878) rfl rfl) (by decide +kernel)
set_option maxRecDepth 100000 in
theorem mo_158 : mm_mE mt_158 false 1 := mm_mB_ok (p2 := 144) (p3 := 1057) (mm_gw_of (i := 915) rfl rfl) (by decide +kernel)
set_option maxRecDepth 100000 in
theorem mo_159 : mm_mE mt_159 false 1 := mm_mB_ok (p2 := 144) (p3 := 1514) (mm_gw_of (i := 1372) rfl rfl) (by decide +kernel)
set_option maxRecDepth 100000 in
theorem mo_160 : mm_mE mt_160 false 1 := mm_mB_ok (p2 := 144) (p3 := 1201) (mm_gw_of (i := 1059) rfl rfl) (by decide +kernel)
set_option maxRecDepth 100000 in
theorem mo_161 : mm_mE mt_161 false 1 := mm_mB_ok (p2 := 144) (p3 := 1353) (mm_gw_of (i := 1211) rfl rfl) (by decide +kernel)
set_option maxRecDepth 100000 in
theorem mo_162 : mm_mE mt_162 false 0 := mm_mB_ok (p2 := 144) (p3 := 1391) (mm_gw_of (i := 1249) rfl rfl) (by decide +kernel)
set_option maxRecDepth 100000 in
theorem mo_163 : mm_mE mt_163 false 0 := mm_mB_ok (p2 := 144) (p3 := 884) (mm_gw_of (i := 742) rfl rfl) (by decide +kernel)
set_option maxRecDepth 100000 in
theorem mo_164 : mm_mE mt_164 false 1 := mm_mB_ok (p2 := 144) (p3 := 977) (mm_gw_of (i := 835) rfl rfl) (by decide +kernel)
set_option maxRecDepth 100000 in
theorem mo_165 : mm_mE mt_165 false 0 := mm_mB_ok (p2 := 144) (p3 := 894) (mm_gw_of (i := 752) rfl rfl) (by decide +kernel)
set_option maxRecDepth 100000 in
theorem mo_166 : mm_mE mt_166 false 0 := mm_mB_ok (p2 := 144) (p3 := 993) (mm_gw_of (i := 851) rfl rfl) (by decide +kernel)
set_option maxRecDepth 100000 in
theorem mo_167 : mm_mE mt_167 false 1 := mm_mB_ok (p2 := 144) (p3 := 997) (mm_gw_of (i := 855) rfl rfl) (by decide +kernel)
set_option maxRecDepth 100000 in
theorem mo_168 : mm_mE mt_168 false 0 := mm_mB_ok (p2 := 144) (p3 := 1002) (mm_gw_of (i := 860) rfl rfl) (by decide +kernel)
set_option maxRecDepth 100000 in
theorem mo_169 : mm_mE mt_169 false 1 := mm_mB_ok (p2 := 144) (p3 := 1042) (mm_gw_of (i := 900) rfl rfl) (by decide +kernel)
set_option maxRecDepth 100000 in
theorem mo_170 : mm_mE mt_170 false 1 := mm_mB_ok (p2 := 144) (p3 := 1006) (mm_gw_of (i := 864) rfl rfl) (by decide +kernel)
set_option maxRecDepth 100000 in
theorem mo_171 : mm_mE mt_171 false 1 := mm_mB_ok (p2 := 144) (p3 := 1538) (mm_gw_of (i := 1396) rfl rfl) (by decide +kernel)
set_option maxRecDepth 100000 in
theorem mo_172 : mm_mE mt_172 true 1 := mm_mB_ok (p2 := 144) (p3 := 1045) (mm_gw_of (i := 903) rfl rfl) (by decide +kernel)
set_option maxRecDepth 100000 in
theorem mo_173 : mm_mE mt_173 true 3 := mm_mB_ok (p2 := 144) (p3 := 773) (mm_gw_of (i := 631) rfl rfl) (by decide +kernel)
set_option maxRecDepth 100000 in
theorem mo_174 : mm_mE mt_174 false 0 := mm_mB_ok (p2 := 164) (p3 := 1549) (mm_gw_of (i := 1408) rfl rfl) (by decide +kernel)
set_option maxRecDepth 100000 in
theorem mo_175 : mm_mE mt_175 false 0 := mm_mB_ok (p2 := 164) (p3 := 1555) (mm_gw_of (i := 1413) rfl rfl) (by decide +kernel)
set_option maxRecDepth 100000 in
theorem mo_176 : mm_mE mt_176 false 3 := mm_mB_ok (p2 := 164) (p3 := 1852) (mm_gw_of (i := 1710) rfl rfl) (by decide +kernel)
set_option maxRecDepth 100000 in
theorem mo_177 : mm_mE mt_177 true 3 := mm_mB_ok (p2 := 164) (p3 := 1863) (mm_gw_of (i := 1721) rfl rfl) (by decide +kernel)
set_option maxRecDepth 100000 in
theorem mo_178 : mm_mE mt_178 false 0 := mm_mB_ok (p2 := 164) (p3 := 1615) (mm_gw_of (i := 1473) rfl rfl) (by decide +kernel)
set_option maxRecDepth 100000 in
theorem mo_179 : mm_mE mt_179 false 0 := mm_mB_ok (p2 := 164) (p3 := 1627) (mm_gw_of (i := 1485) rfl rfl) (by decide +kernel)
set_option maxRecDepth 100000 in
theorem mo_180 : mm_mE mt_180 false 1 := mm_mB_ok (p2 := 164) (p3 := 2024) (mm_gw_of (i := 1882) rfl rfl) (by decide +kernel)
set_option maxRecDepth 100000 in
theorem mo_181 : mm_mE mt_181 false 1 := mm_mB_ok (p2 := 164) (p3 := 2040) (mm_gw_of (i := 1898) rfl rfl) (by decide +kernel)
set_option maxRecDepth 100000 in
theorem mo_182 : mm_mE mt_182 false 1 := mm_mB_ok (p2 := 164) (p3 := 2032) (mm_gw_of (i := 1890) rfl rfl) (by decide +kernel)
set_option maxRecDepth 100000 in
theorem mo_183 : mm_mE mt_183 false 0 := mm_mB_ok (p2 := 164) (p3 := 2060) (mm_gw_of (i := 1918) rfl rfl) (by decide +kernel)
set_option maxRecDepth 100000 in
theorem mo_184 : mm_mE mt_184 false 2 := mm_mB_ok (p2 := 164) (p3 := 1871) (mm_gw_of (i := 1729) rfl rfl) (by decide +kernel)
set_option maxRecDepth 100000 in
theorem mo_185 : mm_mE mt_185 false 1 := mm_mB_ok (p2 := 164) (p3 := 1984) (mm_gw_of (i := 1842) rfl rfl) (by decide +kernel)
set_option maxRecDepth 100000 in
theorem mo_186 : mm_mE mt_186 false 2 := mm_mB_ok (p2 := 164) (p3 := 1722) (mm_gw_of (i := 1580) rfl rfl) (by decide +kernel)
set_option maxRecDepth 100000 in
theorem mo_187 : mm_mE mt_187 true 5 := mm_mB_ok (p2 := 164) (p3 := 1690) (mm_gw_of (i := 1548) rfl rfl) (by decide +kernel)
set_option maxRecDepth 100000 in
theorem mo_188 : mm_mE mt_188 false 7 := mm_mB_ok (p2 := 164) (p3 := 1687) (mm_gw_of (i := 1545) rfl rfl) (by decide +kernel)
set_option maxRecDepth 100000 in
theorem mo_189 : mm_mE mt_189 false 2 := mm_mB_ok (p2 := 164) (p3 := 1730) (mm_gw_of (i := 1588) rfl rfl) (by decide +kernel)
set_option maxRecDepth 100000 in
theorem mo_190 : mm_mE mt_190 false 4 := mm_mB_ok (p2 := 164) (p3 := 2016) (mm_gw_of (i := 1874) rfl rfl) (by decide +kernel)
set_option maxRecDepth 100000 in
theorem mo_191 : mm_mE mt_191 false 2 := mm_mB_ok (p2 := 164) (p3 := 2012) (mm_gw_of (i := 1870) rfl rfl) (by decide +kernel)
set_option maxRecDepth 100000 in
theorem mo_192 : mm_mE mt_192 false 2 := mm_mB_ok (p2 := 164) (p3 := 2064) (mm_gw_of (i := 1922) rfl rfl) (by decide +kernel)
set_option maxRecDepth 100000 in
theorem mo_193 : mm_mE mt_193 false 2 := mm_mB_ok (p2 := 164) (p3 := 2004) (mm_gw_of (i := 1862) rfl rfl) (by decide +kernel)
set_option maxRecDepth 100000 in
theorem mo_194 : mm_mE mt_194 false 0 := mm_mB_ok (p2 := 164) (p3 := 1932) (mm_gw_of (i := 1790) rfl rfl) (by decide +kernel)
set_option maxRecDepth 100000 in
theorem mo_195 : mm_mE mt_195 false 0 := mm_mB_ok (p2 := 164) (p3 := 1924) (mm_gw_of (i := 1782) rfl rfl) (by decide +kernel)
set_option maxRecDepth 100000 in
theorem mo_196 : mm_mE mt_196 true 4 := mm_mB_ok (p2 := 164) (p3 := 1939) (mm_gw_of (i := 1797) rfl rfl) (by decide +kernel)
set_option maxRecDepth 100000 in
theorem mo_197 : mm_mE mt_197 false 5 := mm_mB_ok (p2 := 164) (p3 := 1948) (mm_gw_of (i := 1806) rfl rfl) (by decide +kernel)
set_option maxRecDepth 100000 in
theorem mo_198 : mm_mE mt_198 false 5 := mm_mB_ok (p2 := 164) (p3 := 1936) (mm_gw_of (i := 1794) rfl rfl) (by decide +kernel)
set_option maxRecDepth 100000 in
theorem mo_199 : mm_mE mt_199 false 5 := mm_mB_ok (p2 := 164) (p3 := 1952) (mm_gw_of (i := 1810) rfl rfl) (by decide +kernel)
set_option maxRecDepth 100000 in
theorem mo_200 : mm_mE mt_200 false 0 := mm_mB_ok (p2 := 164) (p3 := 1928) (mm_gw_of (i := 1786) rfl rfl) (by decide +kernel)
set_option maxRecDepth 100000 in
theorem mo_201 : mm_mE mt_201 false 0 := mm_mB_ok (p2 := 164) (p3 := 1920) (mm_gw_of (i := 1778) rfl rfl) (by decide +kernel)
set_option maxRecDepth 100000 in
theorem mo_202 : mm_mE mt_202 false 2 := mm_mB_ok (p2 := 164) (p3 := 2052) (mm_gw_of (i := 1910) rfl rfl) (by decide +kernel)
set_option maxRecDepth 100000 in
theorem mo_203 : mm_mE mt_203 false 2 := mm_mB_ok (p2 := 164) (p3 := 2048) (mm_gw_of (i := 1906) rfl rfl) (by decide +kernel)
set_option maxRecDepth 100000 in
theorem mo_204 : mm_mE mt_204 false 1 := mm_mB_ok (p2 := 164) (p3 := 2044) (mm_gw_of (i := 1902) rfl rfl) (by decide +kernel)
set_option maxRecDepth 100000 in
theorem mo_205 : mm_mE mt_205 false 1 := mm_mB_ok (p2 := 164) (p3 := 1856) (mm_gw_of (i := 1714) rfl rfl) (by decide +kernel)
set_option maxRecDepth 100000 in
theorem mo_206 : mm_mE mt_206 false 5 := mm_mB_ok (p2 := 164) (p3 := 1847) (mm_gw_of (i := 1706) rfl rfl) (by decide +kernel)
set_option maxRecDepth 100000 in
theorem mo_207 : mm_mE mt_207 false 1 := mm_mB_ok (p2 := 164) (p3 := 1859) (mm_gw_of (i := 1718) rfl rfl) (by decide +kernel)
set_option maxRecDepth 100000 in
theorem mo_208 : mm_mE mt_208 true 1 := mm_mB_ok (p2 := 164) (p3 := 1576) (mm_gw_of (i := 1434) rfl rfl) (by decide +kernel)
set_option maxRecDepth 100000 in
theorem mo_209 : mm_mE mt_209 true 1 := mm_mB_ok (p2 := 164) (p3 := 1579) (mm_gw_of (i := 1437) rfl rfl) (by decide +kernel)
set_option maxRecDepth 100000 in
theorem mo_210 : mm_mE mt_210 false 0 := mm_mB_ok (p2 := 164) (p3 := 1573) (mm_gw_of (i := 1431) rfl rfl) (by decide +kernel)
set_option maxRecDepth 100000 in
theorem mo_211 : mm_mE mt_211 false 0 := mm_mB_ok (p2 := 164) (p3 := 1569) (mm_gw_of (i := 1427) rfl rfl) (by decide +kernel)
set_option maxRecDepth 100000 in
theorem mo_212 : mm_mE mt_212 false 1 := mm_mB_ok (p2 := 164) (p3 := 1592) (mm_gw_of (i := 1450) rfl rfl) (by decide +kernel)
set_option maxRecDepth 100000 in
theorem mo_213 : mm_mE mt_213 false 1 := mm_mB_ok (p2 := 164) (p3 := 1588) (mm_gw_of (i := 1446) rfl rfl) (by decide +kernel)
set_option maxRecDepth 100000 in
theorem mo_214 : mm_mE mt_214 false 1 := mm_mB_ok (p2 := 164) (p3 := 1635) (mm_gw_of (i := 1493) rfl rfl) (by decide +kernel)
set_option maxRecDepth 100000 in
theorem mo_215 : mm_mE mt_215 false 1 := mm_mB_ok (p2 := 164) (p3 := 1702) (mm_gw_of (i := 1560) rfl rfl) (by decide +kernel)
set_option maxRecDepth 100000 in
theorem mo_216 : mm_mE mt_216 false 0 := mm_mB_ok (p2 := 164) (p3 := 1604) (mm_gw_of (i := 1462) rfl rfl) (by decide +kernel)
set_option maxRecDepth 100000 in
theorem mo_217 : mm_mE mt_217 false 0 := mm_mB_ok (p2 := 164) (p3 := 1600) (mm_gw_of (i := 1458) rfl rfl) (by decide +kernel)
set_option maxRecDepth 100000 in
theorem mo_218 : mm_mE mt_218 false 1 := mm_mB_ok (p2 := 164) (p3 := 1619) (mm_gw_of (i := 1477) rfl rfl) (by decide +kernel)
set_option maxRecDepth 100000 in
theorem mo_219 : mm_mE mt_219 false 0 := mm_mB_ok (p2 := 164) (p3 := 1611) (mm_gw_of (i := 1469) rfl rfl) (by decide +kernel)
set_option maxRecDepth 100000 in
theorem mo_220 : mm_mE mt_220 false 0 := mm_mB_ok (p2 := 164) (p3 := 1623) (mm_gw_of (i := 1481) rfl rfl) (by decide +kernel)
set_option maxRecDepth 100000 in
theorem mo_221 : mm_mE mt_221 false 1 := mm_mB_ok (p2 := 164) (p3 := 1631) (mm_gw_of (i := 1489) rfl rfl) (by decide +kernel)
set_option maxRecDepth 100000 in
theorem mo_222 : mm_mE mt_222 false 0 := mm_mB_ok (p2 := 164) (p3 := 1596) (mm_gw_of (i := 1454) rfl rfl) (by decide +kernel)
set_option maxRecDepth 100000 in
theorem mo_223 : mm_mE mt_223 false 1 := mm_mB_ok (p2 := 164) (p3 := 1718) (mm_gw_of (i := 1576) rfl rfl) (by decide +kernel)
set_option maxRecDepth 100000 in
theorem mo_224 : mm_mE mt_224 false 1 := mm_mB_ok (p2 := 164) (p3 := 1726) (mm_gw_of (i := 1584) rfl rfl) (by decide +kernel)
set_option maxRecDepth 100000 in
theorem mo_225 : mm_mE mt_225 false 1 := mm_mB_ok (p2 := 164) (p3 := 1734) (mm_gw_of (i := 1592) rfl rfl) (by decide +kernel)
set_option maxRecDepth 100000 in
theorem mo_226 : mm_mE mt_226 true 3 := mm_mB_ok (p2 := 164) (p3 := 1741) (mm_gw_of (i := 1599) rfl rfl) (by decide +kernel)
set_option maxRecDepth 100000 in
theorem mo_227 : mm_mE mt_227 false 1 := mm_mB_ok (p2 := 164) (p3 := 1738) (mm_gw_of (i := 1596) rfl rfl) (by decide +kernel)
set_option maxRecDepth 100000 in
theorem mo_228 : mm_mE mt_228 false 0 := mm_mB_ok (p2 := 164) (p3 := 1710) (mm_gw_of (i := 1568) rfl rfl) (by decide +kernel)
set_option maxRecDepth 100000 in
theorem mo_229 : mm_mE mt_229 false 0 := mm_mB_ok (p2 := 164) (p3 := 1674) (mm_gw_of (i := 1532) rfl rfl) (by decide +kernel)
set_option maxRecDepth 100000 in
theorem mo_230 : mm_mE mt_230 false 2 := mm_mB_ok (p2 := 164) (p3 := 1683) (mm_gw_of (i := 1541) rfl rfl) (by decide +kernel)
set_option maxRecDepth 100000 in
theorem mo_231 : mm_mE mt_231 false 0 := mm_mB_ok (p2 := 164) (p3 := 1650) (mm_gw_of (i := 1508) rfl rfl) (by decide +kernel)
set_option maxRecDepth 100000 in
theorem mo_232 : mm_mE mt_232 false 0 := mm_mB_ok (p2 := 164) (p3 := 1654) (mm_gw_of (i := 1512) rfl rfl) (by decide +kernel)
set_option maxRecDepth 100000 in
theorem mo_233 : mm_mE mt_233 false 0 := mm_mB_ok (p2 := 164) (p3 := 1658) (mm_gw_of (i := 1516) rfl rfl) (by decide +kernel)
set_option maxRecDepth 100000 in
theorem mo_234 : mm_mE mt_234 false 0 := mm_mB_ok (p2 := 164) (p3 := 1662) (mm_gw_of (i := 1520) rfl rfl) (by decide +kernel)
set_option maxRecDepth 100000 in
theorem mo_235 : mm_mE mt_235 false 0 := mm_mB_ok (p2 := 164) (p3 := 1666) (mm_gw_of (i := 1524) rfl rfl) (by decide +kernel)
set_option maxRecDepth 100000 in
theorem mo_236 : mm_mE mt_236 false 0 := mm_mB_ok (p2 := 164) (p3 := 1698) (mm_gw_of (i := 1556) rfl rfl) (by decide +kernel)
set_option maxRecDepth 100000 in
theorem mo_237 : mm_mE mt_237 false 0 := mm_mB_ok (p2 := 164) (p3 := 1706) (mm_gw_of (i := 1564) rfl rfl) (by decide +kernel)
set_option maxRecDepth 100000 in
theorem mo_238 : mm_mE mt_238 false 0 := mm_mB_ok (p2 := 164) (p3 := 1679) (mm_gw_of (i := 1537) rfl rfl) (by decide +kernel)
set_option maxRecDepth 100000 in
theorem mo_239 : mm_mE mt_239 false 0 := mm_mB_ok (p2 := 164) (p3 := 1694) (mm_gw_of (i := 1552) rfl rfl) (by decide +kernel)
set_option maxRecDepth 100000 in
theorem mo_240 : mm_mE mt_240 false 0 := mm_mB_ok (p2 := 164) (p3 := 1714) (mm_gw_of (i := 1572) rfl rfl) (by decide +kernel)
set_option maxRecDepth 100000 in
theorem mo_241 : mm_mE mt_241 false 0 := mm_mB_ok (p2 := 164) (p3 := 1670) (mm_gw_of (i := 1528) rfl rfl) (by decide +kernel)
set_option maxRecDepth 100000 in
theorem mo_242 : mm_mE mt_242 false 0 := mm_mB_ok (p2 := 164) (p3 := 1646) (mm_gw_of (i := 1504) rfl rfl) (by decide +kernel)
set_option maxRecDepth 100000 in
theorem mo_243 : mm_mE mt_243 false 0 := mm_mB_ok (p2 := 164) (p3 := 1639) (mm_gw_of (i := 1497) rfl rfl) (by decide +kernel)
set_option maxRecDepth 100000 in
theorem mo_244 : mm_mE mt_244 false 0 := mm_mB_ok (p2 := 164) (p3 := 1583) (mm_gw_of (i := 1441) rfl rfl) (by decide +kernel)
set_option maxRecDepth 100000 in
theorem mo_245 : mm_mE mt_245 false 0 := mm_mB_ok (p2 := 164) (p3 := 1866) (mm_gw_of (i := 1725) rfl rfl) (by decide +kernel)
set_option maxRecDepth 100000 in
theorem mo_246 : mm_mE mt_246 false 1 := mm_mB_ok (p2 := 164) (p3 := 1908) (mm_gw_of (i := 1766) rfl rfl) (by decide +kernel)
set_option maxRecDepth 100000 in
theorem mo_247 : mm_mE mt_247 false 0 := mm_mB_ok (p2 := 164) (p3 := 1980) (mm_gw_of (i := 1838) rfl rfl) (by decide +kernel)
set_option maxRecDepth 100000 in
theorem mo_248 : mm_mE mt_248 false 0 := mm_mB_ok (p2 := 164) (p3 := 1896) (mm_gw_of (i := 1754) rfl rfl) (by decide +kernel)
set_option maxRecDepth 100000 in
theorem mo_249 : mm_mE mt_249 false 0 := mm_mB_ok (p2 := 164) (p3 := 1904) (mm_gw_of (i := 1762) rfl rfl) (by decide +kernel)
set_option maxRecDepth 100000 in
theorem mo_250 : mm_mE mt_250 false 0 := mm_mB_ok (p2 := 164) (p3 := 1892) (mm_gw_of (i := 1750) rfl rfl) (by decide +kernel)
set_option maxRecDepth 100000 in
theorem mo_251 : mm_mE mt_251 false 0 := mm_mB_ok (p2 := 164) (p3 := 1883) (mm_gw_of (i := 1741) rfl rfl) (by decide +kernel)
set_option maxRecDepth 100000 in
theorem mo_252 : mm_mE mt_252 false 0 := mm_mB_ok (p2 := 164) (p3 := 1879) (mm_gw_of (i := 1737) rfl rfl) (by decide +kernel)
set_option maxRecDepth 100000 in
theorem mo_253 : mm_mE mt_253 false 0 := mm_mB_ok (p2 := 164) (p3 := 1874) (mm_gw_of (i := 1733) rfl rfl) (by decide +kernel)
set_option maxRecDepth 100000 in
theorem mo_254 : mm_mE mt_254 false 0 := mm_mB_ok (p2 := 164) (p3 := 1987) (mm_gw_of (i := 1846) rfl rfl) (by decide +kernel)
set_option maxRecDepth 100000 in
theorem mo_255 : mm_mE mt_255 false 0 := mm_mB_ok (p2 := 164) (p3 := 1991) (mm_gw_of (i := 1850) rfl rfl) (by decide +kernel)
set_option maxRecDepth 100000 in
theorem mo_256 : mm_mE mt_256 false 1 := mm_mB_ok (p2 := 164) (p3 := 1964) (mm_gw_of (i := 1822) rfl rfl) (by decide +kernel)
set_option maxRecDepth 100000 in
theorem mo_257 : mm_mE mt_257 false 1 := mm_mB_ok (p2 := 164) (p3 := 1956) (mm_gw_of (i := 1814) rfl rfl) (by decide +kernel)
set_option maxRecDepth 100000 in
theorem mo_258 : mm_mE mt_258 false 1 := mm_mB_ok (p2 := 164) (p3 := 2008) (mm_gw_of (i := 1866) rfl rfl) (by decide +kernel)
set_option maxRecDepth 100000 in
theorem mo_259 : mm_mE mt_259 false 1 := mm_mB_ok (p2 := 164) (p3 := 2000) (mm_gw_of (i := 1858) rfl rfl) (by decide +kernel)
set_option maxRecDepth 100000 in
theorem mo_260 : mm_mE mt_260 false 1 := mm_mB_ok (p2 := 164) (p3 := 1995) (mm_gw_of (i := 1854) rfl rfl) (by decide +kernel)
set_option maxRecDepth 100000 in
theorem mo_261 : mm_mE mt_261 false 2 := mm_mB_ok (p2 := 164) (p3 := 2019) (mm_gw_of (i := 1878) rfl rfl) (by decide +kernel)
set_option maxRecDepth 100000 in
theorem mo_262 : mm_mE mt_262 false 1 := mm_mB_ok (p2 := 164) (p3 := 2027) (mm_gw_of (i := 1886) rfl rfl) (by decide +kernel)
set_option maxRecDepth 100000 in
theorem mo_263 : mm_mE mt_263 false 1 := mm_mB_ok (p2 := 164) (p3 := 2056) (mm_gw_of (i := 1914) rfl rfl) (by decide +kernel)
set_option maxRecDepth 100000 in
theorem mo_264 : mm_mE mt_264 false 2 := mm_mB_ok (p2 := 164) (p3 := 2035) (mm_gw_of (i := 1894) rfl rfl) (by decide +kernel)
set_option maxRecDepth 100000 in
theorem mo_265 : mm_mE mt_265 false 0 := mm_mB_ok (p2 := 164) (p3 := 2073) (mm_gw_of (i := 1931) rfl rfl) (by decide +kernel)
set_option maxRecDepth 100000 in
theorem mo_266 : mm_mE mt_266 false 0 := mm_mB_ok (p2 := 164) (p3 := 2068) (mm_gw_of (i := 1927) rfl rfl) (by decide +kernel)
set_option maxRecDepth 100000 in
theorem mo_267 : mm_mE mt_267 false 2 := mm_mB_ok (p2 := 164) (p3 := 2076) (mm_gw_of (i := 1935) rfl rfl) (by decide +kernel)
set_option maxRecDepth 100000 in
theorem mo_268 : mm_mE mt_268 false 2 := mm_mB_ok (p2 := 164) (p3 := 2080) (mm_gw_of (i := 1939) rfl rfl) (by decide +kernel)
set_option maxRecDepth 100000 in
theorem mo_269 : mm_mE mt_269 false 2 := mm_mB_ok (p2 := 164) (p3 := 2089) (mm_gw_of (i := 1947) rfl rfl) (by decide +kernel)
set_option maxRecDepth 100000 in
theorem mo_270 : mm_mE mt_270 false 2 := mm_mB_ok (p2 := 164) (p3 := 2084) (mm_gw_of (i := 1943) rfl rfl) (by decide +kernel)
set_option maxRecDepth 100000 in
theorem mo_271 : mm_mE mt_271 false 1 := mm_mB_ok (p2 := 164) (p3 := 2092) (mm_gw_of (i := 1951) rfl rfl) (by decide +kernel)
set_option maxRecDepth 100000 in
theorem mo_272 : mm_mE mt_272 false 2 := mm_mB_ok (p2 := 164) (p3 := 2096) (mm_gw_of (i := 1955) rfl rfl) (by decide +kernel)
set_option maxRecDepth 100000 in
theorem mo_273 : mm_mE mt_273 false 2 := mm_mB_ok (p2 := 164) (p3 := 2100) (mm_gw_of (i := 1959) rfl rfl) (by decide +kernel)
set_option maxRecDepth 100000 in
theorem mo_274 : mm_mE mt_274 false 2 := mm_mB_ok (p2 := 164) (p3 := 2109) (mm_gw_of (i := 1967) rfl rfl) (by decide +kernel)
set_option maxRecDepth 100000 in
theorem mo_275 : mm_mE mt_275 false 2 := mm_mB_ok (p2 := 164) (p3 := 2104) (mm_gw_of (i := 1963) rfl rfl) (by decide +kernel)
set_option maxRecDepth 100000 in
theorem mo_276 : mm_mE mt_276 false 2 := mm_mB_ok (p2 := 164) (p3 := 2117) (mm_gw_of (i := 1975) rfl rfl) (by decide +kernel)
set_option maxRecDepth 100000 in
theorem mo_277 : mm_mE mt_277 false 2 := mm_mB_ok (p2 := 164) (p3 := 2112) (mm_gw_of (i := 1971) rfl rfl) (by decide +kernel)
set_option maxRecDepth 100000 in
theorem mo_278 : mm_mE mt_278 false 1 := mm_mB_ok (p2 := 164) (p3 := 2125) (mm_gw_of (i := 1983) rfl rfl) (by decide +kernel)
set_option maxRecDepth 100000 in
theorem mo_279 : mm_mE mt_279 false 1 := mm_mB_ok (p2 := 164) (p3 := 2120) (mm_gw_of (i := 1979) rfl rfl) (by decide +kernel)
set_option maxRecDepth 100000 in
theorem mo_280 : mm_mE mt_280 false 1 := mm_mB_ok (p2 := 164) (p3 := 2137) (mm_gw_of (i := 1995) rfl rfl) (by decide +kernel)
set_option maxRecDepth 100000 in
theorem mo_281 : mm_mE mt_281 false 1 := mm_mB_ok (p2 := 164) (p3 := 2133) (mm_gw_of (i := 1991) rfl rfl) (by decide +kernel)
set_option maxRecDepth 100000 in
theorem mo_282 : mm_mE mt_282 false 1 := mm_mB_ok (p2 := 164) (p3 := 2128) (mm_gw_of (i := 1987) rfl rfl) (by decide +kernel)
set_option maxRecDepth 100000 in
theorem mo_283 : mm_mE mt_283 false 1 := mm_mB_ok (p2 := 164) (p3 := 2140) (mm_gw_of (i := 1999) rfl rfl) (by decide +kernel)
set_option maxRecDepth 100000 in
theorem mo_284 : mm_mE mt_284 false 1 := mm_mB_ok (p2 := 164) (p3 := 2149) (mm_gw_of (i := 2007) rfl rfl) (by decide +kernel)
set_option maxRecDepth 100000 in
theorem mo_285 : mm_mE mt_285 false 1 := mm_mB_ok (p2 := 164) (p3 := 2144) (mm_gw_of (i := 2003) rfl rfl) (by decide +kernel)
set_option maxRecDepth 100000 in
theorem mo_286 : mm_mE mt_286 false 2 := mm_mB_ok (p2 := 164) (p3 := 2153) (mm_gw_of (i := 2012) rfl rfl) (by decide +kernel)
set_option maxRecDepth 100000 in
theorem mo_287 : mm_mE mt_287 false 2 := mm_mB_ok (p2 := 164) (p3 := 2157) (mm_gw_of (i := 2016) rfl rfl) (by decide +kernel)
set_option maxRecDepth 100000 in
theorem mo_288 : mm_mE mt_288 false 2 := mm_mB_ok (p2 := 164) (p3 := 2161) (mm_gw_of (i := 2020) rfl rfl) (by decide +kernel)
set_option maxRecDepth 100000 in
theorem mo_289 : mm_mE mt_289 false 1 := mm_mB_ok (p2 := 164) (p3 := 2165) (mm_gw_of (i := 2024) rfl rfl) (by decide +kernel)
set_option maxRecDepth 100000 in
theorem mo_290 : mm_mE mt_290 false 2 := mm_mB_ok (p2 := 164) (p3 := 2169) (mm_gw_of (i := 2028) rfl rfl) (by decide +kernel)
set_option maxRecDepth 100000 in
theorem mo_291 : mm_mE mt_291 false 1 := mm_mB_ok (p2 := 164) (p3 := 2182) (mm_gw_of (i := 2040) rfl rfl) (by decide +kernel)
set_option maxRecDepth 100000 in
theorem mo_292 : mm_mE mt_292 false 2 := mm_mB_ok (p2 := 164) (p3 := 2178) (mm_gw_of (i := 2036) rfl rfl) (by decide +kernel)
set_option maxRecDepth 100000 in
theorem mo_293 : mm_mE mt_293 false 2 := mm_mB_ok (p2 := 164) (p3 := 2173) (mm_gw_of (i := 2032) rfl rfl) (by decide +kernel)
set_option maxRecDepth 100000 in
theorem mo_294 : mm_mE mt_294 false 0 := mm_mB_ok (p2 := 164) (p3 := 2190) (mm_gw_of (i := 2048) rfl rfl) (by decide +kernel)
set_option maxRecDepth 100000 in
theorem mo_295 : mm_mE mt_295 false 3 := mm_mB_ok (p2 := 164) (p3 := 2185) (mm_gw_of (i := 2044) rfl rfl) (by decide +kernel)
set_option maxRecDepth 100000 in
theorem mo_296 : mm_mE mt_296 false 2 := mm_mB_ok (p2 := 164) (p3 := 1972) (mm_gw_of (i := 1830) rfl rfl) (by decide +kernel)
set_option maxRecDepth 100000 in
theorem mo_297 : mm_mE mt_297 false 2 := mm_mB_ok (p2 := 164) (p3 := 1968) (mm_gw_of (i := 1826) rfl rfl) (by decide +kernel)
set_option maxRecDepth 100000 in
theorem mo_298 : mm_mE mt_298 false 1 := mm_mB_ok (p2 := 164) (p3 := 1960) (mm_gw_of (i := 1818) rfl rfl) (by decide +kernel)
set_option maxRecDepth 100000 in
theorem mo_299 : mm_mE mt_299 false 2 := mm_mB_ok (p2 := 164) (p3 := 1976) (mm_gw_of (i := 1834) rfl rfl) (by decide +kernel)
set_option maxRecDepth 100000 in
theorem mo_300 : mm_mE mt_300 false 1 := mm_mB_ok (p2 := 164) (p3 := 1912) (mm_gw_of (i := 1770) rfl rfl) (by decide +kernel)
set_option maxRecDepth 100000 in
theorem mo_301 : mm_mE mt_301 false 0 := mm_mB_ok (p2 := 164) (p3 := 1916) (mm_gw_of (i := 1774) rfl rfl) (by decide +kernel)
set_option maxRecDepth 100000 in
theorem mo_302 : mm_mE mt_302 false 2 := mm_mB_ok (p2 := 164) (p3 := 2193) (mm_gw_of (i := 2052) rfl rfl) (by decide +kernel)
set_option maxRecDepth 100000 in
theorem mo_303 : mm_mE mt_303 false 1 := mm_mB_ok (p2 := 164) (p3 := 2197) (mm_gw_of (i := 2056) rfl rfl) (by decide +kernel)
set_option maxRecDepth 100000 in
theorem mo_304 : mm_mE mt_304 false 1 := mm_mB_ok (p2 := 164) (p3 := 2201) (mm_gw_of (i := 2060) rfl rfl) (by decide +kernel)
set_option maxRecDepth 100000 in
theorem mo_305 : mm_mE mt_305 false 0 := mm_mB_ok (p2 := 164) (p3 := 2214) (mm_gw_of (i := 2072) rfl rfl) (by decide +kernel)
set_option maxRecDepth 100000 in
theorem mo_306 : mm_mE mt_306 false 0 := mm_mB_ok (p2 := 164) (p3 := 2210) (mm_gw_of (i := 2068) rfl rfl) (by decide +kernel)
set_option maxRecDepth 100000 in
theorem mo_307 : mm_mE mt_307 false 3 := mm_mB_ok (p2 := 164) (p3 := 2205) (mm_gw_of (i := 2064) rfl rfl) (by decide +kernel)
set_option maxRecDepth 100000 in
theorem mo_308 : mm_mE mt_308 false 3 := mm_mB_ok (p2 := 164) (p3 := 2217) (mm_gw_of (i := 2076) rfl rfl) (by decide +kernel)
set_option maxRecDepth 100000 in
theorem mo_309 : mm_mE mt_309 false 1 := mm_mB_ok (p2 := 164) (p3 := 2221) (mm_gw_of (i := 2080) rfl rfl) (by decide +kernel)
set_option maxRecDepth 100000 in
theorem mo_310 : mm_mE mt_310 false 3 := mm_mB_ok (p2 := 164) (p3 := 2225) (mm_gw_of (i := 2084) rfl rfl) (by decide +kernel)
set_option maxRecDepth 100000 in
theorem mo_311 : mm_mE mt_311 false 3 := mm_mB_ok (p2 := 164) (p3 := 2229) (mm_gw_of (i := 2088) rfl rfl) (by decide +kernel)
set_option maxRecDepth 100000 in
theorem mo_312 : mm_mE mt_312 false 3 := mm_mB_ok (p2 := 164) (p3 := 2233) (mm_gw_of (i := 2092) rfl rfl) (by decide +kernel)
set_option maxRecDepth 100000 in
theorem mo_313 : mm_mE mt_313 false 1 := mm_mB_ok (p2 := 164) (p3 := 1900) (mm_gw_of (i := 1758) rfl rfl) (by decide +kernel)
set_option maxRecDepth 100000 in
theorem mo_314 : mm_mE mt_314 false 1 := mm_mB_ok (p2 := 164) (p3 := 2237) (mm_gw_of (i := 2096) rfl rfl) (by decide +kernel)
set_option maxRecDepth 100000 in
theorem mo_315 : mm_mE mt_315 false 1 := mm_mB_ok (p2 := 164) (p3 := 2241) (mm_gw_of (i := 2100) rfl rfl) (by decide +kernel)
set_option maxRecDepth 100000 in
theorem mo_316 : mm_mE mt_316 false 2 := mm_mB_ok (p2 := 164) (p3 := 2245) (mm_gw_of (i := 2104) rfl rfl) (by decide +kernel)
set_option maxRecDepth 100000 in
theorem mo_317 : mm_mE mt_317 false 1 := mm_mB_ok (p2 := 164) (p3 := 2249) (mm_gw_of (i := 2108) rfl rfl) (by decide +kernel)
set_option maxRecDepth 100000 in
theorem mo_318 : mm_mE mt_318 false 0 := mm_mB_ok (p2 := 164) (p3 := 2253) (mm_gw_of (i := 2112) rfl rfl) (by decide +kernel)
set_option maxRecDepth 100000 in
theorem mo_319 : mm_mE mt_319 false 2 := mm_mB_ok (p2 := 164) (p3 := 2257) (mm_gw_of (i := 2116) rfl rfl) (by decide +kernel)
set_option maxRecDepth 100000 in
theorem mo_320 : mm_mE mt_320 false 2 := mm_mB_ok (p2 := 164) (p3 := 2261) (mm_gw_of (i := 2120) rfl rfl) (by decide +kernel)
set_option maxRecDepth 100000 in
theorem mo_321 : mm_mE mt_321 false 0 := mm_mB_ok (p2 := 164) (p3 := 2265) (mm_gw_of (i := 2124) rfl rfl) (by decide +kernel)
set_option maxRecDepth 100000 in
theorem mo_322 : mm_mE mt_322 false 1 := mm_mB_ok (p2 := 164) (p3 := 2269) (mm_gw_of (i := 2128) rfl rfl) (by decide +kernel)
set_option maxRecDepth 100000 in
theorem mo_323 : mm_mE mt_323 false 1 := mm_mB_ok (p2 := 164) (p3 := 2273) (mm_gw_of (i := 2132) rfl rfl) (by decide +kernel)
set_option maxRecDepth 100000 in
theorem mo_324 : mm_mE mt_324 false 1 := mm_mB_ok (p2 := 164) (p3 := 2286) (mm_gw_of (i := 2144) rfl rfl) (by decide +kernel)
set_option maxRecDepth 100000 in
theorem mo_325 : mm_mE mt_325 false 1 := mm_mB_ok (p2 := 164) (p3 := 2282) (mm_gw_of (i := 2140) rfl rfl) (by decide +kernel)
set_option maxRecDepth 100000 in
theorem mo_326 : mm_mE mt_326 false 1 := mm_mB_ok (p2 := 164) (p3 := 2290) (mm_gw_of (i := 2148) rfl rfl) (by decide +kernel)
set_option maxRecDepth 100000 in
theorem mo_327 : mm_mE mt_327 false 1 := mm_mB_ok (p2 := 164) (p3 := 2277) (mm_gw_of (i := 2136) rfl rfl) (by decide +kernel)
set_option maxRecDepth 100000 in
theorem mo_328 : mm_mE mt_328 false 0 := mm_mB_ok (p2 := 164) (p3 := 2293) (mm_gw_of (i := 2152) rfl rfl) (by decide +kernel)
set_option maxRecDepth 100000 in
theorem mo_329 : mm_mE mt_329 false 1 := mm_mB_ok (p2 := 164) (p3 := 2297) (mm_gw_of (i := 2156) rfl rfl) (by decide +kernel)
set_option maxRecDepth 100000 in
theorem mo_330 : mm_mE mt_330 true 1 := mm_mB_ok (p2 := 167) (p3 := 1089) (mm_gw_of (i := 947) rfl rfl) (by decide +kernel)
set_option maxRecDepth 100000 in
theorem mo_331 : mm_mE mt_331 false 0 := mm_mB_ok (p2 := 154) (p3 := 460) (mm_gw_of (i := 319) rfl rfl) (by decide +kernel)
set_option maxRecDepth 100000 in
theorem mo_332 : mm_mE mt_332 false 1 := mm_mB_ok (p2 := 154) (p3 := 470) (mm_gw_of (i := 329) rfl rfl) (by decide +kernel)
set_option maxRecDepth 100000 in
theorem mo_333 : mm_mE mt_333 false 0 := mm_mB_ok (p2 := 154) (p3 := 464) (mm_gw_of (i := 323) rfl rfl) (by decide +kernel)
set_option maxRecDepth 100000 in
theorem mo_334 : mm_mE mt_334 false 0 := mm_mB_ok (p2 := 154) (p3 := 474) (mm_gw_of (i := 333) rfl rfl) (by decide +kernel)
set_option maxRecDepth 100000 in
theorem mo_335 : mm_mE mt_335 true 2 := mm_mB_ok (p2 := 154) (p3 := 481) (mm_gw_of (i := 339) rfl rfl) (by decide +kernel)
set_option maxRecDepth 100000 in
theorem mo_336 : mm_mE mt_336 true 2 := mm_mB_ok (p2 := 155) (p3 := 478) (mm_gw_of (i := 336) rfl rfl) (by decide +kernel)
set_option maxRecDepth 100000 in
theorem mo_337 : mm_mE mt_337 true 2 := mm_mB_ok (p2 := 157) (p3 := 499) (mm_gw_of (i := 357) rfl rfl) (by decide +kernel)
set_option maxRecDepth 100000 in
theorem mo_338 : mm_mE mt_338 true 1 := mm_mB_ok (p2 := 157) (p3 := 495) (mm_gw_of (i := 353) rfl rfl) (by decide +kernel)
set_option maxRecDepth 100000 in
theorem mo_339 : mm_mE mt_339 true 2 := mm_mB_ok (p2 := 157) (p3 := 489) (mm_gw_of (i := 347) rfl rfl) (by decide +kernel)
set_option maxRecDepth 100000 in
theorem mo_340 : mm_mE mt_340 true 2 := mm_mB_ok (p2 := 157) (p3 := 492) (mm_gw_of (i := 350) rfl rfl) (by decide +kernel)
set_option maxRecDepth 100000 in
theorem mo_341 : mm_mE mt_341 true 2 := mm_mB_ok (p2 := 163) (p3 := 796) (mm_gw_of (i := 654) rfl rfl) (by decide +kernel)
set_option maxRecDepth 100000 in
theorem mo_342 : mm_mE mt_342 true 3 := mm_mB_ok (p2 := 156) (p3 := 486) (mm_gw_of (i := 344) rfl rfl) (by decide +kernel)
set_option maxRecDepth 100000 in
theorem mo_343 : mm_mE mt_343 true 7 := mm_mB_ok (p2 := 143) (p3 := 921) (mm_gw_of (i := 779) rfl rfl) (by decide +kernel)
set_option maxRecDepth 100000 in
theorem mo_344 : mm_mE mt_344 true 3 := mm_mB_ok (p2 := 143) (p3 := 949) (mm_gw_of (i := 807) rfl rfl) (by decide +kernel)
set_option maxRecDepth 100000 in
theorem mo_345 : mm_mE mt_345 true 2 := mm_mB_ok (p2 := 143) (p3 := 960) (mm_gw_of (i := 818) rfl rfl) (by decide +kernel)
set_option maxRecDepth 100000 in
theorem mo_346 : mm_mE mt_346 true 3 := mm_mB_ok (p2 := 143) (p3 := 980) (mm_gw_of (i := 838) rfl rfl) (by decide +kernel)
set_option maxRecDepth 100000 in
theorem mo_347 : mm_mE mt_347 true 4 := mm_mB_ok (p2 := 143) (p3 := 1011) (mm_gw_of (i := 869) rfl rfl) (by decide +kernel)
set_option maxRecDepth 100000 in
theorem mo_348 : mm_mE mt_348 true 3 := mm_mB_ok (p2 := 143) (p3 := 1049) (mm_gw_of (i := 907) rfl rfl) (by decide +kernel)
set_option maxRecDepth 100000 in
theorem mo_349 : mm_mE mt_349 true 4 := mm_mB_ok (p2 := 143) (p3 := 1061) (mm_gw_of (i := 919) rfl rfl) (by decide +kernel)
set_option maxRecDepth 100000 in
theorem mo_350 : mm_mE mt_350 true 2 := mm_mB_ok (p2 := 143) (p3 := 1096) (mm_gw_of (i := 954) rfl rfl) (by decide +kernel)
set_option maxRecDepth 100000 in
theorem mo_351 : mm_mE mt_351 true 4 := mm_mB_ok (p2 := 143) (p3 := 1125) (mm_gw_of (i := 983) rfl rfl) (by decide +kernel)
set_option maxRecDepth 100000 in
theorem mo_352 : mm_mE mt_352 true 4 := mm_mB_ok (p2 := 143) (p3 := 1146) (mm_gw_of (i := 1004) rfl rfl) (by decide +kernel)
set_option maxRecDepth 100000 in
theorem mo_353 : mm_mE mt_353 true 4 := mm_mB_ok (p2 := 143) (p3 := 1156) (mm_gw_of (i := 1014) rfl rfl) (by decide +kernel)
set_option maxRecDepth 100000 in
theorem mo_354 : mm_mE mt_354 true 3 := mm_mB_ok (p2 := 143) (p3 := 1168) (mm_gw_of (i := 1026) rfl rfl) (by decide +kernel)
set_option maxRecDepth 100000 in
theorem mo_355 : mm_mE mt_355 true 4 := mm_mB_ok (p2 := 143) (p3 := 1175) (mm_gw_of (i := 1033) rfl rfl) (by decide +kernel)
set_option maxRecDepth 100000 in
theorem mo_356 : mm_mE mt_356 true 4 := mm_mB_ok (p2 := 143) (p3 := 1186) (mm_gw_of (i := 1044) rfl rfl) (by decide +kernel)
set_option maxRecDepth 100000 in
theorem mo_357 : mm_mE mt_357 true 4 := mm_mB_ok (p2 := 143) (p3 := 1193) (mm_gw_of (i := 1051) rfl rfl) (by decide +kernel)
set_option maxRecDepth 100000 in
theorem mo_358 : mm_mE mt_358 true 4 := mm_mB_ok (p2 := 143) (p3 := 1213) (mm_gw_of (i := 1071) rfl rfl) (by decide +kernel)
set_option maxRecDepth 100000 in
theorem mo_359 : mm_mE mt_359 true 3 := mm_mB_ok (p2 := 143) (p3 := 1228) (mm_gw_of (i := 1086) rfl rfl) (by decide +kernel)
set_option maxRecDepth 100000 in
theorem mo_360 : mm_mE mt_360 true 3 := mm_mB_ok (p2 := 143) (p3 := 1246) (mm_gw_of (i := 1104) rfl rfl) (by decide +kernel)
set_option maxRecDepth 100000 in
theorem mo_361 : mm_mE mt_361 true 3 := mm_mB_ok (p2 := 143) (p3 := 1262) (mm_gw_of (i := 1120) rfl rfl) (by decide +kernel)
set_option maxRecDepth 100000 in
theorem mo_362 : mm_mE mt_362 true 3 := mm_mB_ok (p2 := 143) (p3 := 1270) (mm_gw_of (i := 1128) rfl rfl) (by decide +kernel)
set_option maxRecDepth 100000 in
theorem mo_363 : mm_mE mt_363 true 4 := mm_mB_ok (p2 := 143) (p3 := 1286) (mm_gw_of (i := 1144) rfl rfl) (by decide +kernel)
set_option maxRecDepth 100000 in
theorem mo_364 : mm_mE mt_364 true 4 := mm_mB_ok (p2 := 143) (p3 := 1293) (mm_gw_of (i := 1151) rfl rfl) (by decide +kernel)
set_option maxRecDepth 100000 in
theorem mo_365 : mm_mE mt_365 true 4 := mm_mB_ok (p2 := 143) (p3 := 1301) (mm_gw_of (i := 1159) rfl rfl) (by decide +kernel)
set_option maxRecDepth 100000 in
theorem mo_366 : mm_mE mt_366 true 3 := mm_mB_ok (p2 := 143) (p3 := 1308) (mm_gw_of (i := 1166) rfl rfl) (by decide +kernel)
set_option maxRecDepth 100000 in
theorem mo_367 : mm_mE mt_367 true 4 := mm_mB_ok (p2 := 143) (p3 := 1315) (mm_gw_of (i := 1173) rfl rfl) (by decide +kernel)
set_option maxRecDepth 100000 in
theorem mo_368 : mm_mE mt_368 true 4 := mm_mB_ok (p2 := 143) (p3 := 1322) (mm_gw_of (i := 1180) rfl rfl) (by decide +kernel)
set_option maxRecDepth 100000 in
theorem mo_369 : mm_mE mt_369 true 5 := mm_mB_ok (p2 := 143) (p3 := 1345) (mm_gw_of (i := 1203) rfl rfl) (by decide +kernel)
set_option maxRecDepth 100000 in
theorem mo_370 : mm_mE mt_370 true 4 := mm_mB_ok (p2 := 143) (p3 := 1357) (mm_gw_of (i := 1215) rfl rfl) (by decide +kernel)
set_option maxRecDepth 100000 in
theorem mo_371 : mm_mE mt_371 true 3 := mm_mB_ok (p2 := 143) (p3 := 1368) (mm_gw_of (i := 1226) rfl rfl) (by decide +kernel)
set_option maxRecDepth 100000 in
theorem mo_372 : mm_mE mt_372 true 3 := mm_mB_ok (p2 := 143) (p3 := 1376) (mm_gw_of (i := 1234) rfl rfl) (by decide +kernel)
set_option maxRecDepth 100000 in
theorem mo_373 : mm_mE mt_373 true 5 := mm_mB_ok (p2 := 143) (p3 := 1383) (mm_gw_of (i := 1241) rfl rfl) (by decide +kernel)
set_option maxRecDepth 100000 in
theorem mo_374 : mm_mE mt_374 true 5 := mm_mB_ok (p2 := 143) (p3 := 1396) (mm_gw_of (i := 1254) rfl rfl) (by decide +kernel)
set_option maxRecDepth 100000 in
theorem mo_375 : mm_mE mt_375 true 3 := mm_mB_ok (p2 := 143) (p3 := 1404) (mm_gw_of (i := 1262) rfl rfl) (by decide +kernel)
set_option maxRecDepth 100000 in
theorem mo_376 : mm_mE mt_376 true 5 := mm_mB_ok (p2 := 143) (p3 := 1412) (mm_gw_of (i := 1270) rfl rfl) (by decide +kernel)
set_option maxRecDepth 100000 in
theorem mo_377 : mm_mE mt_377 true 5 := mm_mB_ok (p2 := 143) (p3 := 1420) (mm_gw_of (i := 1278) rfl rfl) (by decide +kernel)
set_option maxRecDepth 100000 in
theorem mo_378 : mm_mE mt_378 true 5 := mm_mB_ok (p2 := 143) (p3 := 1427) (mm_gw_of (i := 1285) rfl rfl) (by decide +kernel)
set_option maxRecDepth 100000 in
theorem mo_379 : mm_mE mt_379 true 3 := mm_mB_ok (p2 := 143) (p3 := 1434) (mm_gw_of (i := 1292) rfl rfl) (by decide +kernel)
set_option maxRecDepth 100000 in
theorem mo_380 : mm_mE mt_380 true 3 := mm_mB_ok (p2 := 143) (p3 := 1442) (mm_gw_of (i := 1300) rfl rfl) (by decide +kernel)
set_option maxRecDepth 100000 in
theorem mo_381 : mm_mE mt_381 true 4 := mm_mB_ok (p2 := 143) (p3 := 1451) (mm_gw_of (i := 1309) rfl rfl) (by decide +kernel)
set_option maxRecDepth 100000 in
theorem mo_382 : mm_mE mt_382 true 3 := mm_mB_ok (p2 := 143) (p3 := 1458) (mm_gw_of (i := 1316) rfl rfl) (by decide +kernel)
set_option maxRecDepth 100000 in
theorem mo_383 : mm_mE mt_383 true 4 := mm_mB_ok (p2 := 143) (p3 := 1465) (mm_gw_of (i := 1323) rfl rfl) (by decide +kernel)
set_option maxRecDepth 100000 in
theorem mo_384 : mm_mE mt_384 true 4 := mm_mB_ok (p2 := 143) (p3 := 1473) (mm_gw_of (i := 1331) rfl rfl) (by decide +kernel)
set_option maxRecDepth 100000 in
theorem mo_385 : mm_mE mt_385 true 2 := mm_mB_ok (p2 := 143) (p3 := 1481) (mm_gw_of (i := 1339) rfl rfl) (by decide +kernel)
set_option maxRecDepth 100000 in
theorem mo_386 : mm_mE mt_386 true 2 := mm_mB_ok (p2 := 143) (p3 := 1494) (mm_gw_of (i := 1352) rfl rfl) (by decide +kernel)
set_option maxRecDepth 100000 in
theorem mo_387 : mm_mE mt_387 true 3 := mm_mB_ok (p2 := 143) (p3 := 1506) (mm_gw_of (i := 1364) rfl rfl) (by decide +kernel)
set_option maxRecDepth 100000 in
theorem mo_388 : mm_mE mt_388 true 3 := mm_mB_ok (p2 := 143) (p3 := 1518) (mm_gw_of (i := 1376) rfl rfl) (by decide +kernel)
set_option maxRecDepth 100000 in
theorem mo_389 : mm_mE mt_389 true 3 := mm_mB_ok (p2 := 143) (p3 := 1526) (mm_gw_of (i := 1384) rfl rfl) (by decide +kernel)
set_option maxRecDepth 100000 in
theorem mo_390 : mm_mE mt_390 true 3 := mm_mB_ok (p2 := 143) (p3 := 1541) (mm_gw_of (i := 1399) rfl rfl) (by decide +kernel)
