theorem mm_TX_ok : mm_TXok mm_TX := by unfold mm_TXok; decide +kernel
theorem mm_XL_ok : mm_XLok mm_XL := by unfold mm_XLok; decide +kernel
set_option maxRecDepth 100000 in
theorem mo_0 : mm_mE mt_0 false 0 := mm_mB_ok (p2 := 50) (p3 := 217) (mm_gw_of (i := 176) rfl rfl) (by decide +kernel)
set_option maxRecDepth 100000 in
theorem mo_1 : mm_mE mt_1 false 1 := mm_mB_ok (p2 := 50) (p3 := 677) (mm_gw_of (i := 637) rfl rfl) (by decide +kernel)
set_option maxRecDepth 100000 in
theorem mo_2 : mm_mE mt_2 false 3 := mm_mB_ok (p2 := 50) (p3 := 684) (mm_gw_of (i := 644) rfl rfl) (by decide +kernel)
set_option maxRecDepth 100000 in
theorem mo_3 : mm_mE mt_3 false 1 := mm_mB_ok (p2 := 50) (p3 := 693) (mm_gw_of (i := 652) rfl rfl) (by decide +kernel)
set_option maxRecDepth 100000 in
theorem mo_4 : mm_mE mt_4 false 4 := mm_mB_ok (p2 := 50) (p3 := 706) (mm_gw_of (i := 665) rfl rfl) (by decide +kernel)
set_option maxRecDepth 100000 in
theorem mo_5 : mm_mE mt_5 false 0 := mm_mB_ok (p2 := 50) (p3 := 994) (mm_gw_of (i := 954) rfl rfl) (by decide +kernel)
set_option maxRecDepth 100000 in
theorem mo_6 : mm_mE mt_6 false 3 := mm_mB_ok (p2 := 50) (p3 := 999) (mm_gw_of (i := 958) rfl rfl) (by decide +kernel)
set_option maxRecDepth 100000 in
theorem mo_7 : mm_mE mt_7 false 0 := mm_mB_ok (p2 := 50) (p3 := 715) (mm_gw_of (i := 675) rfl rfl) (by decide +kernel)
set_option maxRecDepth 100000 in
theorem mo_8 : mm_mE mt_8 false 1 := mm_mB_ok (p2 := 50) (p3 := 724) (mm_gw_of (i := 684) rfl rfl) (by decide +kernel)
set_option maxRecDepth 100000 in
theorem mo_9 : mm_mE mt_9 false 0 := mm_mB_ok (p2 := 50) (p3 := 1019) (mm_gw_of (i := 979) rfl rfl) (by decide +kernel)
set_option maxRecDepth 100000 in
theorem mo_10 : mm_mE mt_10 false 1 := mm_mB_ok (p2 := 50) (p3 := 1091) (mm_gw_of (i := 1051) rfl rfl) (by decide +kernel)
set_option maxRecDepth 100000 in
theorem mo_11 : mm_mE mt_11 false 1 := mm_mB_ok (p2 := 50) (p3 := 1120) (mm_gw_of (i := 1080) rfl rfl) (by decide +kernel)
set_option maxRecDepth 100000 in
theorem mo_12 : mm_mE mt_12 false 1 := mm_mB_ok (p2 := 50) (p3 := 1124) (mm_gw_of (i := 1084) rfl rfl) (by decide +kernel)
set_option maxRecDepth 100000 in
theorem mo_13 : mm_mE mt_13 false 1 := mm_mB_ok (p2 := 50) (p3 := 1128) (mm_gw_of (i := 1088) rfl rfl) (by decide +kernel)
set_option maxRecDepth 100000 in
theorem mo_25 : mm_mE mt_25 false 0 := mm_mB_ok (p2 := 51) (p3 := 307) (mm_gw_of (i := 266) rfl rfl) (by decide +kernel)
set_option maxRecDepth 100000 in
theorem mo_26 : mm_mE mt_26 false 1 := mm_mB_ok (p2 := 51) (p3 := 948) (mm_gw_of (i := 908) rfl rfl) (by decide +kernel)
set_option maxRecDepth 100000 in
theorem mo_27 : mm_mE mt_27 false 0 := mm_mB_ok (p2 := 51) (p3 := 1080) (mm_gw_of (i := 1040) rfl rfl) (by decide +kernel)
set_option maxRecDepth 100000 in
theorem mo_28 : mm_mE mt_28 false 0 := mm_mB_ok (p2 := 51) (p3 := 770) (mm_gw_of (i := 730) rfl rfl) (by decide +kernel)
set_option maxRecDepth 100000 in
theorem mo_29 : mm_mE mt_29 false 0 := mm_mB_ok (p2 := 51) (p3 := 774) (mm_gw_of (i := 734) rfl rfl) (by decide +kernel)
set_option maxRecDepth 100000 in
theorem mo_30 : mm_mE mt_30 false 0 := mm_mB_ok (p2 := 44) (p3 := 83) (mm_gw_of (i := 42) rfl rfl) (by decide +kernel)
set_option maxRecDepth 100000 in
theorem mo_31 : mm_mE mt_31 false 1 := mm_mB_ok (p2 := 44) (p3 := 349) (mm_gw_of (i := 309) rfl rfl) (by decide +kernel)
set_option maxRecDepth 100000 in
theorem mo_32 : mm_mE mt_32 false 1 := mm_mB_ok (p2 := 44) (p3 := 847) (mm_gw_of (i := 807) rfl rfl) (by decide +kernel)
set_option maxRecDepth 100000 in
theorem mo_33 : mm_mE mt_33 false 1 := mm_mB_ok (p2 := 44) (p3 := 402) (mm_gw_of (i := 361) rfl rfl) (by decide +kernel)
set_option maxRecDepth 100000 in
theorem mo_35 : mm_mE mt_35 false 0 := mm_mB_ok (p2 := 45) (p3 := 100) (mm_gw_of (i := 59) rfl rfl) (by decide +kernel)
set_option maxRecDepth 100000 in
theorem mo_36 : mm_mE mt_36 false 1 := mm_mB_ok (p2 := 45) (p3 := 405) (mm_gw_of (i := 365) rfl rfl) (by decide +kernel)
set_option maxRecDepth 100000 in
theorem mo_38 : mm_mE mt_38 false 1 := mm_mB_ok (p2 := 45) (p3 := 411) (mm_gw_of (i := 370) rfl rfl) (by decide +kernel)
set_option maxRecDepth 100000 in
theorem mo_39 : mm_mE mt_39 false 2 := mm_mB_ok (p2 := 45) (p3 := 434) (mm_gw_of (i := 393) rfl rfl) (by decide +kernel)
set_option maxRecDepth 100000 in
theorem mo_40 : mm_mE mt_40 false 0 := mm_mB_ok (p2 := 45) (p3 := 423) (mm_gw_of (i := 382) rfl rfl) (by decide +kernel)
set_option maxRecDepth 100000 in
theorem mo_41 : mm_mE mt_41 false 0 := mm_mB_ok (p2 := 45) (p3 := 505) (mm_gw_of (i := 464) rfl rfl) (by decide +kernel)
set_option maxRecDepth 100000 in
theorem mo_42 : mm_mE mt_42 false 2 := mm_mB_ok (p2 := 45) (p3 := 532) (mm_gw_of (i := 491) rfl rfl) (by decide +kernel)
set_option maxRecDepth 100000 in
theorem mo_43 : mm_mE mt_43 true 1 := mm_mB_ok (p2 := 45) (p3 := 547) (mm_gw_of (i := 506) rfl rfl) (by decide +kernel)
set_option maxRecDepth 100000 in
theorem mo_44 : mm_mE mt_44 false 0 := mm_mB_ok (p2 := 45) (p3 := 536) (mm_gw_of (i := 495) rfl rfl) (by decide +kernel)
set_option maxRecDepth 100000 in
theorem mo_45 : mm_mE mt_45 false 0 := mm_mB_ok (p2 := 45) (p3 := 555) (mm_gw_of (i := 514) rfl rfl) (by decide +kernel)
set_option maxRecDepth 100000 in
theorem mo_46 : mm_mE mt_46 false 1 := mm_mB_ok (p2 := 45) (p3 := 596) (mm_gw_of (i := 555) rfl rfl) (by decide +kernel)
set_option maxRecDepth 100000 in
theorem mo_47 : mm_mE mt_47 false 1 := mm_mB_ok (p2 := 45) (p3 := 653) (mm_gw_of (i := 612) rfl rfl) (by decide +kernel)
set_option maxRecDepth 100000 in
theorem mo_48 : mm_mE mt_48 false 0 := mm_mB_ok (p2 := 45) (p3 := 551) (mm_gw_of (i := 510) rfl rfl) (by decide +kernel)
set_option maxRecDepth 100000 in
theorem mo_49 : mm_mE mt_49 false 0 := mm_mB_ok (p2 := 45) (p3 := 657) (mm_gw_of (i := 616) rfl rfl) (by decide +kernel)
set_option maxRecDepth 100000 in
theorem mo_50 : mm_mE mt_50 false 3 := mm_mB_ok (p2 := 45) (p3 := 563) (mm_gw_of (i := 522) rfl rfl) (by decide +kernel)
set_option maxRecDepth 100000 in
theorem mo_51 : mm_mE mt_51 false 2 := mm_mB_ok (p2 := 45) (p3 := 569) (mm_gw_of (i := 528) rfl rfl) (by decide +kernel)
set_option maxRecDepth 100000 in
theorem mo_52 : mm_mE mt_52 false 0 := mm_mB_ok (p2 := 45) (p3 := 573) (mm_gw_of (i := 532) rfl rfl) (by decide +kernel)
set_option maxRecDepth 100000 in
theorem mo_53 : mm_mE mt_53 false 0 := mm_mB_ok (p2 := 45) (p3 := 583) (mm_gw_of (i := 542) rfl rfl) (by decide +kernel)
set_option maxRecDepth 100000 in
theorem mo_54 : mm_mE mt_54 false 2 := mm_mB_ok (p2 := 45) (p3 := 627) (mm_gw_of (i := 586) rfl rfl) (by decide +kernel)
set_option maxRecDepth 100000 in
theorem mo_55 : mm_mE mt_55 false 2 := mm_mB_ok (p2 := 45) (p3 := 588) (mm_gw_of (i := 547) rfl rfl) (by decide +kernel)
set_option maxRecDepth 100000 in
theorem mo_56 : mm_mE mt_56 false 1 := mm_mB_ok (p2 := 45) (p3 := 592) (mm_gw_of (i := 551) rfl rfl) (by decide +kernel)
set_option maxRecDepth 100000 in
theorem mo_57 : mm_mE mt_57 false 1 := mm_mB_ok (p2 := 45) (p3 := 605) (mm_gw_of (i := 564) rfl rfl) (by decide +kernel)
set_option maxRecDepth 100000 in
theorem mo_58 : mm_mE mt_58 false 0 := mm_mB_ok (p2 := 49) (p3 := 211) (mm_gw_of (i := 170) rfl rfl) (by decide +kernel)
set_option maxRecDepth 100000 in
theorem mo_60 : mm_mE mt_60 false 2 := mm_mB_ok (p2 := 49) (p3 := 672) (mm_gw_of (i := 632) rfl rfl) (by decide +kernel)
set_option maxRecDepth 100000 in
theorem mo_61 : mm_mE mt_61 false 1 := mm_mB_ok (p2 := 49) (p3 := 720) (mm_gw_of (i := 680) rfl rfl) (by decide +kernel)
set_option maxRecDepth 100000 in
theorem mo_62 : mm_mE mt_62 false 1 := mm_mB_ok (p2 := 49) (p3 := 729) (mm_gw_of (i := 688) rfl rfl) (by decide +kernel)
set_option maxRecDepth 100000 in
theorem mo_63 : mm_mE mt_63 false 0 := mm_mB_ok (p2 := 46) (p3 := 106) (mm_gw_of (i := 65) rfl rfl) (by decide +kernel)
set_option maxRecDepth 100000 in
theorem mo_64 : mm_mE mt_64 false 1 := mm_mB_ok (p2 := 46) (p3 := 733) (mm_gw_of (i := 693) rfl rfl) (by decide +kernel)
set_option maxRecDepth 100000 in
theorem mo_65 : mm_mE mt_65 false 1 := mm_mB_ok (p2 := 46) (p3 := 519) (mm_gw_of (i := 479) rfl rfl) (by decide +kernel)
set_option maxRecDepth 100000 in
theorem mo_66 : mm_mE mt_66 false 1 := mm_mB_ok (p2 := 46) (p3 := 648) (mm_gw_of (i := 608) rfl rfl) (by decide +kernel)
set_option maxRecDepth 100000 in
theorem mo_67 : mm_mE mt_67 false 1 := mm_mB_ok (p2 := 46) (p3 := 660) (mm_gw_of (i := 620) rfl rfl) (by decide +kernel)
set_option maxRecDepth 100000 in
theorem mo_68 : mm_mE mt_68 false 1 := mm_mB_ok (p2 := 46) (p3 := 558) (mm_gw_of (i := 518) rfl rfl) (by decide +kernel)
set_option maxRecDepth 100000 in
theorem mo_69 : mm_mE mt_69 false 1 := mm_mB_ok (p2 := 46) (p3 := 515) (mm_gw_of (i := 475) rfl rfl) (by decide +kernel)
set_option maxRecDepth 100000 in
theorem mo_70 : mm_mE mt_70 false 1 := mm_mB_ok (p2 := 46) (p3 := 668) (mm_gw_of (i := 628) rfl rfl) (by decide +kernel)
set_option maxRecDepth 100000 in
theorem mo_71 : mm_mE mt_71 false 0 := mm_mB_ok (p2 := 46) (p3 := 895) (mm_gw_of (i := 855) rfl rfl) (by decide +kernel)
set_option maxRecDepth 100000 in
theorem mo_72 : mm_mE mt_72 false 1 := mm_mB_ok (p2 := 46) (p3 := 1095) (mm_gw_of (i := 1055) rfl rfl) (by decide +kernel)
set_option maxRecDepth 100000 in
theorem mo_77 : mm_mE mt_77 false 1 := mm_mB_ok (p2 := 47) (p3 := 112) (mm_gw_of (i := 71) rfl rfl) (by decide +kernel)
set_option maxRecDepth 100000 in
theorem mo_78 : mm_mE mt_78 false 1 := mm_mB_ok (p2 := 47) (p3 := 523) (mm_gw_of (i := 483) rfl rfl) (by decide +kernel)
set_option maxRecDepth 100000 in
theorem mo_79 : mm_mE mt_79 false 2 := mm_mB_ok (p2 := 47) (p3 := 612) (mm_gw_of (i := 572) rfl rfl) (by decide +kernel)
set_option maxRecDepth 100000 in
theorem mo_80 : mm_mE mt_80 false 2 := mm_mB_ok (p2 := 47) (p3 := 616) (mm_gw_of (i := 576) rfl rfl) (by decide +kernel)
set_option maxRecDepth 100000 in
theorem mo_81 : mm_mE mt_81 false 3 := mm_mB_ok (p2 := 47) (p3 := 622) (mm_gw_of (i := 582) rfl rfl) (by decide +kernel)
set_option maxRecDepth 100000 in
theorem mo_82 : mm_mE mt_82 false 4 := mm_mB_ok (p2 := 47) (p3 := 638) (mm_gw_of (i := 598) rfl rfl) (by decide +kernel)
set_option maxRecDepth 100000 in
theorem mo_83 : mm_mE mt_83 true 3 := mm_mB_ok (p2 := 47) (p3 := 642) (mm_gw_of (i := 601) rfl rfl) (by decide +kernel)
set_option maxRecDepth 100000 in
theorem mo_84 : mm_mE mt_84 false 2 := mm_mB_ok (p2 := 47) (p3 := 630) (mm_gw_of (i := 590) rfl rfl) (by decide +kernel)
set_option maxRecDepth 100000 in
theorem mo_85 : mm_mE mt_85 false 4 := mm_mB_ok (p2 := 47) (p3 := 599) (mm_gw_of (i := 559) rfl rfl) (by decide +kernel)
set_option maxRecDepth 100000 in
theorem mo_86 : mm_mE mt_86 false 4 := mm_mB_ok (p2 := 47) (p3 := 634) (mm_gw_of (i := 594) rfl rfl) (by decide +kernel)
set_option maxRecDepth 100000 in
theorem mo_87 : mm_mE mt_87 false 2 := mm_mB_ok (p2 := 47) (p3 := 709) (mm_gw_of (i := 669) rfl rfl) (by decide +kernel)
set_option maxRecDepth 100000 in
theorem mo_88 : mm_mE mt_88 false 2 := mm_mB_ok (p2 := 47) (p3 := 701) (mm_gw_of (i := 661) rfl rfl) (by decide +kernel)
set_option maxRecDepth 100000 in
theorem mo_89 : mm_mE mt_89 false 2 := mm_mB_ok (p2 := 47) (p3 := 900) (mm_gw_of (i := 860) rfl rfl) (by decide +kernel)
set_option maxRecDepth 100000 in
theorem mo_90 : mm_mE mt_90 false 1 := mm_mB_ok (p2 := 47) (p3 := 696) (mm_gw_of (i := 656) rfl rfl) (by decide +kernel)
set_option maxRecDepth 100000 in
theorem mo_91 : mm_mE mt_91 false 0 := mm_mB_ok (p2 := 48) (p3 := 176) (mm_gw_of (i := 135) rfl rfl) (by decide +kernel)
set_option maxRecDepth 100000 in
theorem mo_92 : mm_mE mt_92 false 1 := mm_mB_ok (p2 := 48) (p3 := 414) (mm_gw_of (i := 374) rfl rfl) (by decide +kernel)
set_option maxRecDepth 100000 in
theorem mo_93 : mm_mE mt_93 false 0 := mm_mB_ok (p2 := 48) (p3 := 418) (mm_gw_of (i := 378) rfl rfl) (by decide +kernel)
set_option maxRecDepth 100000 in
theorem mo_94 : mm_mE mt_94 false 1 := mm_mB_ok (p2 := 48) (p3 := 527) (mm_gw_of (i := 487) rfl rfl) (by decide +kernel)
set_option maxRecDepth 100000 in
theorem mo_95 : mm_mE mt_95 false 0 := mm_mB_ok (p2 := 48) (p3 := 608) (mm_gw_of (i := 568) rfl rfl) (by decide +kernel)
set_option maxRecDepth 100000 in
theorem mo_96 : mm_mE mt_96 false 1 := mm_mB_ok (p2 := 48) (p3 := 427) (mm_gw_of (i := 387) rfl rfl) (by decide +kernel)
set_option maxRecDepth 100000 in
theorem mo_97 : mm_mE mt_97 false 1 := mm_mB_ok (p2 := 48) (p3 := 577) (mm_gw_of (i := 537) rfl rfl) (by decide +kernel)
set_option maxRecDepth 100000 in
theorem mo_98 : mm_mE mt_98 false 0 := mm_mB_ok (p2 := 48) (p3 := 508) (mm_gw_of (i := 468) rfl rfl) (by decide +kernel)
set_option maxRecDepth 100000 in
theorem mo_99 : mm_mE mt_99 false 0 := mm_mB_ok (p2 := 52) (p3 := 338) (mm_gw_of (i := 297) rfl rfl) (by decide +kernel)
set_option maxRecDepth 100000 in
theorem mo_103 : mm_mE mt_103 false 0 := mm_mB_ok (p2 := 43) (p3 := 75) (mm_gw_of (i := 34) rfl rfl) (by decide +kernel)
set_option maxRecDepth 100000 in
theorem mo_104 : mm_mE mt_104 false 5 := mm_mB_ok (p2 := 43) (p3 := 827) (mm_gw_of (i := 787) rfl rfl) (by decide +kernel)
set_option maxRecDepth 100000 in
theorem mo_105 : mm_mE mt_105 false 1 := mm_mB_ok (p2 := 43) (p3 := 851) (mm_gw_of (i := 811) rfl rfl) (by decide +kernel)
set_option maxRecDepth 100000 in
theorem mo_106 : mm_mE mt_106 false 0 := mm_mB_ok (p2 := 43) (p3 := 763) (mm_gw_of (i := 723) rfl rfl) (by decide +kernel)
set_option maxRecDepth 100000 in
theorem mo_109 : mm_mE mt_109 false 1 := mm_mB_ok (p2 := 43) (p3 := 1015) (mm_gw_of (i := 975) rfl rfl) (by decide +kernel)
set_option maxRecDepth 100000 in
theorem mo_110 : mm_mE mt_110 false 2 := mm_mB_ok (p2 := 43) (p3 := 1048) (mm_gw_of (i := 1008) rfl rfl) (by decide +kernel)
set_option maxRecDepth 100000 in
theorem mo_112 : mm_mE mt_112 false 2 := mm_mB_ok (p2 := 43) (p3 := 1087) (mm_gw_of (i := 1047) rfl rfl) (by decide +kernel)
set_option maxRecDepth 100000 in
theorem mo_114 : mm_mE mt_114 false 2 := mm_mB_ok (p2 := 43) (p3 := 1115) (mm_gw_of (i := 1075) rfl rfl) (by decide +kernel)
set_option maxRecDepth 100000 in
theorem mo_115 : mm_mE mt_115 false 2 := mm_mB_ok (p2 := 43) (p3 := 871) (mm_gw_of (i := 831) rfl rfl) (by decide +kernel)
set_option maxRecDepth 100000 in
theorem mo_126 : mm_mE mt_126 false 2 := mm_mB_ok (p2 := 43) (p3 := 1108) (mm_gw_of (i := 1068) rfl rfl) (by decide +kernel)
set_option maxRecDepth 100000 in
theorem mo_136 : mm_mE mt_136 false 3 := mm_mB_ok (p2 := 43) (p3 := 930) (mm_gw_of (i := 890) rfl rfl) (by decide +kernel)
set_option maxRecDepth 100000 in
theorem mo_137 : mm_mE mt_137 false 3 := mm_mB_ok (p2 := 43) (p3 := 955) (mm_gw_of (i := 915) rfl rfl) (by decide +kernel)
set_option maxRecDepth 100000 in
theorem mo_138 : mm_mE mt_138 false 1 := mm_mB_ok (p2 := 43) (p3 := 960) (mm_gw_of (i := 920) rfl rfl) (by decide +kernel)
set_option maxRecDepth 100000 in
theorem mo_139 : mm_mE mt_139 false 3 := mm_mB_ok (p2 := 43) (p3 := 965) (mm_gw_of (i := 925) rfl rfl) (by decide +kernel)
set_option maxRecDepth 100000 in
theorem mo_140 : mm_mE mt_140 false 3 := mm_mB_ok (p2 := 43) (p3 := 975) (mm_gw_of (i := 935) rfl rfl) (by decide +kernel)
set_option maxRecDepth 100000 in
theorem mo_141 : mm_mE mt_141 false 3 := mm_mB_ok (p2 := 43) (p3 := 979) (mm_gw_of (i := 939) rfl rfl) (by decide +kernel)
set_option maxRecDepth 100000 in
theorem mo_142 : mm_mE mt_142 false 1 := mm_mB_ok (p2 := 43) (p3 := 984) (mm_gw_of (i := 944) rfl rfl) (by decide +kernel)
set_option maxRecDepth 100000 in
theorem mo_143 : mm_mE mt_143 false 1 := mm_mB_ok (p2 := 43) (p3 := 1004) (mm_gw_of (i := 964) rfl rfl) (by decide +kernel)
set_option maxRecDepth 100000 in
theorem mo_144 : mm_mE mt_144 false 2 := mm_mB_ok (p2 := 43) (p3 := 1043) (mm_gw_of (i := 1003) rfl rfl) (by decide +kernel)
set_option maxRecDepth 100000 in
theorem mo_145 : mm_mE mt_145 false 1 := mm_mB_ok (p2 := 43) (p3 := 1061) (mm_gw_of (i := 1021) rfl rfl) (by decide +kernel)
set_option maxRecDepth 100000 in
theorem mo_146 : mm_mE mt_146 false 0 := mm_mB_ok (p2 := 43) (p3 := 1066) (mm_gw_of (i := 1026) rfl rfl) (by decide +kernel)
set_option maxRecDepth 100000 in
theorem mo_150 : mm_mE mt_150 false 0 := mm_mB_ok (p2 := 43) (p3 := 1075) (mm_gw_of (i := 1035) rfl rfl) (by decide +kernel)
set_option maxRecDepth 100000 in
theorem mo_156 : mm_mE mt_156 false 1 := mm_mB_ok (p2 := 43) (p3 := 876) (mm_gw_of (i := 835) rfl rfl) (by decide +kernel)
set_option maxRecDepth 100000 in
theorem mo_157 : mm_mE mt_157 false 1 := mm_mB_ok (p2 := 43) (p3 := 970) (mm_gw_of (i := 929) rfl rfl) (by decide +kernel)
set_option maxRecDepth 100000 in
theorem mo_158 : mm_mE mt_158 false 1 := mm_mB_ok (p2 := 43) (p3 := 1009) (mm_gw_of (i := 968) rfl rfl) (by decide +kernel)
set_option maxRecDepth 100000 in
theorem mo_161 : mm_mE mt_161 false 1 := mm_mB_ok (p2 := 43) (p3 := 935) (mm_gw_of (i := 894) rfl rfl) (by decide +kernel)
set_option maxRecDepth 100000 in
theorem mo_162 : mm_mE mt_162 false 0 := mm_mB_ok (p2 := 43) (p3 := 940) (mm_gw_of (i := 899) rfl rfl) (by decide +kernel)
set_option maxRecDepth 100000 in
theorem mo_163 : mm_mE mt_163 false 0 := mm_mB_ok (p2 := 43) (p3 := 945) (mm_gw_of (i := 904) rfl rfl) (by decide +kernel)
set_option maxRecDepth 100000 in
theorem mo_164 : mm_mE mt_164 false 1 := mm_mB_ok (p2 := 43) (p3 := 779) (mm_gw_of (i := 738) rfl rfl) (by decide +kernel)
set_option maxRecDepth 100000 in
theorem mo_165 : mm_mE mt_165 false 0 := mm_mB_ok (p2 := 43) (p3 := 989) (mm_gw_of (i := 948) rfl rfl) (by decide +kernel)
set_option maxRecDepth 100000 in
theorem mo_166 : mm_mE mt_166 false 0 := mm_mB_ok (p2 := 43) (p3 := 1025) (mm_gw_of (i := 984) rfl rfl) (by decide +kernel)
set_option maxRecDepth 100000 in
theorem mo_167 : mm_mE mt_167 false 1 := mm_mB_ok (p2 := 43) (p3 := 1029) (mm_gw_of (i := 988) rfl rfl) (by decide +kernel)
set_option maxRecDepth 100000 in
theorem mo_168 : mm_mE mt_168 false 0 := mm_mB_ok (p2 := 43) (p3 := 1034) (mm_gw_of (i := 993) rfl rfl) (by decide +kernel)
set_option maxRecDepth 100000 in
theorem mo_169 : mm_mE mt_169 false 1 := mm_mB_ok (p2 := 43) (p3 := 1054) (mm_gw_of (i := 1013) rfl rfl) (by decide +kernel)
set_option maxRecDepth 100000 in
theorem mo_170 : mm_mE mt_170 false 1 := mm_mB_ok (p2 := 43) (p3 := 1038) (mm_gw_of (i := 997) rfl rfl) (by decide +kernel)
set_option maxRecDepth 100000 in
theorem mo_172 : mm_mE mt_172 true 1 := mm_mB_ok (p2 := 43) (p3 := 1057) (mm_gw_of (i := 1016) rfl rfl) (by decide +kernel)
set_option maxRecDepth 100000 in
theorem mo_173 : mm_mE mt_173 true 3 := mm_mB_ok (p2 := 43) (p3 := 665) (mm_gw_of (i := 624) rfl rfl) (by decide +kernel)
set_option maxRecDepth 100000 in
theorem mo_176 : mm_mE mt_176 false 1 := mm_mB_ok (p2 := 63) (p3 := 784) (mm_gw_of (i := 743) rfl rfl) (by decide +kernel)
set_option maxRecDepth 100000 in
theorem mo_177 : mm_mE mt_177 false 1 := mm_mB_ok (p2 := 63) (p3 := 907) (mm_gw_of (i := 867) rfl rfl) (by decide +kernel)
set_option maxRecDepth 100000 in
theorem mo_178 : mm_mE mt_178 false 3 := mm_mB_ok (p2 := 63) (p3 := 912) (mm_gw_of (i := 872) rfl rfl) (by decide +kernel)
set_option maxRecDepth 100000 in
theorem mo_179 : mm_mE mt_179 false 0 := mm_mB_ok (p2 := 63) (p3 := 926) (mm_gw_of (i := 886) rfl rfl) (by decide +kernel)
set_option maxRecDepth 100000 in
theorem mo_180 : mm_mE mt_180 false 0 := mm_mB_ok (p2 := 63) (p3 := 1071) (mm_gw_of (i := 1031) rfl rfl) (by decide +kernel)
set_option maxRecDepth 100000 in
theorem mo_181 : mm_mE mt_181 false 1 := mm_mB_ok (p2 := 63) (p3 := 922) (mm_gw_of (i := 882) rfl rfl) (by decide +kernel)
set_option maxRecDepth 100000 in
theorem mo_182 : mm_mE mt_182 false 1 := mm_mB_ok (p2 := 64) (p3 := 1138) (mm_gw_of (i := 1097) rfl rfl) (by decide +kernel)
set_option maxRecDepth 100000 in
theorem mo_183 : mm_mE mt_183 false 0 := mm_mB_ok (p2 := 64) (p3 := 1280) (mm_gw_of (i := 1244) rfl rfl) (by decide +kernel)
set_option maxRecDepth 100000 in
theorem mo_184 : mm_mE mt_184 false 1 := mm_mB_ok (p2 := 64) (p3 := 1175) (mm_gw_of (i := 1134) rfl rfl) (by decide +kernel)
set_option maxRecDepth 100000 in
theorem mo_185 : mm_mE mt_185 false 1 := mm_mB_ok (p2 := 64) (p3 := 1179) (mm_gw_of (i := 1138) rfl rfl) (by decide +kernel)
set_option maxRecDepth 100000 in
theorem mo_186 : mm_mE mt_186 false 1 := mm_mB_ok (p2 := 64) (p3 := 1167) (mm_gw_of (i := 1126) rfl rfl) (by decide +kernel)
set_option maxRecDepth 100000 in
theorem mo_187 : mm_mE mt_187 false 0 := mm_mB_ok (p2 := 64) (p3 := 1275) (mm_gw_of (i := 1236) rfl rfl) (by decide +kernel)
set_option maxRecDepth 100000 in
theorem mo_188 : mm_mE mt_188 false 0 := mm_mB_ok (p2 := 64) (p3 := 1207) (mm_gw_of (i := 1168) rfl rfl) (by decide +kernel)
set_option maxRecDepth 100000 in
theorem mo_189 : mm_mE mt_189 false 1 := mm_mB_ok (p2 := 64) (p3 := 1233) (mm_gw_of (i := 1192) rfl rfl) (by decide +kernel)
set_option maxRecDepth 100000 in
theorem mo_190 : mm_mE mt_190 false 2 := mm_mB_ok (p2 := 64) (p3 := 1229) (mm_gw_of (i := 1188) rfl rfl) (by decide +kernel)
set_option maxRecDepth 100000 in
theorem mo_330 : mm_mE mt_330 true 1 := mm_mB_ok (p2 := 69) (p3 := 1101) (mm_gw_of (i := 1060) rfl rfl) (by decide +kernel)
set_option maxRecDepth 100000 in
theorem mo_191 : mm_mE mt_191 false 1 := mm_mB_ok (p2 := 53) (p3 := 1268) (mm_gw_of (i := 1227) rfl rfl) (by decide +kernel)
set_option maxRecDepth 100000 in
theorem mo_331 : mm_mE mt_331 false 0 := mm_mB_ok (p2 := 53) (p3 := 353) (mm_gw_of (i := 313) rfl rfl) (by decide +kernel)
set_option maxRecDepth 100000 in
theorem mo_332 : mm_mE mt_332 false 1 := mm_mB_ok (p2 := 53) (p3 := 363) (mm_gw_of (i := 323) rfl rfl) (by decide +kernel)
set_option maxRecDepth 100000 in
theorem mo_192 : mm_mE mt_192 false 3 := mm_mB_ok (p2 := 53) (p3 := 1256) (mm_gw_of (i := 1216) rfl rfl) (by decide +kernel)
set_option maxRecDepth 100000 in
theorem mo_193 : mm_mE mt_193 false 2 := mm_mB_ok (p2 := 53) (p3 := 1271) (mm_gw_of (i := 1230) rfl rfl) (by decide +kernel)
set_option maxRecDepth 100000 in
theorem mo_333 : mm_mE mt_333 false 0 := mm_mB_ok (p2 := 53) (p3 := 357) (mm_gw_of (i := 317) rfl rfl) (by decide +kernel)
set_option maxRecDepth 100000 in
theorem mo_334 : mm_mE mt_334 false 0 := mm_mB_ok (p2 := 53) (p3 := 367) (mm_gw_of (i := 327) rfl rfl) (by decide +kernel)
set_option maxRecDepth 100000 in
theorem mo_335 : mm_mE mt_335 true 2 := mm_mB_ok (p2 := 53) (p3 := 374) (mm_gw_of (i := 333) rfl rfl) (by decide +kernel)
set_option maxRecDepth 100000 in
theorem mo_194 : mm_mE mt_194 false 0 := mm_mB_ok (p2 := 65) (p3 := 1135) (mm_gw_of (i := 1094) rfl rfl) (by decide +kernel)
set_option maxRecDepth 100000 in
theorem mo_195 : mm_mE mt_195 false 1 := mm_mB_ok (p2 := 65) (p3 := 1163) (mm_gw_of (i := 1123) rfl rfl) (by decide +kernel)
set_option maxRecDepth 100000 in
theorem mo_196 : mm_mE mt_196 false 0 := mm_mB_ok (p2 := 65) (p3 := 1262) (mm_gw_of (i := 1222) rfl rfl) (by decide +kernel)
set_option maxRecDepth 100000 in
theorem mo_197 : mm_mE mt_197 false 0 := mm_mB_ok (p2 := 65) (p3 := 1283) (mm_gw_of (i := 1242) rfl rfl) (by decide +kernel)
set_option maxRecDepth 100000 in
theorem mo_336 : mm_mE mt_336 true 2 := mm_mB_ok (p2 := 54) (p3 := 371) (mm_gw_of (i := 330) rfl rfl) (by decide +kernel)
set_option maxRecDepth 100000 in
theorem mo_341 : mm_mE mt_341 true 2 := mm_mB_ok (p2 := 62) (p3 := 688) (mm_gw_of (i := 647) rfl rfl) (by decide +kernel)
set_option maxRecDepth 100000 in
theorem mo_198 : mm_mE mt_198 true 2 := mm_mB_ok (p2 := 62) (p3 := 1193) (mm_gw_of (i := 1152) rfl rfl) (by decide +kernel)
set_option maxRecDepth 100000 in
theorem mo_199 : mm_mE mt_199 true 2 := mm_mB_ok (p2 := 62) (p3 := 1295) (mm_gw_of (i := 1254) rfl rfl) (by decide +kernel)
set_option maxRecDepth 100000 in
theorem mo_200 : mm_mE mt_200 true 3 := mm_mB_ok (p2 := 62) (p3 := 1289) (mm_gw_of (i := 1248) rfl rfl) (by decide +kernel)
set_option maxRecDepth 100000 in
theorem mo_201 : mm_mE mt_201 true 3 := mm_mB_ok (p2 := 62) (p3 := 1292) (mm_gw_of (i := 1251) rfl rfl) (by decide +kernel)
set_option maxRecDepth 100000 in
theorem mo_202 : mm_mE mt_202 true 3 := mm_mB_ok (p2 := 66) (p3 := 1182) (mm_gw_of (i := 1141) rfl rfl) (by decide +kernel)
set_option maxRecDepth 100000 in
theorem mo_342 : mm_mE mt_342 true 3 := mm_mB_ok (p2 := 55) (p3 := 379) (mm_gw_of (i := 338) rfl rfl) (by decide +kernel)
set_option maxRecDepth 100000 in
theorem mo_203 : mm_mE mt_203 true 3 := mm_mB_ok (p2 := 42) (p3 := 815) (mm_gw_of (i := 774) rfl rfl) (by decide +kernel)
set_option maxRecDepth 100000 in
theorem mo_204 : mm_mE mt_204 true 2 := mm_mB_ok (p2 := 42) (p3 := 823) (mm_gw_of (i := 782) rfl rfl) (by decide +kernel)
set_option maxRecDepth 100000 in
theorem mo_205 : mm_mE mt_205 true 2 := mm_mB_ok (p2 := 42) (p3 := 819) (mm_gw_of (i := 778) rfl rfl) (by decide +kernel)
set_option maxRecDepth 100000 in
theorem mo_206 : mm_mE mt_206 true 1 := mm_mB_ok (p2 := 42) (p3 := 856) (mm_gw_of (i := 815) rfl rfl) (by decide +kernel)
set_option maxRecDepth 100000 in
theorem mo_207 : mm_mE mt_207 true 1 := mm_mB_ok (p2 := 42) (p3 := 862) (mm_gw_of (i := 821) rfl rfl) (by decide +kernel)
set_option maxRecDepth 100000 in
theorem mo_208 : mm_mE mt_208 true 3 := mm_mB_ok (p2 := 42) (p3 := 868) (mm_gw_of (i := 827) rfl rfl) (by decide +kernel)
set_option maxRecDepth 100000 in
theorem mo_209 : mm_mE mt_209 true 2 := mm_mB_ok (p2 := 42) (p3 := 904) (mm_gw_of (i := 863) rfl rfl) (by decide +kernel)
set_option maxRecDepth 100000 in
theorem mo_210 : mm_mE mt_210 true 3 := mm_mB_ok (p2 := 42) (p3 := 919) (mm_gw_of (i := 878) rfl rfl) (by decide +kernel)
set_option maxRecDepth 100000 in
theorem mo_211 : mm_mE mt_211 true 6 := mm_mB_ok (p2 := 42) (p3 := 916) (mm_gw_of (i := 875) rfl rfl) (by decide +kernel)
set_option maxRecDepth 100000 in
theorem mo_212 : mm_mE mt_212 true 3 := mm_mB_ok (p2 := 42) (p3 := 1112) (mm_gw_of (i := 1071) rfl rfl) (by decide +kernel)
set_option maxRecDepth 100000 in
theorem mo_213 : mm_mE mt_213 true 3 := mm_mB_ok (p2 := 42) (p3 := 1084) (mm_gw_of (i := 1043) rfl rfl) (by decide +kernel)
