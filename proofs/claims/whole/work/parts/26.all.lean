def mm_good (a : Nat) : Prop := ∀ t, mm_MT a = some t → mm_mE t (mm_stf a) (mm_npf a) ∧ ∃ h, mm_tabB mm_PQ mm_MT mm_stf mm_npf mm_stn mm_sts mm_TX mm_XL t h = true
theorem mq_of {a : Nat} {u : mm_M} (h : mm_MT a = some u) (h1 : mm_mE u (mm_stf a) (mm_npf a)) {hs : List (Nat × Nat × Nat)} (h2 : mm_tabB mm_PQ mm_MT mm_stf mm_npf mm_stn mm_sts mm_TX mm_XL u hs = true) : mm_good a := by
  intro t ht
  cases Option.some.inj (h.symm.trans ht)
  exact ⟨h1, hs, h2⟩
set_option maxRecDepth 100000 in
theorem mq_0 : mm_good 0 := mq_of (u := mt_0) rfl mo_0 mb_0
set_option maxRecDepth 100000 in
theorem mq_1 : mm_good 1 := mq_of (u := mt_1) rfl mo_1 mb_1
set_option maxRecDepth 100000 in
theorem mq_2 : mm_good 2 := mq_of (u := mt_2) rfl mo_2 mb_2
set_option maxRecDepth 100000 in
theorem mq_3 : mm_good 3 := mq_of (u := mt_3) rfl mo_3 mb_3
set_option maxRecDepth 100000 in
theorem mq_4 : mm_good 4 := mq_of (u := mt_4) rfl mo_4 mb_4
set_option maxRecDepth 100000 in
theorem mq_5 : mm_good 5 := mq_of (u := mt_5) rfl mo_5 mb_5
set_option maxRecDepth 100000 in
theorem mq_6 : mm_good 6 := mq_of (u := mt_6) rfl mo_6 mb_6
set_option maxRecDepth 100000 in
theorem mq_7 : mm_good 7 := mq_of (u := mt_7) rfl mo_7 mb_7
set_option maxRecDepth 100000 in
theorem mq_8 : mm_good 8 := mq_of (u := mt_8) rfl mo_8 mb_8
set_option maxRecDepth 100000 in
theorem mq_9 : mm_good 9 := mq_of (u := mt_9) rfl mo_9 mb_9
set_option maxRecDepth 100000 in
theorem mq_10 : mm_good 10 := mq_of (u := mt_10) rfl mo_10 mb_10
set_option maxRecDepth 100000 in
theorem mq_11 : mm_good 11 := mq_of (u := mt_11) rfl mo_11 mb_11
set_option maxRecDepth 100000 in
theorem mq_12 : mm_good 12 := mq_of (u := mt_12) rfl mo_12 mb_12
set_option maxRecDepth 100000 in
theorem mq_13 : mm_good 13 := mq_of (u := mt_13) rfl mo_13 mb_13
set_option maxRecDepth 100000 in
theorem mq_14 : mm_good 14 := mq_of (u := mt_14) rfl mo_14 mb_14
set_option maxRecDepth 100000 in
theorem mq_15 : mm_good 15 := mq_of (u := mt_15) rfl mo_15 mb_15
set_option maxRecDepth 100000 in
theorem mq_16 : mm_good 16 := mq_of (u := mt_16) rfl mo_16 mb_16
set_option maxRecDepth 100000 in
theorem mq_17 : mm_good 17 := mq_of (u := mt_17) rfl mo_17 mb_17
set_option maxRecDepth 100000 in
theorem mq_18 : mm_good 18 := mq_of (u := mt_18) rfl mo_18 mb_18
set_option maxRecDepth 100000 in
theorem mq_19 : mm_good 19 := mq_of (u := mt_19) rfl mo_19 mb_19
set_option maxRecDepth 100000 in
theorem mq_20 : mm_good 20 := mq_of (u := mt_20) rfl mo_20 mb_20
set_option maxRecDepth 100000 in
theorem mq_21 : mm_good 21 := mq_of (u := mt_21) rfl mo_21 mb_21
set_option maxRecDepth 100000 in
theorem mq_22 : mm_good 22 := mq_of (u := mt_22) rfl mo_22 mb_22
set_option maxRecDepth 100000 in
theorem mq_23 : mm_good 23 := mq_of (u := mt_23) rfl mo_23 mb_23
set_option maxRecDepth 100000 in
theorem mq_24 : mm_good 24 := mq_of (u := mt_24) rfl mo_24 mb_24
set_option maxRecDepth 100000 in
theorem mq_25 : mm_good 25 := mq_of (u := mt_25) rfl mo_25 mb_25
set_option maxRecDepth 100000 in
theorem mq_26 : mm_good 26 := mq_of (u := mt_26) rfl mo_26 mb_26
set_option maxRecDepth 100000 in
theorem mq_27 : mm_good 27 := mq_of (u := mt_27) rfl mo_27 mb_27
set_option maxRecDepth 100000 in
theorem mq_28 : mm_good 28 := mq_of (u := mt_28) rfl mo_28 mb_28
set_option maxRecDepth 100000 in
theorem mq_29 : mm_good 29 := mq_of (u := mt_29) rfl mo_29 mb_29
set_option maxRecDepth 100000 in
theorem mq_30 : mm_good 30 := mq_of (u := mt_30) rfl mo_30 mb_30
set_option maxRecDepth 100000 in
theorem mq_31 : mm_good 31 := mq_of (u := mt_31) rfl mo_31 mb_31
set_option maxRecDepth 100000 in
theorem mq_32 : mm_good 32 := mq_of (u := mt_32) rfl mo_32 mb_32
set_option maxRecDepth 100000 in
theorem mq_33 : mm_good 33 := mq_of (u := mt_33) rfl mo_33 mb_33
set_option maxRecDepth 100000 in
theorem mq_34 : mm_good 34 := mq_of (u := mt_34) rfl mo_34 mb_34
set_option maxRecDepth 100000 in
theorem mq_35 : mm_good 35 := mq_of (u := mt_35) rfl mo_35 mb_35
set_option maxRecDepth 100000 in
theorem mq_36 : mm_good 36 := mq_of (u := mt_36) rfl mo_36 mb_36
set_option maxRecDepth 100000 in
theorem mq_37 : mm_good 37 := mq_of (u := mt_37) rfl mo_37 mb_37
set_option maxRecDepth 100000 in
theorem mq_38 : mm_good 38 := mq_of (u := mt_38) rfl mo_38 mb_38
set_option maxRecDepth 100000 in
theorem mq_39 : mm_good 39 := mq_of (u := mt_39) rfl mo_39 mb_39
set_option maxRecDepth 100000 in
theorem mq_40 : mm_good 40 := mq_of (u := mt_40) rfl mo_40 mb_40
set_option maxRecDepth 100000 in
theorem mq_41 : mm_good 41 := mq_of (u := mt_41) rfl mo_41 mb_41
set_option maxRecDepth 100000 in
theorem mq_42 : mm_good 42 := mq_of (u := mt_42) rfl mo_42 mb_42
set_option maxRecDepth 100000 in
theorem mq_43 : mm_good 43 := mq_of (u := mt_43) rfl mo_43 mb_43
set_option maxRecDepth 100000 in
theorem mq_44 : mm_good 44 := mq_of (u := mt_44) rfl mo_44 mb_44
set_option maxRecDepth 100000 in
theorem mq_45 : mm_good 45 := mq_of (u := mt_45) rfl mo_45 mb_45
set_option maxRecDepth 100000 in
theorem mq_46 : mm_good 46 := mq_of (u := mt_46) rfl mo_46 mb_46
set_option maxRecDepth 100000 in
theorem mq_47 : mm_good 47 := mq_of (u := mt_47) rfl mo_47 mb_47
set_option maxRecDepth 100000 in
theorem mq_48 : mm_good 48 := mq_of (u := mt_48) rfl mo_48 mb_48
set_option maxRecDepth 100000 in
theorem mq_49 : mm_good 49 := mq_of (u := mt_49) rfl mo_49 mb_49
set_option maxRecDepth 100000 in
theorem mq_50 : mm_good 50 := mq_of (u := mt_50) rfl mo_50 mb_50
set_option maxRecDepth 100000 in
theorem mq_51 : mm_good 51 := mq_of (u := mt_51) rfl mo_51 mb_51
set_option maxRecDepth 100000 in
theorem mq_52 : mm_good 52 := mq_of (u := mt_52) rfl mo_52 mb_52
set_option maxRecDepth 100000 in
theorem mq_53 : mm_good 53 := mq_of (u := mt_53) rfl mo_53 mb_53
set_option maxRecDepth 100000 in
theorem mq_54 : mm_good 54 := mq_of (u := mt_54) rfl mo_54 mb_54
set_option maxRecDepth 100000 in
theorem mq_55 : mm_good 55 := mq_of (u := mt_55) rfl mo_55 mb_55
set_option maxRecDepth 100000 in
theorem mq_56 : mm_good 56 := mq_of (u := mt_56) rfl mo_56 mb_56
set_option maxRecDepth 100000 in
theorem mq_57 : mm_good 57 := mq_of (u := mt_57) rfl mo_57 mb_57
set_option maxRecDepth 100000 in
theorem mq_58 : mm_good 58 := mq_of (u := mt_58) rfl mo_58 mb_58
set_option maxRecDepth 100000 in
theorem mq_59 : mm_good 59 := mq_of (u := mt_59) rfl mo_59 mb_59
set_option maxRecDepth 100000 in
theorem mq_60 : mm_good 60 := mq_of (u := mt_60) rfl mo_60 mb_60
set_option maxRecDepth 100000 in
theorem mq_61 : mm_good 61 := mq_of (u := mt_61) rfl mo_61 mb_61
set_option maxRecDepth 100000 in
theorem mq_62 : mm_good 62 := mq_of (u := mt_62) rfl mo_62 mb_62
set_option maxRecDepth 100000 in
theorem mq_63 : mm_good 63 := mq_of (u := mt_63) rfl mo_63 mb_63
set_option maxRecDepth 100000 in
theorem mq_64 : mm_good 64 := mq_of (u := mt_64) rfl mo_64 mb_64
set_option maxRecDepth 100000 in
theorem mq_65 : mm_good 65 := mq_of (u := mt_65) rfl mo_65 mb_65
set_option maxRecDepth 100000 in
theorem mq_66 : mm_good 66 := mq_of (u := mt_66) rfl mo_66 mb_66
set_option maxRecDepth 100000 in
theorem mq_67 : mm_good 67 := mq_of (u := mt_67) rfl mo_67 mb_67
set_option maxRecDepth 100000 in
theorem mq_68 : mm_good 68 := mq_of (u := mt_68) rfl mo_68 mb_68
set_option maxRecDepth 100000 in
theorem mq_69 : mm_good 69 := mq_of (u := mt_69) rfl mo_69 mb_69
set_option maxRecDepth 100000 in
theorem mq_70 : mm_good 70 := mq_of (u := mt_70) rfl mo_70 mb_70
set_option maxRecDepth 100000 in
theorem mq_71 : mm_good 71 := mq_of (u := mt_71) rfl mo_71 mb_71
set_option maxRecDepth 100000 in
theorem mq_72 : mm_good 72 := mq_of (u := mt_72) rfl mo_72 mb_72
set_option maxRecDepth 100000 in
theorem mq_73 : mm_good 73 := mq_of (u := mt_73) rfl mo_73 mb_73
set_option maxRecDepth 100000 in
theorem mq_74 : mm_good 74 := mq_of (u := mt_74) rfl mo_74 mb_74
set_option maxRecDepth 100000 in
theorem mq_75 : mm_good 75 := mq_of (u := mt_75) rfl mo_75 mb_75
set_option maxRecDepth 100000 in
theorem mq_76 : mm_good 76 := mq_of (u := mt_76) rfl mo_76 mb_76
set_option maxRecDepth 100000 in
theorem mq_77 : mm_good 77 := mq_of (u := mt_77) rfl mo_77 mb_77
set_option maxRecDepth 100000 in
theorem mq_78 : mm_good 78 := mq_of (u := mt_78) rfl mo_78 mb_78
set_option maxRecDepth 100000 in
theorem mq_79 : mm_good 79 := mq_of (u := mt_79) rfl mo_79 mb_79
set_option maxRecDepth 100000 in
theorem mq_80 : mm_good 80 := mq_of (u := mt_80) rfl mo_80 mb_80
set_option maxRecDepth 100000 in
theorem mq_81 : mm_good 81 := mq_of (u := mt_81) rfl mo_81 mb_81
set_option maxRecDepth 100000 in
theorem mq_82 : mm_good 82 := mq_of (u := mt_82) rfl mo_82 mb_82
set_option maxRecDepth 100000 in
theorem mq_83 : mm_good 83 := mq_of (u := mt_83) rfl mo_83 mb_83
set_option maxRecDepth 100000 in
theorem mq_84 : mm_good 84 := mq_of (u := mt_84) rfl mo_84 mb_84
set_option maxRecDepth 100000 in
theorem mq_85 : mm_good 85 := mq_of (u := mt_85) rfl mo_85 mb_85
set_option maxRecDepth 100000 in
theorem mq_86 : mm_good 86 := mq_of (u := mt_86) rfl mo_86 mb_86
set_option maxRecDepth 100000 in
theorem mq_87 : mm_good 87 := mq_of (u := mt_87) rfl mo_87 mb_87
set_option maxRecDepth 100000 in
theorem mq_88 : mm_good 88 := mq_of (u := mt_88) rfl mo_88 mb_88
set_option maxRecDepth 100000 in
theorem mq_89 : mm_good 89 := mq_of (u := mt_89) rfl mo_89 mb_89
set_option maxRecDepth 100000 in
theorem mq_90 : mm_good 90 := mq_of (u := mt_90) rfl mo_90 mb_90
set_option maxRecDepth 100000 in
theorem mq_91 : mm_good 91 := mq_of (u := mt_91) rfl mo_91 mb_91
set_option maxRecDepth 100000 in
theorem mq_92 : mm_good 92 := mq_of (u := mt_92) rfl mo_92 mb_92
set_option maxRecDepth 100000 in
theorem mq_93 : mm_good 93 := mq_of (u := mt_93) rfl mo_93 mb_93
set_option maxRecDepth 100000 in
theorem mq_94 : mm_good 94 := mq_of (u := mt_94) rfl mo_94 mb_94
set_option maxRecDepth 100000 in
theorem mq_95 : mm_good 95 := mq_of (u := mt_95) rfl mo_95 mb_95
set_option maxRecDepth 100000 in
theorem mq_96 : mm_good 96 := mq_of (u := mt_96) rfl mo_96 mb_96
set_option maxRecDepth 100000 in
theorem mq_97 : mm_good 97 := mq_of (u := mt_97) rfl mo_97 mb_97
set_option maxRecDepth 100000 in
theorem mq_98 : mm_good 98 := mq_of (u := mt_98) rfl mo_98 mb_98
set_option maxRecDepth 100000 in
theorem mq_99 : mm_good 99 := mq_of (u := mt_99) rfl mo_99 mb_99
set_option maxRecDepth 100000 in
theorem mq_100 : mm_good 100 := mq_of (u := mt_100) rfl mo_100 mb_100
set_option maxRecDepth 100000 in
theorem mq_101 : mm_good 101 := mq_of (u := mt_101) rfl mo_101 mb_101
set_option maxRecDepth 100000 in
theorem mq_102 : mm_good 102 := mq_of (u := mt_102) rfl mo_102 mb_102
set_option maxRecDepth 100000 in
theorem mq_103 : mm_good 103 := mq_of (u := mt_103) rfl mo_103 mb_103
set_option maxRecDepth 100000 in
theorem mq_104 : mm_good 104 := mq_of (u := mt_104) rfl mo_104 mb_104
set_option maxRecDepth 100000 in
theorem mq_105 : mm_good 105 := mq_of (u := mt_105) rfl mo_105 mb_105
set_option maxRecDepth 100000 in
theorem mq_106 : mm_good 106 := mq_of (u := mt_106) rfl mo_106 mb_106
set_option maxRecDepth 100000 in
theorem mq_107 : mm_good 107 := mq_of (u := mt_107) rfl mo_107 mb_107
set_option maxRecDepth 100000 in
theorem mq_108 : mm_good 108 := mq_of (u := mt_108) rfl mo_108 mb_108
set_option maxRecDepth 100000 in
theorem mq_109 : mm_good 109 := mq_of (u := mt_109) rfl mo_109 mb_109
set_option maxRecDepth 100000 in
theorem mq_110 : mm_good 110 := mq_of (u := mt_110) rfl mo_110 mb_110
set_option maxRecDepth 100000 in
theorem mq_111 : mm_good 111 := mq_of (u := mt_111) rfl mo_111 mb_111
set_option maxRecDepth 100000 in
theorem mq_112 : mm_good 112 := mq_of (u := mt_112) rfl mo_112 mb_112
set_option maxRecDepth 100000 in
theorem mq_113 : mm_good 113 := mq_of (u := mt_113) rfl mo_113 mb_113
set_option maxRecDepth 100000 in
theorem mq_114 : mm_good 114 := mq_of (u := mt_114) rfl mo_114 mb_114
set_option maxRecDepth 100000 in
theorem mq_115 : mm_good 115 := mq_of (u := mt_115) rfl mo_115 mb_115
set_option maxRecDepth 100000 in
theorem mq_116 : mm_good 116 := mq_of (u := mt_116) rfl mo_116 mb_116
set_option maxRecDepth 100000 in
theorem mq_117 : mm_good 117 := mq_of (u := mt_117) rfl mo_117 mb_117
set_option maxRecDepth 100000 in
theorem mq_118 : mm_good 118 := mq_of (u := mt_118) rfl mo_118 mb_118
set_option maxRecDepth 100000 in
theorem mq_119 : mm_good 119 := mq_of (u := mt_119) rfl mo_119 mb_119
set_option maxRecDepth 100000 in
theorem mq_120 : mm_good 120 := mq_of (u := mt_120) rfl mo_120 mb_120
set_option maxRecDepth 100000 in
theorem mq_121 : mm_good 121 := mq_of (u := mt_121) rfl mo_121 mb_121
set_option maxRecDepth 100000 in
theorem mq_122 : mm_good 122 := mq_of (u := mt_122) rfl mo_122 mb_122
set_option maxRecDepth 100000 in
theorem mq_123 : mm_good 123 := mq_of (u := mt_123) rfl mo_123 mb_123
set_option maxRecDepth 100000 in
theorem mq_124 : mm_good 124 := mq_of (u := mt_124) rfl mo_124 mb_124
set_option maxRecDepth 100000 in
theorem mq_125 : mm_good 125 := mq_of (u := mt_125) rfl mo_125 mb_125
set_option maxRecDepth 100000 in
theorem mq_126 : mm_good 126 := mq_of (u := mt_126) rfl mo_126 mb_126
set_option maxRecDepth 100000 in
theorem mq_127 : mm_good 127 := mq_of (u := mt_127) rfl mo_127 mb_127
set_option maxRecDepth 100000 in
theorem mq_128 : mm_good 128 := mq_of (u := mt_128) rfl mo_128 mb_128
set_option maxRecDepth 100000 in
theorem mq_129 : mm_good 129 := mq_of (u := mt_129) rfl mo_129 mb_129
set_option maxRecDepth 100000 in
theorem mq_130 : mm_good 130 := mq_of (u := mt_130) rfl mo_130 mb_130
set_option maxRecDepth 100000 in
theorem mq_131 : mm_good 131 := mq_of (u := mt_131) rfl mo_131 mb_131
set_option maxRecDepth 100000 in
theorem mq_132 : mm_good 132 := mq_of (u := mt_132) rfl mo_132 mb_132
set_option maxRecDepth 100000 in
theorem mq_133 : mm_good 133 := mq_of (u := mt_133) rfl mo_133 mb_133
set_option maxRecDepth 100000 in
theorem mq_134 : mm_good 134 := mq_of (u := mt_134) rfl mo_134 mb_134
set_option maxRecDepth 100000 in
theorem mq_135 : mm_good 135 := mq_of (u := mt_135) rfl mo_135 mb_135
set_option maxRecDepth 100000 in
theorem mq_136 : mm_good 136 := mq_of (u := mt_136) rfl mo_136 mb_136
set_option maxRecDepth 100000 in
theorem mq_137 : mm_good 137 := mq_of (u := mt_137) rfl mo_137 mb_137
set_option maxRecDepth 100000 in
theorem mq_138 : mm_good 138 := mq_of (u := mt_138) rfl mo_138 mb_138
set_option maxRecDepth 100000 in
theorem mq_139 : mm_good 139 := mq_of (u := mt_139) rfl mo_139 mb_139
set_option maxRecDepth 100000 in
theorem mq_140 : mm_good 140 := mq_of (u := mt_140) rfl mo_140 mb_140
set_option maxRecDepth 100000 in
theorem mq_141 : mm_good 141 := mq_of (u := mt_141) rfl mo_141 mb_141
set_option maxRecDepth 100000 in
theorem mq_142 : mm_good 142 := mq_of (u := mt_142) rfl mo_142 mb_142
set_option maxRecDepth 100000 in
theorem mq_143 : mm_good 143 := mq_of (u := mt_143) rfl mo_143 mb_143
set_option maxRecDepth 100000 in
theorem mq_144 : mm_good 144 := mq_of (u := mt_144) rfl mo_144 mb_144
set_option maxRecDepth 100000 in
theorem mq_145 : mm_good 145 := mq_of (u := mt_145) rfl mo_145 mb_145
set_option maxRecDepth 100000 in
theorem mq_146 : mm_good 146 := mq_of (u := mt_146) rfl mo_146 mb_146
set_option maxRecDepth 100000 in
theorem mq_147 : mm_good 147 := mq_of (u := mt_147) rfl mo_147 mb_147
set_option maxRecDepth 100000 in
theorem mq_148 : mm_good 148 := mq_of (u := mt_148) rfl mo_148 mb_148
set_option maxRecDepth 100000 in
theorem mq_149 : mm_good 149 := mq_of (u := mt_149) rfl mo_149 mb_149
set_option maxRecDepth 100000 in
theorem mq_150 : mm_good 150 := mq_of (u := mt_150) rfl mo_150 mb_150
set_option maxRecDepth 100000 in
theorem mq_151 : mm_good 151 := mq_of (u := mt_151) rfl mo_151 mb_151
set_option maxRecDepth 100000 in
theorem mq_152 : mm_good 152 := mq_of (u := mt_152) rfl mo_152 mb_152
set_option maxRecDepth 100000 in
theorem mq_153 : mm_good 153 := mq_of (u := mt_153) rfl mo_153 mb_153
set_option maxRecDepth 100000 in
theorem mq_154 : mm_good 154 := mq_of (u := mt_154) rfl mo_154 mb_154
set_option maxRecDepth 100000 in
theorem mq_155 : mm_good 155 := mq_of (u := mt_155) rfl mo_155 mb_155
set_option maxRecDepth 100000 in
theorem mq_156 : mm_good 156 := mq_of (u := mt_156) rfl mo_156 mb_156
set_option maxRecDepth 100000 in
theorem mq_157 : mm_good 157 := mq_of (u := mt_157) rfl mo_157 mb_157
set_option maxRecDepth 100000 in
theorem mq_158 : mm_good 158 := mq_of (u := mt_158) rfl mo_158 mb_158
set_option maxRecDepth 100000 in
theorem mq_159 : mm_good 159 := mq_of (u := mt_159) rfl mo_159 mb_159
set_option maxRecDepth 100000 in
theorem mq_160 : mm_good 160 := mq_of (u := mt_160) rfl mo_160 mb_160
set_option maxRecDepth 100000 in
theorem mq_161 : mm_good 161 := mq_of (u := mt_161) rfl mo_161 mb_161
set_option maxRecDepth 100000 in
theorem mq_162 : mm_good 162 := mq_of (u := mt_162) rfl mo_162 mb_162
set_option maxRecDepth 100000 in
theorem mq_163 : mm_good 163 := mq_of (u := mt_163) rfl mo_163 mb_163
set_option maxRecDepth 100000 in
theorem mq_164 : mm_good 164 := mq_of (u := mt_164) rfl mo_164 mb_164
set_option maxRecDepth 100000 in
theorem mq_165 : mm_good 165 := mq_of (u := mt_165) rfl mo_165 mb_165
set_option maxRecDepth 100000 in
theorem mq_166 : mm_good 166 := mq_of (u := mt_166) rfl mo_166 mb_166
set_option maxRecDepth 100000 in
theorem mq_167 : mm_good 167 := mq_of (u := mt_167) rfl mo_167 mb_167
set_option maxRecDepth 100000 in
theorem mq_168 : mm_good 168 := mq_of (u := mt_168) rfl mo_168 mb_168
set_option maxRecDepth 100000 in
theorem mq_169 : mm_good 169 := mq_of (u := mt_169) rfl mo_169 mb_169
set_option maxRecDepth 100000 in
theorem mq_170 : mm_good 170 := mq_of (u := mt_170) rfl mo_170 mb_170
set_option maxRecDepth 100000 in
theorem mq_171 : mm_good 171 := mq_of (u := mt_171) rfl mo_171 mb_171
set_option maxRecDepth 100000 in
theorem mq_172 : mm_good 172 := mq_of (u := mt_172) rfl mo_172 mb_172
set_option maxRecDepth 100000 in
theorem mq_173 : mm_good 173 := mq_of (u := mt_173) rfl mo_173 mb_173
set_option maxRecDepth 100000 in
theorem mq_174 : mm_good 174 := mq_of (u := mt_174) rfl mo_174 mb_174
set_option maxRecDepth 100000 in
theorem mq_175 : mm_good 175 := mq_of (u := mt_175) rfl mo_175 mb_175
set_option maxRecDepth 100000 in
theorem mq_176 : mm_good 176 := mq_of (u := mt_176) rfl mo_176 mb_176
set_option maxRecDepth 100000 in
theorem mq_177 : mm_good 177 := mq_of (u := mt_177) rfl mo_177 mb_177
set_option maxRecDepth 100000 in
theorem mq_178 : mm_good 178 := mq_of (u := mt_178) rfl mo_178 mb_178
set_option maxRecDepth 100000 in
theorem mq_179 : mm_good 179 := mq_of (u := mt_179) rfl mo_179 mb_179
set_option maxRecDepth 100000 in
theorem mq_180 : mm_good 180 := mq_of (u := mt_180) rfl mo_180 mb_180
set_option maxRecDepth 100000 in
theorem mq_181 : mm_good 181 := mq_of (u := mt_181) rfl mo_181 mb_181
set_option maxRecDepth 100000 in
theorem mq_182 : mm_good 182 := mq_of (u := mt_182) rfl mo_182 mb_182
set_option maxRecDepth 100000 in
theorem mq_183 : mm_good 183 := mq_of (u := mt_183) rfl mo_183 mb_183
set_option maxRecDepth 100000 in
theorem mq_184 : mm_good 184 := mq_of (u := mt_184) rfl mo_184 mb_184
set_option maxRecDepth 100000 in
theorem mq_185 : mm_good 185 := mq_of (u := mt_185) rfl mo_185 mb_185
set_option maxRecDepth 100000 in
theorem mq_186 : mm_good 186 := mq_of (u := mt_186) rfl mo_186 mb_186
set_option maxRecDepth 100000 in
theorem mq_187 : mm_good 187 := mq_of (u := mt_187) rfl mo_187 mb_187
set_option maxRecDepth 100000 in
theorem mq_188 : mm_good 188 := mq_of (u := mt_188) rfl mo_188 mb_188
set_option maxRecDepth 100000 in
theorem mq_189 : mm_good 189 := mq_of (u := mt_189) rfl mo_189 mb_189
set_option maxRecDepth 100000 in
theorem mq_190 : mm_good 190 := mq_of (u := mt_190) rfl mo_190 mb_190
set_option maxRecDepth 100000 in
theorem mq_191 : mm_good 191 := mq_of (u := mt_191) rfl mo_191 mb_191
set_option maxRecDepth 100000 in
theorem mq_192 : mm_good 192 := mq_of (u := mt_192) rfl mo_192 mb_192
set_option maxRecDepth 100000 in
theorem mq_193 : mm_good 193 := mq_of (u := mt_193) rfl mo_193 mb_193
set_option maxRecDepth 100000 in
theorem mq_194 : mm_good 194 := mq_of (u := mt_194) rfl mo_194 mb_194
set_option maxRecDepth 100000 in
theorem mq_195 : mm_good 195 := mq_of (u := mt_195) rfl mo_195 mb_195
set_option maxRecDepth 100000 in
theorem mq_196 : mm_good 196 := mq_of (u := mt_196) rfl mo_196 mb_196
set_option maxRecDepth 100000 in
theorem mq_197 : mm_good 197 := mq_of (u := mt_197) rfl mo_197 mb_197
set_option maxRecDepth 100000 in
theorem mq_198 : mm_good 198 := mq_of (u := mt_198) rfl mo_198 mb_198
set_option maxRecDepth 100000 in
theorem mq_199 : mm_good 199 := mq_of (u := mt_199) rfl mo_199 mb_199
set_option maxRecDepth 100000 in
theorem mq_200 : mm_good 200 := mq_of (u := mt_200) rfl mo_200 mb_200
set_option maxRecDepth 100000 in
theorem mq_201 : mm_good 201 := mq_of (u := mt_201) rfl mo_201 mb_201
set_option maxRecDepth 100000 in
theorem mq_202 : mm_good 202 := mq_of (u := mt_202) rfl mo_202 mb_202
set_option maxRecDepth 100000 in
theorem mq_203 : mm_good 203 := mq_of (u := mt_203) rfl mo_203 mb_203
set_option maxRecDepth 100000 in
theorem mq_204 : mm_good 204 := mq_of (u := mt_204) rfl mo_204 mb_204
set_option maxRecDepth 100000 in
theorem mq_205 : mm_good 205 := mq_of (u := mt_205) rfl mo_205 mb_205
set_option maxRecDepth 100000 in
theorem mq_206 : mm_good 206 := mq_of (u := mt_206) rfl mo_206 mb_206
set_option maxRecDepth 100000 in
theorem mq_207 : mm_good 207 := mq_of (u := mt_207) rfl mo_207 mb_207
set_option maxRecDepth 100000 in
theorem mq_208 : mm_good 208 := mq_of (u := mt_208) rfl mo_208 mb_208
set_option maxRecDepth 100000 in
theorem mq_209 : mm_good 209 := mq_of (u := mt_209) rfl mo_209 mb_209
set_option maxRecDepth 100000 in
theorem mq_210 : mm_good 210 := mq_of (u := mt_210) rfl mo_210 mb_210
set_option maxRecDepth 100000 in
theorem mq_211 : mm_good 211 := mq_of (u := mt_211) rfl mo_211 mb_211
set_option maxRecDepth 100000 in
theorem mq_212 : mm_good 212 := mq_of (u := mt_212) rfl mo_212 mb_212
set_option maxRecDepth 100000 in
theorem mq_213 : mm_good 213 := mq_of (u := mt_213) rfl mo_213 mb_213
set_option maxRecDepth 100000 in
theorem mq_214 : mm_good 214 := mq_of (u := mt_214) rfl mo_214 mb_214
set_option maxRecDepth 100000 in
theorem mq_215 : mm_good 215 := mq_of (u := mt_215) rfl mo_215 mb_215
set_option maxRecDepth 100000 in
theorem mq_216 : mm_good 216 := mq_of (u := mt_216) rfl mo_216 mb_216
set_option maxRecDepth 100000 in
theorem mq_217 : mm_good 217 := mq_of (u := mt_217) rfl mo_217 mb_217
set_option maxRecDepth 100000 in
theorem mq_218 : mm_good 218 := mq_of (u := mt_218) rfl mo_218 mb_218
set_option maxRecDepth 100000 in
theorem mq_219 : mm_good 219 := mq_of (u := mt_219) rfl mo_219 mb_219
set_option maxRecDepth 100000 in
theorem mq_220 : mm_good 220 := mq_of (u := mt_220) rfl mo_220 mb_220
set_option maxRecDepth 100000 in
theorem mq_221 : mm_good 221 := mq_of (u := mt_221) rfl mo_221 mb_221
set_option maxRecDepth 100000 in
theorem mq_222 : mm_good 222 := mq_of (u := mt_222) rfl mo_222 mb_222
set_option maxRecDepth 100000 in
theorem mq_223 : mm_good 223 := mq_of (u := mt_223) rfl mo_223 mb_223
set_option maxRecDepth 100000 in
theorem mq_224 : mm_good 224 := mq_of (u := mt_224) rfl mo_224 mb_224
set_option maxRecDepth 100000 in
theorem mq_225 : mm_good 225 := mq_of (u := mt_225) rfl mo_225 mb_225
set_option maxRecDepth 100000 in
theorem mq_226 : mm_good 226 := mq_of (u := mt_226) rfl mo_226 mb_226
set_option maxRecDepth 100000 in
theorem mq_227 : mm_good 227 := mq_of (u := mt_227) rfl mo_227 mb_227
set_option maxRecDepth 100000 in
theorem mq_228 : mm_good 228 := mq_of (u := mt_228) rfl mo_228 mb_228
set_option maxRecDepth 100000 in
theorem mq_229 : mm_good 229 := mq_of (u := mt_229) rfl mo_229 mb_229
set_option maxRecDepth 100000 in
theorem mq_230 : mm_good 230 := mq_of (u := mt_230) rfl mo_230 mb_230
set_option maxRecDepth 100000 in
theorem mq_231 : mm_good 231 := mq_of (u := mt_231) rfl mo_231 mb_231
set_option maxRecDepth 100000 in
theorem mq_232 : mm_good 232 := mq_of (u := mt_232) rfl mo_232 mb_232
set_option maxRecDepth 100000 in
theorem mq_233 : mm_good 233 := mq_of (u := mt_233) rfl mo_233 mb_233
set_option maxRecDepth 100000 in
theorem mq_234 : mm_good 234 := mq_of (u := mt_234) rfl mo_234 mb_234
set_option maxRecDepth 100000 in
theorem mq_235 : mm_good 235 := mq_of (u := mt_235) rfl mo_235 mb_235
set_option maxRecDepth 100000 in
theorem mq_236 : mm_good 236 := mq_of (u := mt_236) rfl mo_236 mb_236
set_option maxRecDepth 100000 in
theorem mq_237 : mm_good 237 := mq_of (u := mt_237) rfl mo_237 mb_237
set_option maxRecDepth 100000 in
theorem mq_238 : mm_good 238 := mq_of (u := mt_238) rfl mo_238 mb_238
set_option maxRecDepth 100000 in
theorem mq_239 : mm_good 239 := mq_of (u := mt_239) rfl mo_239 mb_239
set_option maxRecDepth 100000 in
theorem mq_240 : mm_good 240 := mq_of (u := mt_240) rfl mo_240 mb_240
set_option maxRecDepth 100000 in
theorem mq_241 : mm_good 241 := mq_of (u := mt_241) rfl mo_241 mb_241
set_option maxRecDepth 100000 in
theorem mq_242 : mm_good 242 := mq_of (u := mt_242) rfl mo_242 mb_242
set_option maxRecDepth 100000 in
theorem mq_243 : mm_good 243 := mq_of (u := mt_243) rfl mo_243 mb_243
set_option maxRecDepth 100000 in
theorem mq_244 : mm_good 244 := mq_of (u := mt_244) rfl mo_244 mb_244
set_option maxRecDepth 100000 in
theorem mq_245 : mm_good 245 := mq_of (u := mt_245) rfl mo_245 mb_245
set_option maxRecDepth 100000 in
theorem mq_246 : mm_good 246 := mq_of (u := mt_246) rfl mo_246 mb_246
set_option maxRecDepth 100000 in
theorem mq_247 : mm_good 247 := mq_of (u := mt_247) rfl mo_247 mb_247
set_option maxRecDepth 100000 in
theorem mq_248 : mm_good 248 := mq_of (u := mt_248) rfl mo_248 mb_248
set_option maxRecDepth 100000 in
theorem mq_249 : mm_good 249 := mq_of (u := mt_249) rfl mo_249 mb_249
set_option maxRecDepth 100000 in
theorem mq_250 : mm_good 250 := mq_of (u := mt_250) rfl mo_250 mb_250
set_option maxRecDepth 100000 in
theorem mq_251 : mm_good 251 := mq_of (u := mt_251) rfl mo_251 mb_251
set_option maxRecDepth 100000 in
theorem mq_252 : mm_good 252 := mq_of (u := mt_252) rfl mo_252 mb_252
set_option maxRecDepth 100000 in
theorem mq_253 : mm_good 253 := mq_of (u := mt_253) rfl mo_253 mb_253
set_option maxRecDepth 100000 in
theorem mq_254 : mm_good 254 := mq_of (u := mt_254) rfl mo_254 mb_254
set_option maxRecDepth 100000 in
theorem mq_255 : mm_good 255 := mq_of (u := mt_255) rfl mo_255 mb_255
set_option maxRecDepth 100000 in
theorem mq_256 : mm_good 256 := mq_of (u := mt_256) rfl mo_256 mb_256
set_option maxRecDepth 100000 in
theorem mq_257 : mm_good 257 := mq_of (u := mt_257) rfl mo_257 mb_257
set_option maxRecDepth 100000 in
theorem mq_258 : mm_good 258 := mq_of (u := mt_258) rfl mo_258 mb_258
set_option maxRecDepth 100000 in
theorem mq_259 : mm_good 259 := mq_of (u := mt_259) rfl mo_259 mb_259
set_option maxRecDepth 100000 in
theorem mq_260 : mm_good 260 := mq_of (u := mt_260) rfl mo_260 mb_260
set_option maxRecDepth 100000 in
theorem mq_261 : mm_good 261 := mq_of (u := mt_261) rfl mo_261 mb_261
set_option maxRecDepth 100000 in
theorem mq_262 : mm_good 262 := mq_of (u := mt_262) rfl mo_262 mb_262
set_option maxRecDepth 100000 in
theorem mq_263 : mm_good 263 := mq_of (u := mt_263) rfl mo_263 mb_263
set_option maxRecDepth 100000 in
theorem mq_264 : mm_good 264 := mq_of (u := mt_264) rfl mo_264 mb_264
set_option maxRecDepth 100000 in
theorem mq_265 : mm_good 265 := mq_of (u := mt_265) rfl mo_265 mb_265
set_option maxRecDepth 100000 in
theorem mq_266 : mm_good 266 := mq_of (u := mt_266) rfl mo_266 mb_266
set_option maxRecDepth 100000 in
theorem mq_267 : mm_good 267 := mq_of (u := mt_267) rfl mo_267 mb_267
set_option maxRecDepth 100000 in
theorem mq_268 : mm_good 268 := mq_of (u := mt_268) rfl mo_268 mb_268
set_option maxRecDepth 100000 in
theorem mq_269 : mm_good 269 := mq_of (u := mt_269) rfl mo_269 mb_269
set_option maxRecDepth 100000 in
theorem mq_270 : mm_good 270 := mq_of (u := mt_270) rfl mo_270 mb_270
set_option maxRecDepth 100000 in
theorem mq_271 : mm_good 271 := mq_of (u := mt_271) rfl mo_271 mb_271
set_option maxRecDepth 100000 in
theorem mq_272 : mm_good 272 := mq_of (u := mt_272) rfl mo_272 mb_272
set_option maxRecDepth 100000 in
theorem mq_273 : mm_good 273 := mq_of (u := mt_273) rfl mo_273 mb_273
set_option maxRecDepth 100000 in
theorem mq_274 : mm_good 274 := mq_of (u := mt_274) rfl mo_274 mb_274
set_option maxRecDepth 100000 in
theorem mq_275 : mm_good 275 := mq_of (u := mt_275) rfl mo_275 mb_275
set_option maxRecDepth 100000 in
theorem mq_276 : mm_good 276 := mq_of (u := mt_276) rfl mo_276 mb_276
set_option maxRecDepth 100000 in
theorem mq_277 : mm_good 277 := mq_of (u := mt_277) rfl mo_277 mb_277
set_option maxRecDepth 100000 in
theorem mq_278 : mm_good 278 := mq_of (u := mt_278) rfl mo_278 mb_278
set_option maxRecDepth 100000 in
theorem mq_279 : mm_good 279 := mq_of (u := mt_279) rfl mo_279 mb_279
set_option maxRecDepth 100000 in
theorem mq_280 : mm_good 280 := mq_of (u := mt_280) rfl mo_280 mb_280
set_option maxRecDepth 100000 in
theorem mq_281 : mm_good 281 := mq_of (u := mt_281) rfl mo_281 mb_281
set_option maxRecDepth 100000 in
theorem mq_282 : mm_good 282 := mq_of (u := mt_282) rfl mo_282 mb_282
set_option maxRecDepth 100000 in
theorem mq_283 : mm_good 283 := mq_of (u := mt_283) rfl mo_283 mb_283
set_option maxRecDepth 100000 in
theorem mq_284 : mm_good 284 := mq_of (u := mt_284) rfl mo_284 mb_284
set_option maxRecDepth 100000 in
theorem mq_285 : mm_good 285 := mq_of (u := mt_285) rfl mo_285 mb_285
set_option maxRecDepth 100000 in
theorem mq_286 : mm_good 286 := mq_of (u := mt_286) rfl mo_286 mb_286
set_option maxRecDepth 100000 in
theorem mq_287 : mm_good 287 := mq_of (u := mt_287) rfl mo_287 mb_287
set_option maxRecDepth 100000 in
theorem mq_288 : mm_good 288 := mq_of (u := mt_288) rfl mo_288 mb_288
set_option maxRecDepth 100000 in
theorem mq_289 : mm_good 289 := mq_of (u := mt_289) rfl mo_289 mb_289
set_option maxRecDepth 100000 in
theorem mq_290 : mm_good 290 := mq_of (u := mt_290) rfl mo_290 mb_290
set_option maxRecDepth 100000 in
theorem mq_291 : mm_good 291 := mq_of (u := mt_291) rfl mo_291 mb_291
set_option maxRecDepth 100000 in
theorem mq_292 : mm_good 292 := mq_of (u := mt_292) rfl mo_292 mb_292
set_option maxRecDepth 100000 in
theorem mq_293 : mm_good 293 := mq_of (u := mt_293) rfl mo_293 mb_293
set_option maxRecDepth 100000 in
theorem mq_294 : mm_good 294 := mq_of (u := mt_294) rfl mo_294 mb_294
set_option maxRecDepth 100000 in
theorem mq_295 : mm_good 295 := mq_of (u := mt_295) rfl mo_295 mb_295
set_option maxRecDepth 100000 in
theorem mq_296 : mm_good 296 := mq_of (u := mt_296) rfl mo_296 mb_296
set_option maxRecDepth 100000 in
theorem mq_297 : mm_good 297 := mq_of (u := mt_297) rfl mo_297 mb_297
set_option maxRecDepth 100000 in
theorem mq_298 : mm_good 298 := mq_of (u := mt_298) rfl mo_298 mb_298
set_option maxRecDepth 100000 in
theorem mq_299 : mm_good 299 := mq_of (u := mt_299) rfl mo_299 mb_299
set_option maxRecDepth 100000 in
theorem mq_300 : mm_good 300 := mq_of (u := mt_300) rfl mo_300 mb_300
set_option maxRecDepth 100000 in
theorem mq_301 : mm_good 301 := mq_of (u := mt_301) rfl mo_301 mb_301
set_option maxRecDepth 100000 in
theorem mq_302 : mm_good 302 := mq_of (u := mt_302) rfl mo_302 mb_302
set_option maxRecDepth 100000 in
theorem mq_303 : mm_good 303 := mq_of (u := mt_303) rfl mo_303 mb_303
set_option maxRecDepth 100000 in
theorem mq_304 : mm_good 304 := mq_of (u := mt_304) rfl mo_304 mb_304
set_option maxRecDepth 100000 in
theorem mq_305 : mm_good 305 := mq_of (u := mt_305) rfl mo_305 mb_305
set_option maxRecDepth 100000 in
theorem mq_306 : mm_good 306 := mq_of (u := mt_306) rfl mo_306 mb_306
set_option maxRecDepth 100000 in
theorem mq_307 : mm_good 307 := mq_of (u := mt_307) rfl mo_307 mb_307
set_option maxRecDepth 100000 in
theorem mq_308 : mm_good 308 := mq_of (u := mt_308) rfl mo_308 mb_308
set_option maxRecDepth 100000 in
theorem mq_309 : mm_good 309 := mq_of (u := mt_309) rfl mo_309 mb_309
set_option maxRecDepth 100000 in
theorem mq_310 : mm_good 310 := mq_of (u := mt_310) rfl mo_310 mb_310
set_option maxRecDepth 100000 in
theorem mq_311 : mm_good 311 := mq_of (u := mt_311) rfl mo_311 mb_311
set_option maxRecDepth 100000 in
theorem mq_312 : mm_good 312 := mq_of (u := mt_312) rfl mo_312 mb_312
set_option maxRecDepth 100000 in
theorem mq_313 : mm_good 313 := mq_of (u := mt_313) rfl mo_313 mb_313
set_option maxRecDepth 100000 in
theorem mq_314 : mm_good 314 := mq_of (u := mt_314) rfl mo_314 mb_314
set_option maxRecDepth 100000 in
theorem mq_315 : mm_good 315 := mq_of (u := mt_315) rfl mo_315 mb_315
set_option maxRecDepth 100000 in
theorem mq_316 : mm_good 316 := mq_of (u := mt_316) rfl mo_316 mb_316
set_option maxRecDepth 100000 in
theorem mq_317 : mm_good 317 := mq_of (u := mt_317) rfl mo_317 mb_317
set_option maxRecDepth 100000 in
theorem mq_318 : mm_good 318 := mq_of (u := mt_318) rfl mo_318 mb_318
set_option maxRecDepth 100000 in
theorem mq_319 : mm_good 319 := mq_of (u := mt_319) rfl mo_319 mb_319
set_option maxRecDepth 100000 in
theorem mq_320 : mm_good 320 := mq_of (u := mt_320) rfl mo_320 mb_320
set_option maxRecDepth 100000 in
theorem mq_321 : mm_good 321 := mq_of (u := mt_321) rfl mo_321 mb_321
set_option maxRecDepth 100000 in
theorem mq_322 : mm_good 322 := mq_of (u := mt_322) rfl mo_322 mb_322
set_option maxRecDepth 100000 in
theorem mq_323 : mm_good 323 := mq_of (u := mt_323) rfl mo_323 mb_323
set_option maxRecDepth 100000 in
theorem mq_324 : mm_good 324 := mq_of (u := mt_324) rfl mo_324 mb_324
set_option maxRecDepth 100000 in
theorem mq_325 : mm_good 325 := mq_of (u := mt_325) rfl mo_325 mb_325
set_option maxRecDepth 100000 in
theorem mq_326 : mm_good 326 := mq_of (u := mt_326) rfl mo_326 mb_326
set_option maxRecDepth 100000 in
theorem mq_327 : mm_good 327 := mq_of (u := mt_327) rfl mo_327 mb_327
set_option maxRecDepth 100000 in
theorem mq_328 : mm_good 328 := mq_of (u := mt_328) rfl mo_328 mb_328
set_option maxRecDepth 100000 in
theorem mq_329 : mm_good 329 := mq_of (u := mt_329) rfl mo_329 mb_329
set_option maxRecDepth 100000 in
theorem mq_330 : mm_good 330 := mq_of (u := mt_330) rfl mo_330 mb_330
set_option maxRecDepth 100000 in
theorem mq_331 : mm_good 331 := mq_of (u := mt_331) rfl mo_331 mb_331
set_option maxRecDepth 100000 in
theorem mq_332 : mm_good 332 := mq_of (u := mt_332) rfl mo_332 mb_332
set_option maxRecDepth 100000 in
theorem mq_333 : mm_good 333 := mq_of (u := mt_333) rfl mo_333 mb_333
set_option maxRecDepth 100000 in
theorem mq_334 : mm_good 334 := mq_of (u := mt_334) rfl mo_334 mb_334
set_option maxRecDepth 100000 in
theorem mq_335 : mm_good 335 := mq_of (u := mt_335) rfl mo_335 mb_335
set_option maxRecDepth 100000 in
theorem mq_336 : mm_good 336 := mq_of (u := mt_336) rfl mo_336 mb_336
set_option maxRecDepth 100000 in
theorem mq_337 : mm_good 337 := mq_of (u := mt_337) rfl mo_337 mb_337
set_option maxRecDepth 100000 in
theorem mq_338 : mm_good 338 := mq_of (u := mt_338) rfl mo_338 mb_338
set_option maxRecDepth 100000 in
theorem mq_339 : mm_good 339 := mq_of (u := mt_339) rfl mo_339 mb_339
set_option maxRecDepth 100000 in
theorem mq_340 : mm_good 340 := mq_of (u := mt_340) rfl mo_340 mb_340
set_option maxRecDepth 100000 in
theorem mq_341 : mm_good 341 := mq_of (u := mt_341) rfl mo_341 mb_341
set_option maxRecDepth 100000 in
theorem mq_342 : mm_good 342 := mq_of (u := mt_342) rfl mo_342 mb_342
set_option maxRecDepth 100000 in
theorem mq_343 : mm_good 343 := mq_of (u := mt_343) rfl mo_343 mb_343
set_option maxRecDepth 100000 in
theorem mq_344 : mm_good 344 := mq_of (u := mt_344) rfl mo_344 mb_344
set_option maxRecDepth 100000 in
theorem mq_345 : mm_good 345 := mq_of (u := mt_345) rfl mo_345 mb_345
set_option maxRecDepth 100000 in
theorem mq_346 : mm_good 346 := mq_of (u := mt_346) rfl mo_346 mb_346
set_option maxRecDepth 100000 in
theorem mq_347 : mm_good 347 := mq_of (u := mt_347) rfl mo_347 mb_347
set_option maxRecDepth 100000 in
theorem mq_348 : mm_good 348 := mq_of (u := mt_348) rfl mo_348 mb_348
set_option maxRecDepth 100000 in
theorem mq_349 : mm_good 349 := mq_of (u := mt_349) rfl mo_349 mb_349
set_option maxRecDepth 100000 in
theorem mq_350 : mm_good 350 := mq_of (u := mt_350) rfl mo_350 mb_350
set_option maxRecDepth 100000 in
theorem mq_351 : mm_good 351 := mq_of (u := mt_351) rfl mo_351 mb_351
set_option maxRecDepth 100000 in
theorem mq_352 : mm_good 352 := mq_of (u := mt_352) rfl mo_352 mb_352
set_option maxRecDepth 100000 in
theorem mq_353 : mm_good 353 := mq_of (u := mt_353) rfl mo_353 mb_353
set_option maxRecDepth 100000 in
theorem mq_354 : mm_good 354 := mq_of (u := mt_354) rfl mo_354 mb_354
set_option maxRecDepth 100000 in
theorem mq_355 : mm_good 355 := mq_of (u := mt_355) rfl mo_355 mb_355
set_option maxRecDepth 100000 in
theorem mq_356 : mm_good 356 := mq_of (u := mt_356) rfl mo_356 mb_356
set_option maxRecDepth 100000 in
theorem mq_357 : mm_good 357 := mq_of (u := mt_357) rfl mo_357 mb_357
set_option maxRecDepth 100000 in
theorem mq_358 : mm_good 358 := mq_of (u := mt_358) rfl mo_358 mb_358
set_option maxRecDepth 100000 in
theorem mq_359 : mm_good 359 := mq_of (u := mt_359) rfl mo_359 mb_359
set_option maxRecDepth 100000 in
theorem mq_360 : mm_good 360 := mq_of (u := mt_360) rfl mo_360 mb_360
set_option maxRecDepth 100000 in
theorem mq_361 : mm_good 361 := mq_of (u := mt_361) rfl mo_361 mb_361
set_option maxRecDepth 100000 in
theorem mq_362 : mm_good 362 := mq_of (u := mt_362) rfl mo_362 mb_362
set_option maxRecDepth 100000 in
theorem mq_363 : mm_good 363 := mq_of (u := mt_363) rfl mo_363 mb_363
set_option maxRecDepth 100000 in
theorem mq_364 : mm_good 364 := mq_of (u := mt_364) rfl mo_364 mb_364
set_option maxRecDepth 100000 in
theorem mq_365 : mm_good 365 := mq_of (u := mt_365) rfl mo_365 mb_365
set_option maxRecDepth 100000 in
theorem mq_366 : mm_good 366 := mq_of (u := mt_366) rfl mo_366 mb_366
set_option maxRecDepth 100000 in
theorem mq_367 : mm_good 367 := mq_of (u := mt_367) rfl mo_367 mb_367
set_option maxRecDepth 100000 in
theorem mq_368 : mm_good 368 := mq_of (u := mt_368) rfl mo_368 mb_368
set_option maxRecDepth 100000 in
theorem mq_369 : mm_good 369 := mq_of (u := mt_369) rfl mo_369 mb_369
set_option maxRecDepth 100000 in
theorem mq_370 : mm_good 370 := mq_of (u := mt_370) rfl mo_370 mb_370
set_option maxRecDepth 100000 in
theorem mq_371 : mm_good 371 := mq_of (u := mt_371) rfl mo_371 mb_371
set_option maxRecDepth 100000 in
theorem mq_372 : mm_good 372 := mq_of (u := mt_372) rfl mo_372 mb_372
set_option maxRecDepth 100000 in
theorem mq_373 : mm_good 373 := mq_of (u := mt_373) rfl mo_373 mb_373
set_option maxRecDepth 100000 in
theorem mq_374 : mm_good 374 := mq_of (u := mt_374) rfl mo_374 mb_374
set_option maxRecDepth 100000 in
theorem mq_375 : mm_good 375 := mq_of (u := mt_375) rfl mo_375 mb_375
set_option maxRecDepth 100000 in
theorem mq_376 : mm_good 376 := mq_of (u := mt_376) rfl mo_376 mb_376
set_option maxRecDepth 100000 in
theorem mq_377 : mm_good 377 := mq_of (u := mt_377) rfl mo_377 mb_377
set_option maxRecDepth 100000 in
theorem mq_378 : mm_good 378 := mq_of (u := mt_378) rfl mo_378 mb_378
set_option maxRecDepth 100000 in
theorem mq_379 : mm_good 379 := mq_of (u := mt_379) rfl mo_379 mb_379
set_option maxRecDepth 100000 in
theorem mq_380 : mm_good 380 := mq_of (u := mt_380) rfl mo_380 mb_380
set_option maxRecDepth 100000 in
theorem mq_381 : mm_good 381 := mq_of (u := mt_381) rfl mo_381 mb_381
set_option maxRecDepth 100000 in
theorem mq_382 : mm_good 382 := mq_of (u := mt_382) rfl mo_382 mb_382
set_option maxRecDepth 100000 in
theorem mq_383 : mm_good 383 := mq_of (u := mt_383) rfl mo_383 mb_383
set_option maxRecDepth 100000 in
theorem mq_384 : mm_good 384 := mq_of (u := mt_384) rfl mo_384 mb_384
set_option maxRecDepth 100000 in
theorem mq_385 : mm_good 385 := mq_of (u := mt_385) rfl mo_385 mb_385
set_option maxRecDepth 100000 in
theorem mq_386 : mm_good 386 := mq_of (u := mt_386) rfl mo_386 mb_386
set_option maxRecDepth 100000 in
theorem mq_387 : mm_good 387 := mq_of (u := mt_387) rfl mo_387 mb_387
set_option maxRecDepth 100000 in
theorem mq_388 : mm_good 388 := mq_of (u := mt_388) rfl mo_388 mb_388
set_option maxRecDepth 100000 in
theorem mq_389 : mm_good 389 := mq_of (u := mt_389) rfl mo_389 mb_389
set_option maxRecDepth 100000 in
theorem mq_390 : mm_good 390 := mq_of (u := mt_390) rfl mo_390 mb_390
theorem mr_0 : ∀ a, a < 0 → mm_good a := lt_0
theorem mr_1 : ∀ a, a < 1 → mm_good a := lt_s mr_0 mq_0
theorem mr_2 : ∀ a, a < 2 → mm_good a := lt_s mr_1 mq_1
theorem mr_3 : ∀ a, a < 3 → mm_good a := lt_s mr_2 mq_2
theorem mr_4 : ∀ a, a < 4 → mm_good a := lt_s mr_3 mq_3
theorem mr_5 : ∀ a, a < 5 → mm_good a := lt_s mr_4 mq_4
theorem mr_6 : ∀ a, a < 6 → mm_good a := lt_s mr_5 mq_5
theorem mr_7 : ∀ a, a < 7 → mm_good a := lt_s mr_6 mq_6
theorem mr_8 : ∀ a, a < 8 → mm_good a := lt_s mr_7 mq_7
theorem mr_9 : ∀ a, a < 9 → mm_good a := lt_s mr_8 mq_8
theorem mr_10 : ∀ a, a < 10 → mm_good a := lt_s mr_9 mq_9
theorem mr_11 : ∀ a, a < 11 → mm_good a := lt_s mr_10 mq_10
theorem mr_12 : ∀ a, a < 12 → mm_good a := lt_s mr_11 mq_11
theorem mr_13 : ∀ a, a < 13 → mm_good a := lt_s mr_12 mq_12
theorem mr_14 : ∀ a, a < 14 → mm_good a := lt_s mr_13 mq_13
theorem mr_15 : ∀ a, a < 15 → mm_good a := lt_s mr_14 mq_14
theorem mr_16 : ∀ a, a < 16 → mm_good a := lt_s mr_15 mq_15
theorem mr_17 : ∀ a, a < 17 → mm_good a := lt_s mr_16 mq_16
theorem mr_18 : ∀ a, a < 18 → mm_good a := lt_s mr_17 mq_17
theorem mr_19 : ∀ a, a < 19 → mm_good a := lt_s mr_18 mq_18
theorem mr_20 : ∀ a, a < 20 → mm_good a := lt_s mr_19 mq_19
theorem mr_21 : ∀ a, a < 21 → mm_good a := lt_s mr_20 mq_20
theorem mr_22 : ∀ a, a < 22 → mm_good a := lt_s mr_21 mq_21
theorem mr_23 : ∀ a, a < 23 → mm_good a := lt_s mr_22 mq_22
theorem mr_24 : ∀ a, a < 24 → mm_good a := lt_s mr_23 mq_23
theorem mr_25 : ∀ a, a < 25 → mm_good a := lt_s mr_24 mq_24
theorem mr_26 : ∀ a, a < 26 → mm_good a := lt_s mr_25 mq_25
theorem mr_27 : ∀ a, a < 27 → mm_good a := lt_s mr_26 mq_26
theorem mr_28 : ∀ a, a < 28 → mm_good a := lt_s mr_27 mq_27
theorem mr_29 : ∀ a, a < 29 → mm_good a := lt_s mr_28 mq_28
theorem mr_30 : ∀ a, a < 30 → mm_good a := lt_s mr_29 mq_29
theorem mr_31 : ∀ a, a < 31 → mm_good a := lt_s mr_30 mq_30
theorem mr_32 : ∀ a, a < 32 → mm_good a := lt_s mr_31 mq_31
theorem mr_33 : ∀ a, a < 33 → mm_good a := lt_s mr_32 mq_32
theorem mr_34 : ∀ a, a < 34 → mm_good a := lt_s mr_33 mq_33
theorem mr_35 : ∀ a, a < 35 → mm_good a := lt_s mr_34 mq_34
theorem mr_36 : ∀ a, a < 36 → mm_good a := lt_s mr_35 mq_35
theorem mr_37 : ∀ a, a < 37 → mm_good a := lt_s mr_36 mq_36
theorem mr_38 : ∀ a, a < 38 → mm_good a := lt_s mr_37 mq_37
theorem mr_39 : ∀ a, a < 39 → mm_good a := lt_s mr_38 mq_38
theorem mr_40 : ∀ a, a < 40 → mm_good a := lt_s mr_39 mq_39
theorem mr_41 : ∀ a, a < 41 → mm_good a := lt_s mr_40 mq_40
theorem mr_42 : ∀ a, a < 42 → mm_good a := lt_s mr_41 mq_41
theorem mr_43 : ∀ a, a < 43 → mm_good a := lt_s mr_42 mq_42
theorem mr_44 : ∀ a, a < 44 → mm_good a := lt_s mr_43 mq_43
theorem mr_45 : ∀ a, a < 45 → mm_good a := lt_s mr_44 mq_44
theorem mr_46 : ∀ a, a < 46 → mm_good a := lt_s mr_45 mq_45
theorem mr_47 : ∀ a, a < 47 → mm_good a := lt_s mr_46 mq_46
theorem mr_48 : ∀ a, a < 48 → mm_good a := lt_s mr_47 mq_47
theorem mr_49 : ∀ a, a < 49 → mm_good a := lt_s mr_48 mq_48
theorem mr_50 : ∀ a, a < 50 → mm_good a := lt_s mr_49 mq_49
theorem mr_51 : ∀ a, a < 51 → mm_good a := lt_s mr_50 mq_50
theorem mr_52 : ∀ a, a < 52 → mm_good a := lt_s mr_51 mq_51
theorem mr_53 : ∀ a, a < 53 → mm_good a := lt_s mr_52 mq_52
theorem mr_54 : ∀ a, a < 54 → mm_good a := lt_s mr_53 mq_53
theorem mr_55 : ∀ a, a < 55 → mm_good a := lt_s mr_54 mq_54
theorem mr_56 : ∀ a, a < 56 → mm_good a := lt_s mr_55 mq_55
theorem mr_57 : ∀ a, a < 57 → mm_good a := lt_s mr_56 mq_56
theorem mr_58 : ∀ a, a < 58 → mm_good a := lt_s mr_57 mq_57
theorem mr_59 : ∀ a, a < 59 → mm_good a := lt_s mr_58 mq_58
theorem mr_60 : ∀ a, a < 60 → mm_good a := lt_s mr_59 mq_59
theorem mr_61 : ∀ a, a < 61 → mm_good a := lt_s mr_60 mq_60
theorem mr_62 : ∀ a, a < 62 → mm_good a := lt_s mr_61 mq_61
theorem mr_63 : ∀ a, a < 63 → mm_good a := lt_s mr_62 mq_62
theorem mr_64 : ∀ a, a < 64 → mm_good a := lt_s mr_63 mq_63
theorem mr_65 : ∀ a, a < 65 → mm_good a := lt_s mr_64 mq_64
theorem mr_66 : ∀ a, a < 66 → mm_good a := lt_s mr_65 mq_65
theorem mr_67 : ∀ a, a < 67 → mm_good a := lt_s mr_66 mq_66
theorem mr_68 : ∀ a, a < 68 → mm_good a := lt_s mr_67 mq_67
theorem mr_69 : ∀ a, a < 69 → mm_good a := lt_s mr_68 mq_68
theorem mr_70 : ∀ a, a < 70 → mm_good a := lt_s mr_69 mq_69
theorem mr_71 : ∀ a, a < 71 → mm_good a := lt_s mr_70 mq_70
theorem mr_72 : ∀ a, a < 72 → mm_good a := lt_s mr_71 mq_71
theorem mr_73 : ∀ a, a < 73 → mm_good a := lt_s mr_72 mq_72
theorem mr_74 : ∀ a, a < 74 → mm_good a := lt_s mr_73 mq_73
theorem mr_75 : ∀ a, a < 75 → mm_good a := lt_s mr_74 mq_74
theorem mr_76 : ∀ a, a < 76 → mm_good a := lt_s mr_75 mq_75
theorem mr_77 : ∀ a, a < 77 → mm_good a := lt_s mr_76 mq_76
theorem mr_78 : ∀ a, a < 78 → mm_good a := lt_s mr_77 mq_77
theorem mr_79 : ∀ a, a < 79 → mm_good a := lt_s mr_78 mq_78
theorem mr_80 : ∀ a, a < 80 → mm_good a := lt_s mr_79 mq_79
theorem mr_81 : ∀ a, a < 81 → mm_good a := lt_s mr_80 mq_80
theorem mr_82 : ∀ a, a < 82 → mm_good a := lt_s mr_81 mq_81
theorem mr_83 : ∀ a, a < 83 → mm_good a := lt_s mr_82 mq_82
theorem mr_84 : ∀ a, a < 84 → mm_good a := lt_s mr_83 mq_83
theorem mr_85 : ∀ a, a < 85 → mm_good a := lt_s mr_84 mq_84
theorem mr_86 : ∀ a, a < 86 → mm_good a := lt_s mr_85 mq_85
theorem mr_87 : ∀ a, a < 87 → mm_good a := lt_s mr_86 mq_86
theorem mr_88 : ∀ a, a < 88 → mm_good a := lt_s mr_87 mq_87
theorem mr_89 : ∀ a, a < 89 → mm_good a := lt_s mr_88 mq_88
theorem mr_90 : ∀ a, a < 90 → mm_good a := lt_s mr_89 mq_89
theorem mr_91 : ∀ a, a < 91 → mm_good a := lt_s mr_90 mq_90
theorem mr_92 : ∀ a, a < 92 → mm_good a := lt_s mr_91 mq_91
theorem mr_93 : ∀ a, a < 93 → mm_good a := lt_s mr_92 mq_92
theorem mr_94 : ∀ a, a < 94 → mm_good a := lt_s mr_93 mq_93
theorem mr_95 : ∀ a, a < 95 → mm_good a := lt_s mr_94 mq_94
theorem mr_96 : ∀ a, a < 96 → mm_good a := lt_s mr_95 mq_95
theorem mr_97 : ∀ a, a < 97 → mm_good a := lt_s mr_96 mq_96
theorem mr_98 : ∀ a, a < 98 → mm_good a := lt_s mr_97 mq_97
theorem mr_99 : ∀ a, a < 99 → mm_good a := lt_s mr_98 mq_98
theorem mr_100 : ∀ a, a < 100 → mm_good a := lt_s mr_99 mq_99
theorem mr_101 : ∀ a, a < 101 → mm_good a := lt_s mr_100 mq_100
theorem mr_102 : ∀ a, a < 102 → mm_good a := lt_s mr_101 mq_101
theorem mr_103 : ∀ a, a < 103 → mm_good a := lt_s mr_102 mq_102
theorem mr_104 : ∀ a, a < 104 → mm_good a := lt_s mr_103 mq_103
theorem mr_105 : ∀ a, a < 105 → mm_good a := lt_s mr_104 mq_104
theorem mr_106 : ∀ a, a < 106 → mm_good a := lt_s mr_105 mq_105
theorem mr_107 : ∀ a, a < 107 → mm_good a := lt_s mr_106 mq_106
theorem mr_108 : ∀ a, a < 108 → mm_good a := lt_s mr_107 mq_107
theorem mr_109 : ∀ a, a < 109 → mm_good a := lt_s mr_108 mq_108
theorem mr_110 : ∀ a, a < 110 → mm_good a := lt_s mr_109 mq_109
theorem mr_111 : ∀ a, a < 111 → mm_good a := lt_s mr_110 mq_110
theorem mr_112 : ∀ a, a < 112 → mm_good a := lt_s mr_111 mq_111
theorem mr_113 : ∀ a, a < 113 → mm_good a := lt_s mr_112 mq_112
theorem mr_114 : ∀ a, a < 114 → mm_good a := lt_s mr_113 mq_113
theorem mr_115 : ∀ a, a < 115 → mm_good a := lt_s mr_114 mq_114
theorem mr_116 : ∀ a, a < 116 → mm_good a := lt_s mr_115 mq_115
theorem mr_117 : ∀ a, a < 117 → mm_good a := lt_s mr_116 mq_116
theorem mr_118 : ∀ a, a < 118 → mm_good a := lt_s mr_117 mq_117
theorem mr_119 : ∀ a, a < 119 → mm_good a := lt_s mr_118 mq_118
theorem mr_120 : ∀ a, a < 120 → mm_good a := lt_s mr_119 mq_119
theorem mr_121 : ∀ a, a < 121 → mm_good a := lt_s mr_120 mq_120
theorem mr_122 : ∀ a, a < 122 → mm_good a := lt_s mr_121 mq_121
theorem mr_123 : ∀ a, a < 123 → mm_good a := lt_s mr_122 mq_122
theorem mr_124 : ∀ a, a < 124 → mm_good a := lt_s mr_123 mq_123
theorem mr_125 : ∀ a, a < 125 → mm_good a := lt_s mr_124 mq_124
theorem mr_126 : ∀ a, a < 126 → mm_good a := lt_s mr_125 mq_125
theorem mr_127 : ∀ a, a < 127 → mm_good a := lt_s mr_126 mq_126
theorem mr_128 : ∀ a, a < 128 → mm_good a := lt_s mr_127 mq_127
theorem mr_129 : ∀ a, a < 129 → mm_good a := lt_s mr_128 mq_128
theorem mr_130 : ∀ a, a < 130 → mm_good a := lt_s mr_129 mq_129
theorem mr_131 : ∀ a, a < 131 → mm_good a := lt_s mr_130 mq_130
theorem mr_132 : ∀ a, a < 132 → mm_good a := lt_s mr_131 mq_131
theorem mr_133 : ∀ a, a < 133 → mm_good a := lt_s mr_132 mq_132
theorem mr_134 : ∀ a, a < 134 → mm_good a := lt_s mr_133 mq_133
theorem mr_135 : ∀ a, a < 135 → mm_good a := lt_s mr_134 mq_134
theorem mr_136 : ∀ a, a < 136 → mm_good a := lt_s mr_135 mq_135
theorem mr_137 : ∀ a, a < 137 → mm_good a := lt_s mr_136 mq_136
theorem mr_138 : ∀ a, a < 138 → mm_good a := lt_s mr_137 mq_137
theorem mr_139 : ∀ a, a < 139 → mm_good a := lt_s mr_138 mq_138
theorem mr_140 : ∀ a, a < 140 → mm_good a := lt_s mr_139 mq_139
theorem mr_141 : ∀ a, a < 141 → mm_good a := lt_s mr_140 mq_140
theorem mr_142 : ∀ a, a < 142 → mm_good a := lt_s mr_141 mq_141
theorem mr_143 : ∀ a, a < 143 → mm_good a := lt_s mr_142 mq_142
theorem mr_144 : ∀ a, a < 144 → mm_good a := lt_s mr_143 mq_143
theorem mr_145 : ∀ a, a < 145 → mm_good a := lt_s mr_144 mq_144
theorem mr_146 : ∀ a, a < 146 → mm_good a := lt_s mr_145 mq_145
theorem mr_147 : ∀ a, a < 147 → mm_good a := lt_s mr_146 mq_146
theorem mr_148 : ∀ a, a < 148 → mm_good a := lt_s mr_147 mq_147
theorem mr_149 : ∀ a, a < 149 → mm_good a := lt_s mr_148 mq_148
theorem mr_150 : ∀ a, a < 150 → mm_good a := lt_s mr_149 mq_149
theorem mr_151 : ∀ a, a < 151 → mm_good a := lt_s mr_150 mq_150
theorem mr_152 : ∀ a, a < 152 → mm_good a := lt_s mr_151 mq_151
theorem mr_153 : ∀ a, a < 153 → mm_good a := lt_s mr_152 mq_152
theorem mr_154 : ∀ a, a < 154 → mm_good a := lt_s mr_153 mq_153
theorem mr_155 : ∀ a, a < 155 → mm_good a := lt_s mr_154 mq_154
theorem mr_156 : ∀ a, a < 156 → mm_good a := lt_s mr_155 mq_155
theorem mr_157 : ∀ a, a < 157 → mm_good a := lt_s mr_156 mq_156
theorem mr_158 : ∀ a, a < 158 → mm_good a := lt_s mr_157 mq_157
theorem mr_159 : ∀ a, a < 159 → mm_good a := lt_s mr_158 mq_158
theorem mr_160 : ∀ a, a < 160 → mm_good a := lt_s mr_159 mq_159
theorem mr_161 : ∀ a, a < 161 → mm_good a := lt_s mr_160 mq_160
theorem mr_162 : ∀ a, a < 162 → mm_good a := lt_s mr_161 mq_161
theorem mr_163 : ∀ a, a < 163 → mm_good a := lt_s mr_162 mq_162
theorem mr_164 : ∀ a, a < 164 → mm_good a := lt_s mr_163 mq_163
theorem mr_165 : ∀ a, a < 165 → mm_good a := lt_s mr_164 mq_164
theorem mr_166 : ∀ a, a < 166 → mm_good a := lt_s mr_165 mq_165
theorem mr_167 : ∀ a, a < 167 → mm_good a := lt_s mr_166 mq_166
theorem mr_168 : ∀ a, a < 168 → mm_good a := lt_s mr_167 mq_167
theorem mr_169 : ∀ a, a < 169 → mm_good a := lt_s mr_168 mq_168
theorem mr_170 : ∀ a, a < 170 → mm_good a := lt_s mr_169 mq_169
theorem mr_171 : ∀ a, a < 171 → mm_good a := lt_s mr_170 mq_170
theorem mr_172 : ∀ a, a < 172 → mm_good a := lt_s mr_171 mq_171
theorem mr_173 : ∀ a, a < 173 → mm_good a := lt_s mr_172 mq_172
theorem mr_174 : ∀ a, a < 174 → mm_good a := lt_s mr_173 mq_173
theorem mr_175 : ∀ a, a < 175 → mm_good a := lt_s mr_174 mq_174
theorem mr_176 : ∀ a, a < 176 → mm_good a := lt_s mr_175 mq_175
theorem mr_177 : ∀ a, a < 177 → mm_good a := lt_s mr_176 mq_176
theorem mr_178 : ∀ a, a < 178 → mm_good a := lt_s mr_177 mq_177
theorem mr_179 : ∀ a, a < 179 → mm_good a := lt_s mr_178 mq_178
theorem mr_180 : ∀ a, a < 180 → mm_good a := lt_s mr_179 mq_179
theorem mr_181 : ∀ a, a < 181 → mm_good a := lt_s mr_180 mq_180
theorem mr_182 : ∀ a, a < 182 → mm_good a := lt_s mr_181 mq_181
theorem mr_183 : ∀ a, a < 183 → mm_good a := lt_s mr_182 mq_182
theorem mr_184 : ∀ a, a < 184 → mm_good a := lt_s mr_183 mq_183
theorem mr_185 : ∀ a, a < 185 → mm_good a := lt_s mr_184 mq_184
theorem mr_186 : ∀ a, a < 186 → mm_good a := lt_s mr_185 mq_185
theorem mr_187 : ∀ a, a < 187 → mm_good a := lt_s mr_186 mq_186
theorem mr_188 : ∀ a, a < 188 → mm_good a := lt_s mr_187 mq_187
theorem mr_189 : ∀ a, a < 189 → mm_good a := lt_s mr_188 mq_188
theorem mr_190 : ∀ a, a < 190 → mm_good a := lt_s mr_189 mq_189
theorem mr_191 : ∀ a, a < 191 → mm_good a := lt_s mr_190 mq_190
theorem mr_192 : ∀ a, a < 192 → mm_good a := lt_s mr_191 mq_191
theorem mr_193 : ∀ a, a < 193 → mm_good a := lt_s mr_192 mq_192
theorem mr_194 : ∀ a, a < 194 → mm_good a := lt_s mr_193 mq_193
theorem mr_195 : ∀ a, a < 195 → mm_good a := lt_s mr_194 mq_194
theorem mr_196 : ∀ a, a < 196 → mm_good a := lt_s mr_195 mq_195
theorem mr_197 : ∀ a, a < 197 → mm_good a := lt_s mr_196 mq_196
theorem mr_198 : ∀ a, a < 198 → mm_good a := lt_s mr_197 mq_197
theorem mr_199 : ∀ a, a < 199 → mm_good a := lt_s mr_198 mq_198
theorem mr_200 : ∀ a, a < 200 → mm_good a := lt_s mr_199 mq_199
theorem mr_201 : ∀ a, a < 201 → mm_good a := lt_s mr_200 mq_200
theorem mr_202 : ∀ a, a < 202 → mm_good a := lt_s mr_201 mq_201
theorem mr_203 : ∀ a, a < 203 → mm_good a := lt_s mr_202 mq_202
theorem mr_204 : ∀ a, a < 204 → mm_good a := lt_s mr_203 mq_203
theorem mr_205 : ∀ a, a < 205 → mm_good a := lt_s mr_204 mq_204
theorem mr_206 : ∀ a, a < 206 → mm_good a := lt_s mr_205 mq_205
theorem mr_207 : ∀ a, a < 207 → mm_good a := lt_s mr_206 mq_206
theorem mr_208 : ∀ a, a < 208 → mm_good a := lt_s mr_207 mq_207
theorem mr_209 : ∀ a, a < 209 → mm_good a := lt_s mr_208 mq_208
theorem mr_210 : ∀ a, a < 210 → mm_good a := lt_s mr_209 mq_209
theorem mr_211 : ∀ a, a < 211 → mm_good a := lt_s mr_210 mq_210
theorem mr_212 : ∀ a, a < 212 → mm_good a := lt_s mr_211 mq_211
theorem mr_213 : ∀ a, a < 213 → mm_good a := lt_s mr_212 mq_212
theorem mr_214 : ∀ a, a < 214 → mm_good a := lt_s mr_213 mq_213
theorem mr_215 : ∀ a, a < 215 → mm_good a := lt_s mr_214 mq_214
theorem mr_216 : ∀ a, a < 216 → mm_good a := lt_s mr_215 mq_215
theorem mr_217 : ∀ a, a < 217 → mm_good a := lt_s mr_216 mq_216
theorem mr_218 : ∀ a, a < 218 → mm_good a := lt_s mr_217 mq_217
theorem mr_219 : ∀ a, a < 219 → mm_good a := lt_s mr_218 mq_218
theorem mr_220 : ∀ a, a < 220 → mm_good a := lt_s mr_219 mq_219
theorem mr_221 : ∀ a, a < 221 → mm_good a := lt_s mr_220 mq_220
theorem mr_222 : ∀ a, a < 222 → mm_good a := lt_s mr_221 mq_221
theorem mr_223 : ∀ a, a < 223 → mm_good a := lt_s mr_222 mq_222
theorem mr_224 : ∀ a, a < 224 → mm_good a := lt_s mr_223 mq_223
theorem mr_225 : ∀ a, a < 225 → mm_good a := lt_s mr_224 mq_224
theorem mr_226 : ∀ a, a < 226 → mm_good a := lt_s mr_225 mq_225
theorem mr_227 : ∀ a, a < 227 → mm_good a := lt_s mr_226 mq_226
theorem mr_228 : ∀ a, a < 228 → mm_good a := lt_s mr_227 mq_227
theorem mr_229 : ∀ a, a < 229 → mm_good a := lt_s mr_228 mq_228
theorem mr_230 : ∀ a, a < 230 → mm_good a := lt_s mr_229 mq_229
theorem mr_231 : ∀ a, a < 231 → mm_good a := lt_s mr_230 mq_230
theorem mr_232 : ∀ a, a < 232 → mm_good a := lt_s mr_231 mq_231
theorem mr_233 : ∀ a, a < 233 → mm_good a := lt_s mr_232 mq_232
theorem mr_234 : ∀ a, a < 234 → mm_good a := lt_s mr_233 mq_233
theorem mr_235 : ∀ a, a < 235 → mm_good a := lt_s mr_234 mq_234
theorem mr_236 : ∀ a, a < 236 → mm_good a := lt_s mr_235 mq_235
theorem mr_237 : ∀ a, a < 237 → mm_good a := lt_s mr_236 mq_236
theorem mr_238 : ∀ a, a < 238 → mm_good a := lt_s mr_237 mq_237
theorem mr_239 : ∀ a, a < 239 → mm_good a := lt_s mr_238 mq_238
theorem mr_240 : ∀ a, a < 240 → mm_good a := lt_s mr_239 mq_239
theorem mr_241 : ∀ a, a < 241 → mm_good a := lt_s mr_240 mq_240
theorem mr_242 : ∀ a, a < 242 → mm_good a := lt_s mr_241 mq_241
theorem mr_243 : ∀ a, a < 243 → mm_good a := lt_s mr_242 mq_242
theorem mr_244 : ∀ a, a < 244 → mm_good a := lt_s mr_243 mq_243
theorem mr_245 : ∀ a, a < 245 → mm_good a := lt_s mr_244 mq_244
theorem mr_246 : ∀ a, a < 246 → mm_good a := lt_s mr_245 mq_245
theorem mr_247 : ∀ a, a < 247 → mm_good a := lt_s mr_246 mq_246
theorem mr_248 : ∀ a, a < 248 → mm_good a := lt_s mr_247 mq_247
theorem mr_249 : ∀ a, a < 249 → mm_good a := lt_s mr_248 mq_248
theorem mr_250 : ∀ a, a < 250 → mm_good a := lt_s mr_249 mq_249
theorem mr_251 : ∀ a, a < 251 → mm_good a := lt_s mr_250 mq_250
theorem mr_252 : ∀ a, a < 252 → mm_good a := lt_s mr_251 mq_251
theorem mr_253 : ∀ a, a < 253 → mm_good a := lt_s mr_252 mq_252
theorem mr_254 : ∀ a, a < 254 → mm_good a := lt_s mr_253 mq_253
theorem mr_255 : ∀ a, a < 255 → mm_good a := lt_s mr_254 mq_254
theorem mr_256 : ∀ a, a < 256 → mm_good a := lt_s mr_255 mq_255
theorem mr_257 : ∀ a, a < 257 → mm_good a := lt_s mr_256 mq_256
theorem mr_258 : ∀ a, a < 258 → mm_good a := lt_s mr_257 mq_257
theorem mr_259 : ∀ a, a < 259 → mm_good a := lt_s mr_258 mq_258
theorem mr_260 : ∀ a, a < 260 → mm_good a := lt_s mr_259 mq_259
theorem mr_261 : ∀ a, a < 261 → mm_good a := lt_s mr_260 mq_260
theorem mr_262 : ∀ a, a < 262 → mm_good a := lt_s mr_261 mq_261
theorem mr_263 : ∀ a, a < 263 → mm_good a := lt_s mr_262 mq_262
theorem mr_264 : ∀ a, a < 264 → mm_good a := lt_s mr_263 mq_263
theorem mr_265 : ∀ a, a < 265 → mm_good a := lt_s mr_264 mq_264
theorem mr_266 : ∀ a, a < 266 → mm_good a := lt_s mr_265 mq_265
theorem mr_267 : ∀ a, a < 267 → mm_good a := lt_s mr_266 mq_266
theorem mr_268 : ∀ a, a < 268 → mm_good a := lt_s mr_267 mq_267
theorem mr_269 : ∀ a, a < 269 → mm_good a := lt_s mr_268 mq_268
theorem mr_270 : ∀ a, a < 270 → mm_good a := lt_s mr_269 mq_269
theorem mr_271 : ∀ a, a < 271 → mm_good a := lt_s mr_270 mq_270
theorem mr_272 : ∀ a, a < 272 → mm_good a := lt_s mr_271 mq_271
theorem mr_273 : ∀ a, a < 273 → mm_good a := lt_s mr_272 mq_272
theorem mr_274 : ∀ a, a < 274 → mm_good a := lt_s mr_273 mq_273
theorem mr_275 : ∀ a, a < 275 → mm_good a := lt_s mr_274 mq_274
theorem mr_276 : ∀ a, a < 276 → mm_good a := lt_s mr_275 mq_275
theorem mr_277 : ∀ a, a < 277 → mm_good a := lt_s mr_276 mq_276
theorem mr_278 : ∀ a, a < 278 → mm_good a := lt_s mr_277 mq_277
theorem mr_279 : ∀ a, a < 279 → mm_good a := lt_s mr_278 mq_278
theorem mr_280 : ∀ a, a < 280 → mm_good a := lt_s mr_279 mq_279
theorem mr_281 : ∀ a, a < 281 → mm_good a := lt_s mr_280 mq_280
theorem mr_282 : ∀ a, a < 282 → mm_good a := lt_s mr_281 mq_281
theorem mr_283 : ∀ a, a < 283 → mm_good a := lt_s mr_282 mq_282
theorem mr_284 : ∀ a, a < 284 → mm_good a := lt_s mr_283 mq_283
theorem mr_285 : ∀ a, a < 285 → mm_good a := lt_s mr_284 mq_284
theorem mr_286 : ∀ a, a < 286 → mm_good a := lt_s mr_285 mq_285
theorem mr_287 : ∀ a, a < 287 → mm_good a := lt_s mr_286 mq_286
theorem mr_288 : ∀ a, a < 288 → mm_good a := lt_s mr_287 mq_287
theorem mr_289 : ∀ a, a < 289 → mm_good a := lt_s mr_288 mq_288
theorem mr_290 : ∀ a, a < 290 → mm_good a := lt_s mr_289 mq_289
theorem mr_291 : ∀ a, a < 291 → mm_good a := lt_s mr_290 mq_290
theorem mr_292 : ∀ a, a < 292 → mm_good a := lt_s mr_291 mq_291
theorem mr_293 : ∀ a, a < 293 → mm_good a := lt_s mr_292 mq_292
theorem mr_294 : ∀ a, a < 294 → mm_good a := lt_s mr_293 mq_293
theorem mr_295 : ∀ a, a < 295 → mm_good a := lt_s mr_294 mq_294
theorem mr_296 : ∀ a, a < 296 → mm_good a := lt_s mr_295 mq_295
theorem mr_297 : ∀ a, a < 297 → mm_good a := lt_s mr_296 mq_296
theorem mr_298 : ∀ a, a < 298 → mm_good a := lt_s mr_297 mq_297
theorem mr_299 : ∀ a, a < 299 → mm_good a := lt_s mr_298 mq_298
theorem mr_300 : ∀ a, a < 300 → mm_good a := lt_s mr_299 mq_299
theorem mr_301 : ∀ a, a < 301 → mm_good a := lt_s mr_300 mq_300
theorem mr_302 : ∀ a, a < 302 → mm_good a := lt_s mr_301 mq_301
theorem mr_303 : ∀ a, a < 303 → mm_good a := lt_s mr_302 mq_302
theorem mr_304 : ∀ a, a < 304 → mm_good a := lt_s mr_303 mq_303
theorem mr_305 : ∀ a, a < 305 → mm_good a := lt_s mr_304 mq_304
theorem mr_306 : ∀ a, a < 306 → mm_good a := lt_s mr_305 mq_305
theorem mr_307 : ∀ a, a < 307 → mm_good a := lt_s mr_306 mq_306
theorem mr_308 : ∀ a, a < 308 → mm_good a := lt_s mr_307 mq_307
theorem mr_309 : ∀ a, a < 309 → mm_good a := lt_s mr_308 mq_308
theorem mr_310 : ∀ a, a < 310 → mm_good a := lt_s mr_309 mq_309
theorem mr_311 : ∀ a, a < 311 → mm_good a := lt_s mr_310 mq_310
theorem mr_312 : ∀ a, a < 312 → mm_good a := lt_s mr_311 mq_311
theorem mr_313 : ∀ a, a < 313 → mm_good a := lt_s mr_312 mq_312
theorem mr_314 : ∀ a, a < 314 → mm_good a := lt_s mr_313 mq_313
theorem mr_315 : ∀ a, a < 315 → mm_good a := lt_s mr_314 mq_314
theorem mr_316 : ∀ a, a < 316 → mm_good a := lt_s mr_315 mq_315
theorem mr_317 : ∀ a, a < 317 → mm_good a := lt_s mr_316 mq_316
theorem mr_318 : ∀ a, a < 318 → mm_good a := lt_s mr_317 mq_317
theorem mr_319 : ∀ a, a < 319 → mm_good a := lt_s mr_318 mq_318
theorem mr_320 : ∀ a, a < 320 → mm_good a := lt_s mr_319 mq_319
theorem mr_321 : ∀ a, a < 321 → mm_good a := lt_s mr_320 mq_320
theorem mr_322 : ∀ a, a < 322 → mm_good a := lt_s mr_321 mq_321
theorem mr_323 : ∀ a, a < 323 → mm_good a := lt_s mr_322 mq_322
theorem mr_324 : ∀ a, a < 324 → mm_good a := lt_s mr_323 mq_323
theorem mr_325 : ∀ a, a < 325 → mm_good a := lt_s mr_324 mq_324
theorem mr_326 : ∀ a, a < 326 → mm_good a := lt_s mr_325 mq_325
theorem mr_327 : ∀ a, a < 327 → mm_good a := lt_s mr_326 mq_326
theorem mr_328 : ∀ a, a < 328 → mm_good a := lt_s mr_327 mq_327
theorem mr_329 : ∀ a, a < 329 → mm_good a := lt_s mr_328 mq_328
theorem mr_330 : ∀ a, a < 330 → mm_good a := lt_s mr_329 mq_329
theorem mr_331 : ∀ a, a < 331 → mm_good a := lt_s mr_330 mq_330
theorem mr_332 : ∀ a, a < 332 → mm_good a := lt_s mr_331 mq_331
theorem mr_333 : ∀ a, a < 333 → mm_good a := lt_s mr_332 mq_332
theorem mr_334 : ∀ a, a < 334 → mm_good a := lt_s mr_333 mq_333
theorem mr_335 : ∀ a, a < 335 → mm_good a := lt_s mr_334 mq_334
theorem mr_336 : ∀ a, a < 336 → mm_good a := lt_s mr_335 mq_335
theorem mr_337 : ∀ a, a < 337 → mm_good a := lt_s mr_336 mq_336
theorem mr_338 : ∀ a, a < 338 → mm_good a := lt_s mr_337 mq_337
theorem mr_339 : ∀ a, a < 339 → mm_good a := lt_s mr_338 mq_338
theorem mr_340 : ∀ a, a < 340 → mm_good a := lt_s mr_339 mq_339
theorem mr_341 : ∀ a, a < 341 → mm_good a := lt_s mr_340 mq_340
theorem mr_342 : ∀ a, a < 342 → mm_good a := lt_s mr_341 mq_341
theorem mr_343 : ∀ a, a < 343 → mm_good a := lt_s mr_342 mq_342
theorem mr_344 : ∀ a, a < 344 → mm_good a := lt_s mr_343 mq_343
theorem mr_345 : ∀ a, a < 345 → mm_good a := lt_s mr_344 mq_344
theorem mr_346 : ∀ a, a < 346 → mm_good a := lt_s mr_345 mq_345
theorem mr_347 : ∀ a, a < 347 → mm_good a := lt_s mr_346 mq_346
theorem mr_348 : ∀ a, a < 348 → mm_good a := lt_s mr_347 mq_347
theorem mr_349 : ∀ a, a < 349 → mm_good a := lt_s mr_348 mq_348
theorem mr_350 : ∀ a, a < 350 → mm_good a := lt_s mr_349 mq_349
theorem mr_351 : ∀ a, a < 351 → mm_good a := lt_s mr_350 mq_350
theorem mr_352 : ∀ a, a < 352 → mm_good a := lt_s mr_351 mq_351
theorem mr_353 : ∀ a, a < 353 → mm_good a := lt_s mr_352 mq_352
theorem mr_354 : ∀ a, a < 354 → mm_good a := lt_s mr_353 mq_353
theorem mr_355 : ∀ a, a < 355 → mm_good a := lt_s mr_354 mq_354
theorem mr_356 : ∀ a, a < 356 → mm_good a := lt_s mr_355 mq_355
theorem mr_357 : ∀ a, a < 357 → mm_good a := lt_s mr_356 mq_356
theorem mr_358 : ∀ a, a < 358 → mm_good a := lt_s mr_357 mq_357
theorem mr_359 : ∀ a, a < 359 → mm_good a := lt_s mr_358 mq_358
theorem mr_360 : ∀ a, a < 360 → mm_good a := lt_s mr_359 mq_359
theorem mr_361 : ∀ a, a < 361 → mm_good a := lt_s mr_360 mq_360
theorem mr_362 : ∀ a, a < 362 → mm_good a := lt_s mr_361 mq_361
theorem mr_363 : ∀ a, a < 363 → mm_good a := lt_s mr_362 mq_362
theorem mr_364 : ∀ a, a < 364 → mm_good a := lt_s mr_363 mq_363
theorem mr_365 : ∀ a, a < 365 → mm_good a := lt_s mr_364 mq_364
theorem mr_366 : ∀ a, a < 366 → mm_good a := lt_s mr_365 mq_365
theorem mr_367 : ∀ a, a < 367 → mm_good a := lt_s mr_366 mq_366
theorem mr_368 : ∀ a, a < 368 → mm_good a := lt_s mr_367 mq_367
theorem mr_369 : ∀ a, a < 369 → mm_good a := lt_s mr_368 mq_368
theorem mr_370 : ∀ a, a < 370 → mm_good a := lt_s mr_369 mq_369
theorem mr_371 : ∀ a, a < 371 → mm_good a := lt_s mr_370 mq_370
theorem mr_372 : ∀ a, a < 372 → mm_good a := lt_s mr_371 mq_371
theorem mr_373 : ∀ a, a < 373 → mm_good a := lt_s mr_372 mq_372
theorem mr_374 : ∀ a, a < 374 → mm_good a := lt_s mr_373 mq_373
theorem mr_375 : ∀ a, a < 375 → mm_good a := lt_s mr_374 mq_374
theorem mr_376 : ∀ a, a < 376 → mm_good a := lt_s mr_375 mq_375
theorem mr_377 : ∀ a, a < 377 → mm_good a := lt_s mr_376 mq_376
theorem mr_378 : ∀ a, a < 378 → mm_good a := lt_s mr_377 mq_377
theorem mr_379 : ∀ a, a < 379 → mm_good a := lt_s mr_378 mq_378
theorem mr_380 : ∀ a, a < 380 → mm_good a := lt_s mr_379 mq_379
theorem mr_381 : ∀ a, a < 381 → mm_good a := lt_s mr_380 mq_380
theorem mr_382 : ∀ a, a < 382 → mm_good a := lt_s mr_381 mq_381
theorem mr_383 : ∀ a, a < 383 → mm_good a := lt_s mr_382 mq_382
theorem mr_384 : ∀ a, a < 384 → mm_good a := lt_s mr_383 mq_383
theorem mr_385 : ∀ a, a < 385 → mm_good a := lt_s mr_384 mq_384
theorem mr_386 : ∀ a, a < 386 → mm_good a := lt_s mr_385 mq_385
theorem mr_387 : ∀ a, a < 387 → mm_good a := lt_s mr_386 mq_386
theorem mr_388 : ∀ a, a < 388 → mm_good a := lt_s mr_387 mq_387
theorem mr_389 : ∀ a, a < 389 → mm_good a := lt_s mr_388 mq_388
theorem mr_390 : ∀ a, a < 390 → mm_good a := lt_s mr_389 mq_389
theorem mr_391 : ∀ a, a < 391 → mm_good a := lt_s mr_390 mq_390
theorem mm_all {y : Nat} {t : mm_M} (h : mm_MT y = some t) : mm_mE t (mm_stf y) (mm_npf y) ∧ ∃ h, mm_tabB mm_PQ mm_MT mm_stf mm_npf mm_stn mm_sts mm_TX mm_XL t h = true := by
  have hl : mm_tbl.length = 391 := by decide +kernel
  have h1 : y < mm_tbl.length := (List.getElem?_eq_some_iff.mp h).1
  exact mr_391 y (by omega) t h
theorem mm_tab_all (old : Nat → Option (Nat × vp_A)) (y : Nat) (t : mm_M) (h : mm_MT y = some t) : mm_tabE (old, mm_PQ) mm_MT mm_stn mm_sts t := by
  obtain ⟨h1, hs, h2⟩ := mm_all h
  exact ⟨h1.2.2.2.2.2.1, mm_tabB_ok (fun y t h => (mm_all h).1) mm_TX_ok mm_XL_ok old h2⟩
theorem mm_rowsE_app {f : Nat → Nat → mm_Op → Nat → Nat → Nat → Bool} {c1 c2 : mm_Code} (h1 : ∀ pc len op, (pc, len, op) ∈ c1 → ∃ i x y, f pc len op i x y = true) (h2 : ∀ pc len op, (pc, len, op) ∈ c2 → ∃ i x y, f pc len op i x y = true) : ∀ pc len op, (pc, len, op) ∈ c1 ++ c2 → ∃ i x y, f pc len op i x y = true :=
  fun pc len op h => (List.mem_append.mp h).elim (h1 pc len op) (h2 pc len op)
set_option maxRecDepth 100000 in
theorem mm_law_rows : ∀ pc len op, (pc, len, op) ∈ mc_law → ∃ i x y, (fun pc len op i x y => mm_opB mm_PQ mm_MT mm_stf mm_npf mm_stn mm_sts mm_TX mm_XL "DecisionDiagramsLaw" "law" code [] ret pc len op i x y) pc len op i x y = true := (mm_rowsE_app (mm_rowsB_ok mb_law_0) (mm_rowsE_app (mm_rowsB_ok mb_law_1) (mm_rowsE_app (mm_rowsB_ok mb_law_2) (mm_rowsE_app (mm_rowsB_ok mb_law_3) (mm_rowsE_app (mm_rowsB_ok mb_law_4) (mm_rowsE_app (mm_rowsB_ok mb_law_5) (mm_rowsE_app (mm_rowsB_ok mb_law_6) (mm_rowsE_app (mm_rowsB_ok mb_law_7) (mm_rowsE_app (mm_rowsB_ok mb_law_8) (mm_rowsE_app (mm_rowsB_ok mb_law_9) (mm_rowsE_app (mm_rowsB_ok mb_law_10) (mm_rowsE_app (mm_rowsB_ok mb_law_11) (mm_rowsE_app (mm_rowsB_ok mb_law_12) (mm_rowsE_app (mm_rowsB_ok mb_law_13) (mm_rowsE_app (mm_rowsB_ok mb_law_14) (mm_rowsE_app (mm_rowsB_ok mb_law_15) (mm_rowsE_app (mm_rowsB_ok mb_law_16) (mm_rowsE_app (mm_rowsB_ok mb_law_17) (mm_rowsE_app (mm_rowsB_ok mb_law_18) (mm_rowsE_app (mm_rowsB_ok mb_law_19) (mm_rowsE_app (mm_rowsB_ok mb_law_20) (mm_rowsE_app (mm_rowsB_ok mb_law_21) (mm_rowsE_app (mm_rowsB_ok mb_law_22) (mm_rowsE_app (mm_rowsB_ok mb_law_23) (mm_rowsE_app (mm_rowsB_ok mb_law_24) (mm_rowsE_app (mm_rowsB_ok mb_law_25) (mm_rowsE_app (mm_rowsB_ok mb_law_26) (mm_rowsE_app (mm_rowsB_ok mb_law_27) (mm_rowsE_app (mm_rowsB_ok mb_law_28) (mm_rowsE_app (mm_rowsB_ok mb_law_29) (mm_rowsE_app (mm_rowsB_ok mb_law_30) (mm_rowsE_app (mm_rowsB_ok mb_law_31) (mm_rowsE_app (mm_rowsB_ok mb_law_32) (mm_rowsE_app (mm_rowsB_ok mb_law_33) (mm_rowsE_app (mm_rowsB_ok mb_law_34) (mm_rowsE_app (mm_rowsB_ok mb_law_35) (mm_rowsE_app (mm_rowsB_ok mb_law_36) (mm_rowsE_app (mm_rowsB_ok mb_law_37) (mm_rowsE_app (mm_rowsB_ok mb_law_38) (mm_rowsE_app (mm_rowsB_ok mb_law_39) (mm_rowsE_app (mm_rowsB_ok mb_law_40) (mm_rowsB_ok mb_law_41))))))))))))))))))))))))))))))))))))))))))
theorem mm_law_code (old : Nat → Option (Nat × vp_A)) (pc len : Nat) (op : mm_Op) (h : mc_law.lookup pc = some (len, op)) : mm_opE (old, mm_PQ) mm_MT mm_stn mm_sts "DecisionDiagramsLaw" "law" code [] ret pc len op := by
  obtain ⟨i, x, y, h9⟩ := mm_law_rows pc len op (mm_lookup_mem h)
  exact mm_opB_ok (fun y t h => (mm_all h).1) mm_TX_ok mm_XL_ok old h9
