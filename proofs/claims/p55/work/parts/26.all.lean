def mm_good (a : Nat) : Prop := ∀ t, mm_MT a = some t → mm_mE t (mm_stf a) (mm_npf a) ∧ ∃ h, mm_tabB mm_PQ mm_MT mm_stf mm_npf mm_stn mm_sts mm_TX mm_XL t h = true
theorem mq_of {a : Nat} {u : mm_M} (h : mm_MT a = some u) (h1 : mm_mE u (mm_stf a) (mm_npf a)) {hs : List (Nat × Nat × Nat)} (h2 : mm_tabB mm_PQ mm_MT mm_stf mm_npf mm_stn mm_sts mm_TX mm_XL u hs = true) : mm_good a := by
  intro t ht
  cases Option.some.inj (h.symm.trans ht)
  exact ⟨h1, hs, h2⟩
set_option maxRecDepth 100000 in
theorem mq_0 : mm_good 0 := mq_of (u := mt_0) rfl mo_0 mb_0
set_option maxRecDepth 100000 in
theorem mq_1 : mm_good 1 := mq_of (u := mt_1) rfl mo_1 mb_1
set_option maxRecDepth 100000 in
theorem mq_2 : mm_good 2 := mq_of (u := mt_2) rfl mo_2 mb_2
set_option maxRecDepth 100000 in
theorem mq_3 : mm_good 3 := mq_of (u := mt_3) rfl mo_3 mb_3
set_option maxRecDepth 100000 in
theorem mq_4 : mm_good 4 := mq_of (u := mt_4) rfl mo_4 mb_4
set_option maxRecDepth 100000 in
theorem mq_5 : mm_good 5 := mq_of (u := mt_5) rfl mo_5 mb_5
set_option maxRecDepth 100000 in
theorem mq_6 : mm_good 6 := mq_of (u := mt_6) rfl mo_6 mb_6
set_option maxRecDepth 100000 in
theorem mq_7 : mm_good 7 := mq_of (u := mt_7) rfl mo_7 mb_7
set_option maxRecDepth 100000 in
theorem mq_8 : mm_good 8 := mq_of (u := mt_8) rfl mo_8 mb_8
set_option maxRecDepth 100000 in
theorem mq_9 : mm_good 9 := mq_of (u := mt_9) rfl mo_9 mb_9
set_option maxRecDepth 100000 in
theorem mq_10 : mm_good 10 := mq_of (u := mt_10) rfl mo_10 mb_10
set_option maxRecDepth 100000 in
theorem mq_11 : mm_good 11 := mq_of (u := mt_11) rfl mo_11 mb_11
set_option maxRecDepth 100000 in
theorem mq_12 : mm_good 12 := mq_of (u := mt_12) rfl mo_12 mb_12
set_option maxRecDepth 100000 in
theorem mq_13 : mm_good 13 := mq_of (u := mt_13) rfl mo_13 mb_13
theorem mq_14 : mm_good 14 := fun t h => nomatch (show (none : Option mm_M) = some t from h)
theorem mq_15 : mm_good 15 := fun t h => nomatch (show (none : Option mm_M) = some t from h)
theorem mq_16 : mm_good 16 := fun t h => nomatch (show (none : Option mm_M) = some t from h)
theorem mq_17 : mm_good 17 := fun t h => nomatch (show (none : Option mm_M) = some t from h)
theorem mq_18 : mm_good 18 := fun t h => nomatch (show (none : Option mm_M) = some t from h)
theorem mq_19 : mm_good 19 := fun t h => nomatch (show (none : Option mm_M) = some t from h)
theorem mq_20 : mm_good 20 := fun t h => nomatch (show (none : Option mm_M) = some t from h)
theorem mq_21 : mm_good 21 := fun t h => nomatch (show (none : Option mm_M) = some t from h)
theorem mq_22 : mm_good 22 := fun t h => nomatch (show (none : Option mm_M) = some t from h)
theorem mq_23 : mm_good 23 := fun t h => nomatch (show (none : Option mm_M) = some t from h)
theorem mq_24 : mm_good 24 := fun t h => nomatch (show (none : Option mm_M) = some t from h)
set_option maxRecDepth 100000 in
theorem mq_25 : mm_good 25 := mq_of (u := mt_25) rfl mo_25 mb_25
set_option maxRecDepth 100000 in
theorem mq_26 : mm_good 26 := mq_of (u := mt_26) rfl mo_26 mb_26
set_option maxRecDepth 100000 in
theorem mq_27 : mm_good 27 := mq_of (u := mt_27) rfl mo_27 mb_27
set_option maxRecDepth 100000 in
theorem mq_28 : mm_good 28 := mq_of (u := mt_28) rfl mo_28 mb_28
set_option maxRecDepth 100000 in
theorem mq_29 : mm_good 29 := mq_of (u := mt_29) rfl mo_29 mb_29
set_option maxRecDepth 100000 in
theorem mq_30 : mm_good 30 := mq_of (u := mt_30) rfl mo_30 mb_30
set_option maxRecDepth 100000 in
theorem mq_31 : mm_good 31 := mq_of (u := mt_31) rfl mo_31 mb_31
set_option maxRecDepth 100000 in
theorem mq_32 : mm_good 32 := mq_of (u := mt_32) rfl mo_32 mb_32
set_option maxRecDepth 100000 in
theorem mq_33 : mm_good 33 := mq_of (u := mt_33) rfl mo_33 mb_33
theorem mq_34 : mm_good 34 := fun t h => nomatch (show (none : Option mm_M) = some t from h)
set_option maxRecDepth 100000 in
theorem mq_35 : mm_good 35 := mq_of (u := mt_35) rfl mo_35 mb_35
set_option maxRecDepth 100000 in
theorem mq_36 : mm_good 36 := mq_of (u := mt_36) rfl mo_36 mb_36
theorem mq_37 : mm_good 37 := fun t h => nomatch (show (none : Option mm_M) = some t from h)
set_option maxRecDepth 100000 in
theorem mq_38 : mm_good 38 := mq_of (u := mt_38) rfl mo_38 mb_38
set_option maxRecDepth 100000 in
theorem mq_39 : mm_good 39 := mq_of (u := mt_39) rfl mo_39 mb_39
set_option maxRecDepth 100000 in
theorem mq_40 : mm_good 40 := mq_of (u := mt_40) rfl mo_40 mb_40
set_option maxRecDepth 100000 in
theorem mq_41 : mm_good 41 := mq_of (u := mt_41) rfl mo_41 mb_41
set_option maxRecDepth 100000 in
theorem mq_42 : mm_good 42 := mq_of (u := mt_42) rfl mo_42 mb_42
set_option maxRecDepth 100000 in
theorem mq_43 : mm_good 43 := mq_of (u := mt_43) rfl mo_43 mb_43
set_option maxRecDepth 100000 in
theorem mq_44 : mm_good 44 := mq_of (u := mt_44) rfl mo_44 mb_44
set_option maxRecDepth 100000 in
theorem mq_45 : mm_good 45 := mq_of (u := mt_45) rfl mo_45 mb_45
set_option maxRecDepth 100000 in
theorem mq_46 : mm_good 46 := mq_of (u := mt_46) rfl mo_46 mb_46
set_option maxRecDepth 100000 in
theorem mq_47 : mm_good 47 := mq_of (u := mt_47) rfl mo_47 mb_47
set_option maxRecDepth 100000 in
theorem mq_48 : mm_good 48 := mq_of (u := mt_48) rfl mo_48 mb_48
set_option maxRecDepth 100000 in
theorem mq_49 : mm_good 49 := mq_of (u := mt_49) rfl mo_49 mb_49
set_option maxRecDepth 100000 in
theorem mq_50 : mm_good 50 := mq_of (u := mt_50) rfl mo_50 mb_50
set_option maxRecDepth 100000 in
theorem mq_51 : mm_good 51 := mq_of (u := mt_51) rfl mo_51 mb_51
set_option maxRecDepth 100000 in
theorem mq_52 : mm_good 52 := mq_of (u := mt_52) rfl mo_52 mb_52
set_option maxRecDepth 100000 in
theorem mq_53 : mm_good 53 := mq_of (u := mt_53) rfl mo_53 mb_53
set_option maxRecDepth 100000 in
theorem mq_54 : mm_good 54 := mq_of (u := mt_54) rfl mo_54 mb_54
set_option maxRecDepth 100000 in
theorem mq_55 : mm_good 55 := mq_of (u := mt_55) rfl mo_55 mb_55
set_option maxRecDepth 100000 in
theorem mq_56 : mm_good 56 := mq_of (u := mt_56) rfl mo_56 mb_56
set_option maxRecDepth 100000 in
theorem mq_57 : mm_good 57 := mq_of (u := mt_57) rfl mo_57 mb_57
set_option maxRecDepth 100000 in
theorem mq_58 : mm_good 58 := mq_of (u := mt_58) rfl mo_58 mb_58
theorem mq_59 : mm_good 59 := fun t h => nomatch (show (none : Option mm_M) = some t from h)
set_option maxRecDepth 100000 in
theorem mq_60 : mm_good 60 := mq_of (u := mt_60) rfl mo_60 mb_60
set_option maxRecDepth 100000 in
theorem mq_61 : mm_good 61 := mq_of (u := mt_61) rfl mo_61 mb_61
set_option maxRecDepth 100000 in
theorem mq_62 : mm_good 62 := mq_of (u := mt_62) rfl mo_62 mb_62
set_option maxRecDepth 100000 in
theorem mq_63 : mm_good 63 := mq_of (u := mt_63) rfl mo_63 mb_63
set_option maxRecDepth 100000 in
theorem mq_64 : mm_good 64 := mq_of (u := mt_64) rfl mo_64 mb_64
set_option maxRecDepth 100000 in
theorem mq_65 : mm_good 65 := mq_of (u := mt_65) rfl mo_65 mb_65
set_option maxRecDepth 100000 in
theorem mq_66 : mm_good 66 := mq_of (u := mt_66) rfl mo_66 mb_66
set_option maxRecDepth 100000 in
theorem mq_67 : mm_good 67 := mq_of (u := mt_67) rfl mo_67 mb_67
set_option maxRecDepth 100000 in
theorem mq_68 : mm_good 68 := mq_of (u := mt_68) rfl mo_68 mb_68
set_option maxRecDepth 100000 in
theorem mq_69 : mm_good 69 := mq_of (u := mt_69) rfl mo_69 mb_69
set_option maxRecDepth 100000 in
theorem mq_70 : mm_good 70 := mq_of (u := mt_70) rfl mo_70 mb_70
set_option maxRecDepth 100000 in
theorem mq_71 : mm_good 71 := mq_of (u := mt_71) rfl mo_71 mb_71
set_option maxRecDepth 100000 in
theorem mq_72 : mm_good 72 := mq_of (u := mt_72) rfl mo_72 mb_72
theorem mq_73 : mm_good 73 := fun t h => nomatch (show (none : Option mm_M) = some t from h)
theorem mq_74 : mm_good 74 := fun t h => nomatch (show (none : Option mm_M) = some t from h)
theorem mq_75 : mm_good 75 := fun t h => nomatch (show (none : Option mm_M) = some t from h)
theorem mq_76 : mm_good 76 := fun t h => nomatch (show (none : Option mm_M) = some t from h)
set_option maxRecDepth 100000 in
theorem mq_77 : mm_good 77 := mq_of (u := mt_77) rfl mo_77 mb_77
set_option maxRecDepth 100000 in
theorem mq_78 : mm_good 78 := mq_of (u := mt_78) rfl mo_78 mb_78
set_option maxRecDepth 100000 in
theorem mq_79 : mm_good 79 := mq_of (u := mt_79) rfl mo_79 mb_79
set_option maxRecDepth 100000 in
theorem mq_80 : mm_good 80 := mq_of (u := mt_80) rfl mo_80 mb_80
set_option maxRecDepth 100000 in
theorem mq_81 : mm_good 81 := mq_of (u := mt_81) rfl mo_81 mb_81
set_option maxRecDepth 100000 in
theorem mq_82 : mm_good 82 := mq_of (u := mt_82) rfl mo_82 mb_82
set_option maxRecDepth 100000 in
theorem mq_83 : mm_good 83 := mq_of (u := mt_83) rfl mo_83 mb_83
set_option maxRecDepth 100000 in
theorem mq_84 : mm_good 84 := mq_of (u := mt_84) rfl mo_84 mb_84
set_option maxRecDepth 100000 in
theorem mq_85 : mm_good 85 := mq_of (u := mt_85) rfl mo_85 mb_85
set_option maxRecDepth 100000 in
theorem mq_86 : mm_good 86 := mq_of (u := mt_86) rfl mo_86 mb_86
set_option maxRecDepth 100000 in
theorem mq_87 : mm_good 87 := mq_of (u := mt_87) rfl mo_87 mb_87
set_option maxRecDepth 100000 in
theorem mq_88 : mm_good 88 := mq_of (u := mt_88) rfl mo_88 mb_88
set_option maxRecDepth 100000 in
theorem mq_89 : mm_good 89 := mq_of (u := mt_89) rfl mo_89 mb_89
set_option maxRecDepth 100000 in
theorem mq_90 : mm_good 90 := mq_of (u := mt_90) rfl mo_90 mb_90
set_option maxRecDepth 100000 in
theorem mq_91 : mm_good 91 := mq_of (u := mt_91) rfl mo_91 mb_91
set_option maxRecDepth 100000 in
theorem mq_92 : mm_good 92 := mq_of (u := mt_92) rfl mo_92 mb_92
set_option maxRecDepth 100000 in
theorem mq_93 : mm_good 93 := mq_of (u := mt_93) rfl mo_93 mb_93
set_option maxRecDepth 100000 in
theorem mq_94 : mm_good 94 := mq_of (u := mt_94) rfl mo_94 mb_94
set_option maxRecDepth 100000 in
theorem mq_95 : mm_good 95 := mq_of (u := mt_95) rfl mo_95 mb_95
set_option maxRecDepth 100000 in
theorem mq_96 : mm_good 96 := mq_of (u := mt_96) rfl mo_96 mb_96
set_option maxRecDepth 100000 in
theorem mq_97 : mm_good 97 := mq_of (u := mt_97) rfl mo_97 mb_97
set_option maxRecDepth 100000 in
theorem mq_98 : mm_good 98 := mq_of (u := mt_98) rfl mo_98 mb_98
set_option maxRecDepth 100000 in
theorem mq_99 : mm_good 99 := mq_of (u := mt_99) rfl mo_99 mb_99
theorem mq_100 : mm_good 100 := fun t h => nomatch (show (none : Option mm_M) = some t from h)
theorem mq_101 : mm_good 101 := fun t h => nomatch (show (none : Option mm_M) = some t from h)
theorem mq_102 : mm_good 102 := fun t h => nomatch (show (none : Option mm_M) = some t from h)
set_option maxRecDepth 100000 in
theorem mq_103 : mm_good 103 := mq_of (u := mt_103) rfl mo_103 mb_103
set_option maxRecDepth 100000 in
theorem mq_104 : mm_good 104 := mq_of (u := mt_104) rfl mo_104 mb_104
set_option maxRecDepth 100000 in
theorem mq_105 : mm_good 105 := mq_of (u := mt_105) rfl mo_105 mb_105
set_option maxRecDepth 100000 in
theorem mq_106 : mm_good 106 := mq_of (u := mt_106) rfl mo_106 mb_106
theorem mq_107 : mm_good 107 := fun t h => nomatch (show (none : Option mm_M) = some t from h)
theorem mq_108 : mm_good 108 := fun t h => nomatch (show (none : Option mm_M) = some t from h)
set_option maxRecDepth 100000 in
theorem mq_109 : mm_good 109 := mq_of (u := mt_109) rfl mo_109 mb_109
set_option maxRecDepth 100000 in
theorem mq_110 : mm_good 110 := mq_of (u := mt_110) rfl mo_110 mb_110
theorem mq_111 : mm_good 111 := fun t h => nomatch (show (none : Option mm_M) = some t from h)
set_option maxRecDepth 100000 in
theorem mq_112 : mm_good 112 := mq_of (u := mt_112) rfl mo_112 mb_112
theorem mq_113 : mm_good 113 := fun t h => nomatch (show (none : Option mm_M) = some t from h)
set_option maxRecDepth 100000 in
theorem mq_114 : mm_good 114 := mq_of (u := mt_114) rfl mo_114 mb_114
set_option maxRecDepth 100000 in
theorem mq_115 : mm_good 115 := mq_of (u := mt_115) rfl mo_115 mb_115
theorem mq_116 : mm_good 116 := fun t h => nomatch (show (none : Option mm_M) = some t from h)
theorem mq_117 : mm_good 117 := fun t h => nomatch (show (none : Option mm_M) = some t from h)
theorem mq_118 : mm_good 118 := fun t h => nomatch (show (none : Option mm_M) = some t from h)
theorem mq_119 : mm_good 119 := fun t h => nomatch (show (none : Option mm_M) = some t from h)
theorem mq_120 : mm_good 120 := fun t h => nomatch (show (none : Option mm_M) = some t from h)
theorem mq_121 : mm_good 121 := fun t h => nomatch (show (none : Option mm_M) = some t from h)
theorem mq_122 : mm_good 122 := fun t h => nomatch (show (none : Option mm_M) = some t from h)
theorem mq_123 : mm_good 123 := fun t h => nomatch (show (none : Option mm_M) = some t from h)
theorem mq_124 : mm_good 124 := fun t h => nomatch (show (none : Option mm_M) = some t from h)
theorem mq_125 : mm_good 125 := fun t h => nomatch (show (none : Option mm_M) = some t from h)
set_option maxRecDepth 100000 in
theorem mq_126 : mm_good 126 := mq_of (u := mt_126) rfl mo_126 mb_126
theorem mq_127 : mm_good 127 := fun t h => nomatch (show (none : Option mm_M) = some t from h)
theorem mq_128 : mm_good 128 := fun t h => nomatch (show (none : Option mm_M) = some t from h)
theorem mq_129 : mm_good 129 := fun t h => nomatch (show (none : Option mm_M) = some t from h)
theorem mq_130 : mm_good 130 := fun t h => nomatch (show (none : Option mm_M) = some t from h)
theorem mq_131 : mm_good 131 := fun t h => nomatch (show (none : Option mm_M) = some t from h)
theorem mq_132 : mm_good 132 := fun t h => nomatch (show (none : Option mm_M) = some t from h)
theorem mq_133 : mm_good 133 := fun t h => nomatch (show (none : Option mm_M) = some t from h)
theorem mq_134 : mm_good 134 := fun t h => nomatch (show (none : Option mm_M) = some t from h)
theorem mq_135 : mm_good 135 := fun t h => nomatch (show (none : Option mm_M) = some t from h)
set_option maxRecDepth 100000 in
theorem mq_136 : mm_good 136 := mq_of (u := mt_136) rfl mo_136 mb_136
set_option maxRecDepth 100000 in
theorem mq_137 : mm_good 137 := mq_of (u := mt_137) rfl mo_137 mb_137
set_option maxRecDepth 100000 in
theorem mq_138 : mm_good 138 := mq_of (u := mt_138) rfl mo_138 mb_138
set_option maxRecDepth 100000 in
theorem mq_139 : mm_good 139 := mq_of (u := mt_139) rfl mo_139 mb_139
set_option maxRecDepth 100000 in
theorem mq_140 : mm_good 140 := mq_of (u := mt_140) rfl mo_140 mb_140
set_option maxRecDepth 100000 in
theorem mq_141 : mm_good 141 := mq_of (u := mt_141) rfl mo_141 mb_141
set_option maxRecDepth 100000 in
theorem mq_142 : mm_good 142 := mq_of (u := mt_142) rfl mo_142 mb_142
set_option maxRecDepth 100000 in
theorem mq_143 : mm_good 143 := mq_of (u := mt_143) rfl mo_143 mb_143
set_option maxRecDepth 100000 in
theorem mq_144 : mm_good 144 := mq_of (u := mt_144) rfl mo_144 mb_144
set_option maxRecDepth 100000 in
theorem mq_145 : mm_good 145 := mq_of (u := mt_145) rfl mo_145 mb_145
set_option maxRecDepth 100000 in
theorem mq_146 : mm_good 146 := mq_of (u := mt_146) rfl mo_146 mb_146
theorem mq_147 : mm_good 147 := fun t h => nomatch (show (none : Option mm_M) = some t from h)
theorem mq_148 : mm_good 148 := fun t h => nomatch (show (none : Option mm_M) = some t from h)
theorem mq_149 : mm_good 149 := fun t h => nomatch (show (none : Option mm_M) = some t from h)
set_option maxRecDepth 100000 in
theorem mq_150 : mm_good 150 := mq_of (u := mt_150) rfl mo_150 mb_150
theorem mq_151 : mm_good 151 := fun t h => nomatch (show (none : Option mm_M) = some t from h)
theorem mq_152 : mm_good 152 := fun t h => nomatch (show (none : Option mm_M) = some t from h)
theorem mq_153 : mm_good 153 := fun t h => nomatch (show (none : Option mm_M) = some t from h)
theorem mq_154 : mm_good 154 := fun t h => nomatch (show (none : Option mm_M) = some t from h)
theorem mq_155 : mm_good 155 := fun t h => nomatch (show (none : Option mm_M) = some t from h)
set_option maxRecDepth 100000 in
theorem mq_156 : mm_good 156 := mq_of (u := mt_156) rfl mo_156 mb_156
set_option maxRecDepth 100000 in
theorem mq_157 : mm_good 157 := mq_of (u := mt_157) rfl mo_157 mb_157
set_option maxRecDepth 100000 in
theorem mq_158 : mm_good 158 := mq_of (u := mt_158) rfl mo_158 mb_158
theorem mq_159 : mm_good 159 := fun t h => nomatch (show (none : Option mm_M) = some t from h)
theorem mq_160 : mm_good 160 := fun t h => nomatch (show (none : Option mm_M) = some t from h)
set_option maxRecDepth 100000 in
theorem mq_161 : mm_good 161 := mq_of (u := mt_161) rfl mo_161 mb_161
set_option maxRecDepth 100000 in
theorem mq_162 : mm_good 162 := mq_of (u := mt_162) rfl mo_162 mb_162
set_option maxRecDepth 100000 in
theorem mq_163 : mm_good 163 := mq_of (u := mt_163) rfl mo_163 mb_163
set_option maxRecDepth 100000 in
theorem mq_164 : mm_good 164 := mq_of (u := mt_164) rfl mo_164 mb_164
set_option maxRecDepth 100000 in
theorem mq_165 : mm_good 165 := mq_of (u := mt_165) rfl mo_165 mb_165
set_option maxRecDepth 100000 in
theorem mq_166 : mm_good 166 := mq_of (u := mt_166) rfl mo_166 mb_166
set_option maxRecDepth 100000 in
theorem mq_167 : mm_good 167 := mq_of (u := mt_167) rfl mo_167 mb_167
set_option maxRecDepth 100000 in
theorem mq_168 : mm_good 168 := mq_of (u := mt_168) rfl mo_168 mb_168
set_option maxRecDepth 100000 in
theorem mq_169 : mm_good 169 := mq_of (u := mt_169) rfl mo_169 mb_169
set_option maxRecDepth 100000 in
theorem mq_170 : mm_good 170 := mq_of (u := mt_170) rfl mo_170 mb_170
theorem mq_171 : mm_good 171 := fun t h => nomatch (show (none : Option mm_M) = some t from h)
set_option maxRecDepth 100000 in
theorem mq_172 : mm_good 172 := mq_of (u := mt_172) rfl mo_172 mb_172
set_option maxRecDepth 100000 in
theorem mq_173 : mm_good 173 := mq_of (u := mt_173) rfl mo_173 mb_173
theorem mq_174 : mm_good 174 := fun t h => nomatch (show (none : Option mm_M) = some t from h)
theorem mq_175 : mm_good 175 := fun t h => nomatch (show (none : Option mm_M) = some t from h)
set_option maxRecDepth 100000 in
theorem mq_176 : mm_good 176 := mq_of (u := mt_176) rfl mo_176 mb_176
set_option maxRecDepth 100000 in
theorem mq_177 : mm_good 177 := mq_of (u := mt_177) rfl mo_177 mb_177
set_option maxRecDepth 100000 in
theorem mq_178 : mm_good 178 := mq_of (u := mt_178) rfl mo_178 mb_178
set_option maxRecDepth 100000 in
theorem mq_179 : mm_good 179 := mq_of (u := mt_179) rfl mo_179 mb_179
set_option maxRecDepth 100000 in
theorem mq_180 : mm_good 180 := mq_of (u := mt_180) rfl mo_180 mb_180
set_option maxRecDepth 100000 in
theorem mq_181 : mm_good 181 := mq_of (u := mt_181) rfl mo_181 mb_181
set_option maxRecDepth 100000 in
theorem mq_182 : mm_good 182 := mq_of (u := mt_182) rfl mo_182 mb_182
set_option maxRecDepth 100000 in
theorem mq_183 : mm_good 183 := mq_of (u := mt_183) rfl mo_183 mb_183
set_option maxRecDepth 100000 in
theorem mq_184 : mm_good 184 := mq_of (u := mt_184) rfl mo_184 mb_184
set_option maxRecDepth 100000 in
theorem mq_185 : mm_good 185 := mq_of (u := mt_185) rfl mo_185 mb_185
set_option maxRecDepth 100000 in
theorem mq_186 : mm_good 186 := mq_of (u := mt_186) rfl mo_186 mb_186
set_option maxRecDepth 100000 in
theorem mq_187 : mm_good 187 := mq_of (u := mt_187) rfl mo_187 mb_187
set_option maxRecDepth 100000 in
theorem mq_188 : mm_good 188 := mq_of (u := mt_188) rfl mo_188 mb_188
set_option maxRecDepth 100000 in
theorem mq_189 : mm_good 189 := mq_of (u := mt_189) rfl mo_189 mb_189
set_option maxRecDepth 100000 in
theorem mq_190 : mm_good 190 := mq_of (u := mt_190) rfl mo_190 mb_190
set_option maxRecDepth 100000 in
theorem mq_191 : mm_good 191 := mq_of (u := mt_191) rfl mo_191 mb_191
set_option maxRecDepth 100000 in
theorem mq_192 : mm_good 192 := mq_of (u := mt_192) rfl mo_192 mb_192
set_option maxRecDepth 100000 in
theorem mq_193 : mm_good 193 := mq_of (u := mt_193) rfl mo_193 mb_193
set_option maxRecDepth 100000 in
theorem mq_194 : mm_good 194 := mq_of (u := mt_194) rfl mo_194 mb_194
set_option maxRecDepth 100000 in
theorem mq_195 : mm_good 195 := mq_of (u := mt_195) rfl mo_195 mb_195
set_option maxRecDepth 100000 in
theorem mq_196 : mm_good 196 := mq_of (u := mt_196) rfl mo_196 mb_196
set_option maxRecDepth 100000 in
theorem mq_197 : mm_good 197 := mq_of (u := mt_197) rfl mo_197 mb_197
set_option maxRecDepth 100000 in
theorem mq_198 : mm_good 198 := mq_of (u := mt_198) rfl mo_198 mb_198
set_option maxRecDepth 100000 in
theorem mq_199 : mm_good 199 := mq_of (u := mt_199) rfl mo_199 mb_199
set_option maxRecDepth 100000 in
theorem mq_200 : mm_good 200 := mq_of (u := mt_200) rfl mo_200 mb_200
set_option maxRecDepth 100000 in
theorem mq_201 : mm_good 201 := mq_of (u := mt_201) rfl mo_201 mb_201
set_option maxRecDepth 100000 in
theorem mq_202 : mm_good 202 := mq_of (u := mt_202) rfl mo_202 mb_202
set_option maxRecDepth 100000 in
theorem mq_203 : mm_good 203 := mq_of (u := mt_203) rfl mo_203 mb_203
set_option maxRecDepth 100000 in
theorem mq_204 : mm_good 204 := mq_of (u := mt_204) rfl mo_204 mb_204
set_option maxRecDepth 100000 in
theorem mq_205 : mm_good 205 := mq_of (u := mt_205) rfl mo_205 mb_205
set_option maxRecDepth 100000 in
theorem mq_206 : mm_good 206 := mq_of (u := mt_206) rfl mo_206 mb_206
set_option maxRecDepth 100000 in
theorem mq_207 : mm_good 207 := mq_of (u := mt_207) rfl mo_207 mb_207
set_option maxRecDepth 100000 in
theorem mq_208 : mm_good 208 := mq_of (u := mt_208) rfl mo_208 mb_208
set_option maxRecDepth 100000 in
theorem mq_209 : mm_good 209 := mq_of (u := mt_209) rfl mo_209 mb_209
set_option maxRecDepth 100000 in
theorem mq_210 : mm_good 210 := mq_of (u := mt_210) rfl mo_210 mb_210
set_option maxRecDepth 100000 in
theorem mq_211 : mm_good 211 := mq_of (u := mt_211) rfl mo_211 mb_211
set_option maxRecDepth 100000 in
theorem mq_212 : mm_good 212 := mq_of (u := mt_212) rfl mo_212 mb_212
set_option maxRecDepth 100000 in
theorem mq_213 : mm_good 213 := mq_of (u := mt_213) rfl mo_213 mb_213
theorem mq_214 : mm_good 214 := fun t h => nomatch (show (none : Option mm_M) = some t from h)
theorem mq_215 : mm_good 215 := fun t h => nomatch (show (none : Option mm_M) = some t from h)
theorem mq_216 : mm_good 216 := fun t h => nomatch (show (none : Option mm_M) = some t from h)
theorem mq_217 : mm_good 217 := fun t h => nomatch (show (none : Option mm_M) = some t from h)
theorem mq_218 : mm_good 218 := fun t h => nomatch (show (none : Option mm_M) = some t from h)
theorem mq_219 : mm_good 219 := fun t h => nomatch (show (none : Option mm_M) = some t from h)
theorem mq_220 : mm_good 220 := fun t h => nomatch (show (none : Option mm_M) = some t from h)
theorem mq_221 : mm_good 221 := fun t h => nomatch (show (none : Option mm_M) = some t from h)
theorem mq_222 : mm_good 222 := fun t h => nomatch (show (none : Option mm_M) = some t from h)
theorem mq_223 : mm_good 223 := fun t h => nomatch (show (none : Option mm_M) = some t from h)
theorem mq_224 : mm_good 224 := fun t h => nomatch (show (none : Option mm_M) = some t from h)
theorem mq_225 : mm_good 225 := fun t h => nomatch (show (none : Option mm_M) = some t from h)
theorem mq_226 : mm_good 226 := fun t h => nomatch (show (none : Option mm_M) = some t from h)
theorem mq_227 : mm_good 227 := fun t h => nomatch (show (none : Option mm_M) = some t from h)
theorem mq_228 : mm_good 228 := fun t h => nomatch (show (none : Option mm_M) = some t from h)
theorem mq_229 : mm_good 229 := fun t h => nomatch (show (none : Option mm_M) = some t from h)
theorem mq_230 : mm_good 230 := fun t h => nomatch (show (none : Option mm_M) = some t from h)
theorem mq_231 : mm_good 231 := fun t h => nomatch (show (none : Option mm_M) = some t from h)
theorem mq_232 : mm_good 232 := fun t h => nomatch (show (none : Option mm_M) = some t from h)
theorem mq_233 : mm_good 233 := fun t h => nomatch (show (none : Option mm_M) = some t from h)
theorem mq_234 : mm_good 234 := fun t h => nomatch (show (none : Option mm_M) = some t from h)
theorem mq_235 : mm_good 235 := fun t h => nomatch (show (none : Option mm_M) = some t from h)
theorem mq_236 : mm_good 236 := fun t h => nomatch (show (none : Option mm_M) = some t from h)
theorem mq_237 : mm_good 237 := fun t h => nomatch (show (none : Option mm_M) = some t from h)
theorem mq_238 : mm_good 238 := fun t h => nomatch (show (none : Option mm_M) = some t from h)
theorem mq_239 : mm_good 239 := fun t h => nomatch (show (none : Option mm_M) = some t from h)
theorem mq_240 : mm_good 240 := fun t h => nomatch (show (none : Option mm_M) = some t from h)
theorem mq_241 : mm_good 241 := fun t h => nomatch (show (none : Option mm_M) = some t from h)
theorem mq_242 : mm_good 242 := fun t h => nomatch (show (none : Option mm_M) = some t from h)
theorem mq_243 : mm_good 243 := fun t h => nomatch (show (none : Option mm_M) = some t from h)
theorem mq_244 : mm_good 244 := fun t h => nomatch (show (none : Option mm_M) = some t from h)
theorem mq_245 : mm_good 245 := fun t h => nomatch (show (none : Option mm_M) = some t from h)
theorem mq_246 : mm_good 246 := fun t h => nomatch (show (none : Option mm_M) = some t from h)
theorem mq_247 : mm_good 247 := fun t h => nomatch (show (none : Option mm_M) = some t from h)
theorem mq_248 : mm_good 248 := fun t h => nomatch (show (none : Option mm_M) = some t from h)
theorem mq_249 : mm_good 249 := fun t h => nomatch (show (none : Option mm_M) = some t from h)
theorem mq_250 : mm_good 250 := fun t h => nomatch (show (none : Option mm_M) = some t from h)
theorem mq_251 : mm_good 251 := fun t h => nomatch (show (none : Option mm_M) = some t from h)
theorem mq_252 : mm_good 252 := fun t h => nomatch (show (none : Option mm_M) = some t from h)
theorem mq_253 : mm_good 253 := fun t h => nomatch (show (none : Option mm_M) = some t from h)
theorem mq_254 : mm_good 254 := fun t h => nomatch (show (none : Option mm_M) = some t from h)
theorem mq_255 : mm_good 255 := fun t h => nomatch (show (none : Option mm_M) = some t from h)
theorem mq_256 : mm_good 256 := fun t h => nomatch (show (none : Option mm_M) = some t from h)
theorem mq_257 : mm_good 257 := fun t h => nomatch (show (none : Option mm_M) = some t from h)
theorem mq_258 : mm_good 258 := fun t h => nomatch (show (none : Option mm_M) = some t from h)
theorem mq_259 : mm_good 259 := fun t h => nomatch (show (none : Option mm_M) = some t from h)
theorem mq_260 : mm_good 260 := fun t h => nomatch (show (none : Option mm_M) = some t from h)
theorem mq_261 : mm_good 261 := fun t h => nomatch (show (none : Option mm_M) = some t from h)
theorem mq_262 : mm_good 262 := fun t h => nomatch (show (none : Option mm_M) = some t from h)
theorem mq_263 : mm_good 263 := fun t h => nomatch (show (none : Option mm_M) = some t from h)
theorem mq_264 : mm_good 264 := fun t h => nomatch (show (none : Option mm_M) = some t from h)
theorem mq_265 : mm_good 265 := fun t h => nomatch (show (none : Option mm_M) = some t from h)
theorem mq_266 : mm_good 266 := fun t h => nomatch (show (none : Option mm_M) = some t from h)
theorem mq_267 : mm_good 267 := fun t h => nomatch (show (none : Option mm_M) = some t from h)
theorem mq_268 : mm_good 268 := fun t h => nomatch (show (none : Option mm_M) = some t from h)
theorem mq_269 : mm_good 269 := fun t h => nomatch (show (none : Option mm_M) = some t from h)
theorem mq_270 : mm_good 270 := fun t h => nomatch (show (none : Option mm_M) = some t from h)
theorem mq_271 : mm_good 271 := fun t h => nomatch (show (none : Option mm_M) = some t from h)
theorem mq_272 : mm_good 272 := fun t h => nomatch (show (none : Option mm_M) = some t from h)
theorem mq_273 : mm_good 273 := fun t h => nomatch (show (none : Option mm_M) = some t from h)
theorem mq_274 : mm_good 274 := fun t h => nomatch (show (none : Option mm_M) = some t from h)
theorem mq_275 : mm_good 275 := fun t h => nomatch (show (none : Option mm_M) = some t from h)
theorem mq_276 : mm_good 276 := fun t h => nomatch (show (none : Option mm_M) = some t from h)
theorem mq_277 : mm_good 277 := fun t h => nomatch (show (none : Option mm_M) = some t from h)
theorem mq_278 : mm_good 278 := fun t h => nomatch (show (none : Option mm_M) = some t from h)
theorem mq_279 : mm_good 279 := fun t h => nomatch (show (none : Option mm_M) = some t from h)
theorem mq_280 : mm_good 280 := fun t h => nomatch (show (none : Option mm_M) = some t from h)
theorem mq_281 : mm_good 281 := fun t h => nomatch (show (none : Option mm_M) = some t from h)
theorem mq_282 : mm_good 282 := fun t h => nomatch (show (none : Option mm_M) = some t from h)
theorem mq_283 : mm_good 283 := fun t h => nomatch (show (none : Option mm_M) = some t from h)
theorem mq_284 : mm_good 284 := fun t h => nomatch (show (none : Option mm_M) = some t from h)
theorem mq_285 : mm_good 285 := fun t h => nomatch (show (none : Option mm_M) = some t from h)
theorem mq_286 : mm_good 286 := fun t h => nomatch (show (none : Option mm_M) = some t from h)
theorem mq_287 : mm_good 287 := fun t h => nomatch (show (none : Option mm_M) = some t from h)
theorem mq_288 : mm_good 288 := fun t h => nomatch (show (none : Option mm_M) = some t from h)
theorem mq_289 : mm_good 289 := fun t h => nomatch (show (none : Option mm_M) = some t from h)
theorem mq_290 : mm_good 290 := fun t h => nomatch (show (none : Option mm_M) = some t from h)
theorem mq_291 : mm_good 291 := fun t h => nomatch (show (none : Option mm_M) = some t from h)
theorem mq_292 : mm_good 292 := fun t h => nomatch (show (none : Option mm_M) = some t from h)
theorem mq_293 : mm_good 293 := fun t h => nomatch (show (none : Option mm_M) = some t from h)
theorem mq_294 : mm_good 294 := fun t h => nomatch (show (none : Option mm_M) = some t from h)
theorem mq_295 : mm_good 295 := fun t h => nomatch (show (none : Option mm_M) = some t from h)
theorem mq_296 : mm_good 296 := fun t h => nomatch (show (none : Option mm_M) = some t from h)
theorem mq_297 : mm_good 297 := fun t h => nomatch (show (none : Option mm_M) = some t from h)
theorem mq_298 : mm_good 298 := fun t h => nomatch (show (none : Option mm_M) = some t from h)
theorem mq_299 : mm_good 299 := fun t h => nomatch (show (none : Option mm_M) = some t from h)
theorem mq_300 : mm_good 300 := fun t h => nomatch (show (none : Option mm_M) = some t from h)
theorem mq_301 : mm_good 301 := fun t h => nomatch (show (none : Option mm_M) = some t from h)
theorem mq_302 : mm_good 302 := fun t h => nomatch (show (none : Option mm_M) = some t from h)
theorem mq_303 : mm_good 303 := fun t h => nomatch (show (none : Option mm_M) = some t from h)
theorem mq_304 : mm_good 304 := fun t h => nomatch (show (none : Option mm_M) = some t from h)
theorem mq_305 : mm_good 305 := fun t h => nomatch (show (none : Option mm_M) = some t from h)
theorem mq_306 : mm_good 306 := fun t h => nomatch (show (none : Option mm_M) = some t from h)
theorem mq_307 : mm_good 307 := fun t h => nomatch (show (none : Option mm_M) = some t from h)
theorem mq_308 : mm_good 308 := fun t h => nomatch (show (none : Option mm_M) = some t from h)
theorem mq_309 : mm_good 309 := fun t h => nomatch (show (none : Option mm_M) = some t from h)
theorem mq_310 : mm_good 310 := fun t h => nomatch (show (none : Option mm_M) = some t from h)
theorem mq_311 : mm_good 311 := fun t h => nomatch (show (none : Option mm_M) = some t from h)
theorem mq_312 : mm_good 312 := fun t h => nomatch (show (none : Option mm_M) = some t from h)
theorem mq_313 : mm_good 313 := fun t h => nomatch (show (none : Option mm_M) = some t from h)
theorem mq_314 : mm_good 314 := fun t h => nomatch (show (none : Option mm_M) = some t from h)
theorem mq_315 : mm_good 315 := fun t h => nomatch (show (none : Option mm_M) = some t from h)
theorem mq_316 : mm_good 316 := fun t h => nomatch (show (none : Option mm_M) = some t from h)
theorem mq_317 : mm_good 317 := fun t h => nomatch (show (none : Option mm_M) = some t from h)
theorem mq_318 : mm_good 318 := fun t h => nomatch (show (none : Option mm_M) = some t from h)
theorem mq_319 : mm_good 319 := fun t h => nomatch (show (none : Option mm_M) = some t from h)
theorem mq_320 : mm_good 320 := fun t h => nomatch (show (none : Option mm_M) = some t from h)
theorem mq_321 : mm_good 321 := fun t h => nomatch (show (none : Option mm_M) = some t from h)
theorem mq_322 : mm_good 322 := fun t h => nomatch (show (none : Option mm_M) = some t from h)
theorem mq_323 : mm_good 323 := fun t h => nomatch (show (none : Option mm_M) = some t from h)
theorem mq_324 : mm_good 324 := fun t h => nomatch (show (none : Option mm_M) = some t from h)
theorem mq_325 : mm_good 325 := fun t h => nomatch (show (none : Option mm_M) = some t from h)
theorem mq_326 : mm_good 326 := fun t h => nomatch (show (none : Option mm_M) = some t from h)
theorem mq_327 : mm_good 327 := fun t h => nomatch (show (none : Option mm_M) = some t from h)
theorem mq_328 : mm_good 328 := fun t h => nomatch (show (none : Option mm_M) = some t from h)
theorem mq_329 : mm_good 329 := fun t h => nomatch (show (none : Option mm_M) = some t from h)
set_option maxRecDepth 100000 in
theorem mq_330 : mm_good 330 := mq_of (u := mt_330) rfl mo_330 mb_330
set_option maxRecDepth 100000 in
theorem mq_331 : mm_good 331 := mq_of (u := mt_331) rfl mo_331 mb_331
set_option maxRecDepth 100000 in
theorem mq_332 : mm_good 332 := mq_of (u := mt_332) rfl mo_332 mb_332
set_option maxRecDepth 100000 in
theorem mq_333 : mm_good 333 := mq_of (u := mt_333) rfl mo_333 mb_333
set_option maxRecDepth 100000 in
theorem mq_334 : mm_good 334 := mq_of (u := mt_334) rfl mo_334 mb_334
set_option maxRecDepth 100000 in
theorem mq_335 : mm_good 335 := mq_of (u := mt_335) rfl mo_335 mb_335
set_option maxRecDepth 100000 in
theorem mq_336 : mm_good 336 := mq_of (u := mt_336) rfl mo_336 mb_336
theorem mq_337 : mm_good 337 := fun t h => nomatch (show (none : Option mm_M) = some t from h)
theorem mq_338 : mm_good 338 := fun t h => nomatch (show (none : Option mm_M) = some t from h)
theorem mq_339 : mm_good 339 := fun t h => nomatch (show (none : Option mm_M) = some t from h)
theorem mq_340 : mm_good 340 := fun t h => nomatch (show (none : Option mm_M) = some t from h)
set_option maxRecDepth 100000 in
theorem mq_341 : mm_good 341 := mq_of (u := mt_341) rfl mo_341 mb_341
set_option maxRecDepth 100000 in
theorem mq_342 : mm_good 342 := mq_of (u := mt_342) rfl mo_342 mb_342
theorem mr_0 : ∀ a, a < 0 → mm_good a := lt_0
theorem mr_1 : ∀ a, a < 1 → mm_good a := lt_s mr_0 mq_0
theorem mr_2 : ∀ a, a < 2 → mm_good a := lt_s mr_1 mq_1
theorem mr_3 : ∀ a, a < 3 → mm_good a := lt_s mr_2 mq_2
theorem mr_4 : ∀ a, a < 4 → mm_good a := lt_s mr_3 mq_3
theorem mr_5 : ∀ a, a < 5 → mm_good a := lt_s mr_4 mq_4
theorem mr_6 : ∀ a, a < 6 → mm_good a := lt_s mr_5 mq_5
theorem mr_7 : ∀ a, a < 7 → mm_good a := lt_s mr_6 mq_6
theorem mr_8 : ∀ a, a < 8 → mm_good a := lt_s mr_7 mq_7
theorem mr_9 : ∀ a, a < 9 → mm_good a := lt_s mr_8 mq_8
theorem mr_10 : ∀ a, a < 10 → mm_good a := lt_s mr_9 mq_9
theorem mr_11 : ∀ a, a < 11 → mm_good a := lt_s mr_10 mq_10
theorem mr_12 : ∀ a, a < 12 → mm_good a := lt_s mr_11 mq_11
theorem mr_13 : ∀ a, a < 13 → mm_good a := lt_s mr_12 mq_12
theorem mr_14 : ∀ a, a < 14 → mm_good a := lt_s mr_13 mq_13
theorem mr_15 : ∀ a, a < 15 → mm_good a := lt_s mr_14 mq_14
theorem mr_16 : ∀ a, a < 16 → mm_good a := lt_s mr_15 mq_15
theorem mr_17 : ∀ a, a < 17 → mm_good a := lt_s mr_16 mq_16
theorem mr_18 : ∀ a, a < 18 → mm_good a := lt_s mr_17 mq_17
theorem mr_19 : ∀ a, a < 19 → mm_good a := lt_s mr_18 mq_18
theorem mr_20 : ∀ a, a < 20 → mm_good a := lt_s mr_19 mq_19
theorem mr_21 : ∀ a, a < 21 → mm_good a := lt_s mr_20 mq_20
theorem mr_22 : ∀ a, a < 22 → mm_good a := lt_s mr_21 mq_21
theorem mr_23 : ∀ a, a < 23 → mm_good a := lt_s mr_22 mq_22
theorem mr_24 : ∀ a, a < 24 → mm_good a := lt_s mr_23 mq_23
theorem mr_25 : ∀ a, a < 25 → mm_good a := lt_s mr_24 mq_24
theorem mr_26 : ∀ a, a < 26 → mm_good a := lt_s mr_25 mq_25
theorem mr_27 : ∀ a, a < 27 → mm_good a := lt_s mr_26 mq_26
theorem mr_28 : ∀ a, a < 28 → mm_good a := lt_s mr_27 mq_27
theorem mr_29 : ∀ a, a < 29 → mm_good a := lt_s mr_28 mq_28
theorem mr_30 : ∀ a, a < 30 → mm_good a := lt_s mr_29 mq_29
theorem mr_31 : ∀ a, a < 31 → mm_good a := lt_s mr_30 mq_30
theorem mr_32 : ∀ a, a < 32 → mm_good a := lt_s mr_31 mq_31
theorem mr_33 : ∀ a, a < 33 → mm_good a := lt_s mr_32 mq_32
theorem mr_34 : ∀ a, a < 34 → mm_good a := lt_s mr_33 mq_33
theorem mr_35 : ∀ a, a < 35 → mm_good a := lt_s mr_34 mq_34
theorem mr_36 : ∀ a, a < 36 → mm_good a := lt_s mr_35 mq_35
theorem mr_37 : ∀ a, a < 37 → mm_good a := lt_s mr_36 mq_36
theorem mr_38 : ∀ a, a < 38 → mm_good a := lt_s mr_37 mq_37
theorem mr_39 : ∀ a, a < 39 → mm_good a := lt_s mr_38 mq_38
theorem mr_40 : ∀ a, a < 40 → mm_good a := lt_s mr_39 mq_39
theorem mr_41 : ∀ a, a < 41 → mm_good a := lt_s mr_40 mq_40
theorem mr_42 : ∀ a, a < 42 → mm_good a := lt_s mr_41 mq_41
theorem mr_43 : ∀ a, a < 43 → mm_good a := lt_s mr_42 mq_42
theorem mr_44 : ∀ a, a < 44 → mm_good a := lt_s mr_43 mq_43
theorem mr_45 : ∀ a, a < 45 → mm_good a := lt_s mr_44 mq_44
theorem mr_46 : ∀ a, a < 46 → mm_good a := lt_s mr_45 mq_45
theorem mr_47 : ∀ a, a < 47 → mm_good a := lt_s mr_46 mq_46
theorem mr_48 : ∀ a, a < 48 → mm_good a := lt_s mr_47 mq_47
theorem mr_49 : ∀ a, a < 49 → mm_good a := lt_s mr_48 mq_48
theorem mr_50 : ∀ a, a < 50 → mm_good a := lt_s mr_49 mq_49
theorem mr_51 : ∀ a, a < 51 → mm_good a := lt_s mr_50 mq_50
theorem mr_52 : ∀ a, a < 52 → mm_good a := lt_s mr_51 mq_51
theorem mr_53 : ∀ a, a < 53 → mm_good a := lt_s mr_52 mq_52
theorem mr_54 : ∀ a, a < 54 → mm_good a := lt_s mr_53 mq_53
theorem mr_55 : ∀ a, a < 55 → mm_good a := lt_s mr_54 mq_54
theorem mr_56 : ∀ a, a < 56 → mm_good a := lt_s mr_55 mq_55
theorem mr_57 : ∀ a, a < 57 → mm_good a := lt_s mr_56 mq_56
theorem mr_58 : ∀ a, a < 58 → mm_good a := lt_s mr_57 mq_57
theorem mr_59 : ∀ a, a < 59 → mm_good a := lt_s mr_58 mq_58
theorem mr_60 : ∀ a, a < 60 → mm_good a := lt_s mr_59 mq_59
theorem mr_61 : ∀ a, a < 61 → mm_good a := lt_s mr_60 mq_60
theorem mr_62 : ∀ a, a < 62 → mm_good a := lt_s mr_61 mq_61
theorem mr_63 : ∀ a, a < 63 → mm_good a := lt_s mr_62 mq_62
theorem mr_64 : ∀ a, a < 64 → mm_good a := lt_s mr_63 mq_63
theorem mr_65 : ∀ a, a < 65 → mm_good a := lt_s mr_64 mq_64
theorem mr_66 : ∀ a, a < 66 → mm_good a := lt_s mr_65 mq_65
theorem mr_67 : ∀ a, a < 67 → mm_good a := lt_s mr_66 mq_66
theorem mr_68 : ∀ a, a < 68 → mm_good a := lt_s mr_67 mq_67
theorem mr_69 : ∀ a, a < 69 → mm_good a := lt_s mr_68 mq_68
theorem mr_70 : ∀ a, a < 70 → mm_good a := lt_s mr_69 mq_69
theorem mr_71 : ∀ a, a < 71 → mm_good a := lt_s mr_70 mq_70
theorem mr_72 : ∀ a, a < 72 → mm_good a := lt_s mr_71 mq_71
theorem mr_73 : ∀ a, a < 73 → mm_good a := lt_s mr_72 mq_72
theorem mr_74 : ∀ a, a < 74 → mm_good a := lt_s mr_73 mq_73
theorem mr_75 : ∀ a, a < 75 → mm_good a := lt_s mr_74 mq_74
theorem mr_76 : ∀ a, a < 76 → mm_good a := lt_s mr_75 mq_75
theorem mr_77 : ∀ a, a < 77 → mm_good a := lt_s mr_76 mq_76
theorem mr_78 : ∀ a, a < 78 → mm_good a := lt_s mr_77 mq_77
theorem mr_79 : ∀ a, a < 79 → mm_good a := lt_s mr_78 mq_78
theorem mr_80 : ∀ a, a < 80 → mm_good a := lt_s mr_79 mq_79
theorem mr_81 : ∀ a, a < 81 → mm_good a := lt_s mr_80 mq_80
theorem mr_82 : ∀ a, a < 82 → mm_good a := lt_s mr_81 mq_81
theorem mr_83 : ∀ a, a < 83 → mm_good a := lt_s mr_82 mq_82
theorem mr_84 : ∀ a, a < 84 → mm_good a := lt_s mr_83 mq_83
theorem mr_85 : ∀ a, a < 85 → mm_good a := lt_s mr_84 mq_84
theorem mr_86 : ∀ a, a < 86 → mm_good a := lt_s mr_85 mq_85
theorem mr_87 : ∀ a, a < 87 → mm_good a := lt_s mr_86 mq_86
theorem mr_88 : ∀ a, a < 88 → mm_good a := lt_s mr_87 mq_87
theorem mr_89 : ∀ a, a < 89 → mm_good a := lt_s mr_88 mq_88
theorem mr_90 : ∀ a, a < 90 → mm_good a := lt_s mr_89 mq_89
theorem mr_91 : ∀ a, a < 91 → mm_good a := lt_s mr_90 mq_90
theorem mr_92 : ∀ a, a < 92 → mm_good a := lt_s mr_91 mq_91
theorem mr_93 : ∀ a, a < 93 → mm_good a := lt_s mr_92 mq_92
theorem mr_94 : ∀ a, a < 94 → mm_good a := lt_s mr_93 mq_93
theorem mr_95 : ∀ a, a < 95 → mm_good a := lt_s mr_94 mq_94
theorem mr_96 : ∀ a, a < 96 → mm_good a := lt_s mr_95 mq_95
theorem mr_97 : ∀ a, a < 97 → mm_good a := lt_s mr_96 mq_96
theorem mr_98 : ∀ a, a < 98 → mm_good a := lt_s mr_97 mq_97
theorem mr_99 : ∀ a, a < 99 → mm_good a := lt_s mr_98 mq_98
theorem mr_100 : ∀ a, a < 100 → mm_good a := lt_s mr_99 mq_99
theorem mr_101 : ∀ a, a < 101 → mm_good a := lt_s mr_100 mq_100
theorem mr_102 : ∀ a, a < 102 → mm_good a := lt_s mr_101 mq_101
theorem mr_103 : ∀ a, a < 103 → mm_good a := lt_s mr_102 mq_102
theorem mr_104 : ∀ a, a < 104 → mm_good a := lt_s mr_103 mq_103
theorem mr_105 : ∀ a, a < 105 → mm_good a := lt_s mr_104 mq_104
theorem mr_106 : ∀ a, a < 106 → mm_good a := lt_s mr_105 mq_105
theorem mr_107 : ∀ a, a < 107 → mm_good a := lt_s mr_106 mq_106
theorem mr_108 : ∀ a, a < 108 → mm_good a := lt_s mr_107 mq_107
theorem mr_109 : ∀ a, a < 109 → mm_good a := lt_s mr_108 mq_108
theorem mr_110 : ∀ a, a < 110 → mm_good a := lt_s mr_109 mq_109
theorem mr_111 : ∀ a, a < 111 → mm_good a := lt_s mr_110 mq_110
theorem mr_112 : ∀ a, a < 112 → mm_good a := lt_s mr_111 mq_111
theorem mr_113 : ∀ a, a < 113 → mm_good a := lt_s mr_112 mq_112
theorem mr_114 : ∀ a, a < 114 → mm_good a := lt_s mr_113 mq_113
theorem mr_115 : ∀ a, a < 115 → mm_good a := lt_s mr_114 mq_114
theorem mr_116 : ∀ a, a < 116 → mm_good a := lt_s mr_115 mq_115
theorem mr_117 : ∀ a, a < 117 → mm_good a := lt_s mr_116 mq_116
theorem mr_118 : ∀ a, a < 118 → mm_good a := lt_s mr_117 mq_117
theorem mr_119 : ∀ a, a < 119 → mm_good a := lt_s mr_118 mq_118
theorem mr_120 : ∀ a, a < 120 → mm_good a := lt_s mr_119 mq_119
theorem mr_121 : ∀ a, a < 121 → mm_good a := lt_s mr_120 mq_120
theorem mr_122 : ∀ a, a < 122 → mm_good a := lt_s mr_121 mq_121
theorem mr_123 : ∀ a, a < 123 → mm_good a := lt_s mr_122 mq_122
theorem mr_124 : ∀ a, a < 124 → mm_good a := lt_s mr_123 mq_123
theorem mr_125 : ∀ a, a < 125 → mm_good a := lt_s mr_124 mq_124
theorem mr_126 : ∀ a, a < 126 → mm_good a := lt_s mr_125 mq_125
theorem mr_127 : ∀ a, a < 127 → mm_good a := lt_s mr_126 mq_126
theorem mr_128 : ∀ a, a < 128 → mm_good a := lt_s mr_127 mq_127
theorem mr_129 : ∀ a, a < 129 → mm_good a := lt_s mr_128 mq_128
theorem mr_130 : ∀ a, a < 130 → mm_good a := lt_s mr_129 mq_129
theorem mr_131 : ∀ a, a < 131 → mm_good a := lt_s mr_130 mq_130
theorem mr_132 : ∀ a, a < 132 → mm_good a := lt_s mr_131 mq_131
theorem mr_133 : ∀ a, a < 133 → mm_good a := lt_s mr_132 mq_132
theorem mr_134 : ∀ a, a < 134 → mm_good a := lt_s mr_133 mq_133
theorem mr_135 : ∀ a, a < 135 → mm_good a := lt_s mr_134 mq_134
theorem mr_136 : ∀ a, a < 136 → mm_good a := lt_s mr_135 mq_135
theorem mr_137 : ∀ a, a < 137 → mm_good a := lt_s mr_136 mq_136
theorem mr_138 : ∀ a, a < 138 → mm_good a := lt_s mr_137 mq_137
theorem mr_139 : ∀ a, a < 139 → mm_good a := lt_s mr_138 mq_138
theorem mr_140 : ∀ a, a < 140 → mm_good a := lt_s mr_139 mq_139
theorem mr_141 : ∀ a, a < 141 → mm_good a := lt_s mr_140 mq_140
theorem mr_142 : ∀ a, a < 142 → mm_good a := lt_s mr_141 mq_141
theorem mr_143 : ∀ a, a < 143 → mm_good a := lt_s mr_142 mq_142
theorem mr_144 : ∀ a, a < 144 → mm_good a := lt_s mr_143 mq_143
theorem mr_145 : ∀ a, a < 145 → mm_good a := lt_s mr_144 mq_144
theorem mr_146 : ∀ a, a < 146 → mm_good a := lt_s mr_145 mq_145
theorem mr_147 : ∀ a, a < 147 → mm_good a := lt_s mr_146 mq_146
theorem mr_148 : ∀ a, a < 148 → mm_good a := lt_s mr_147 mq_147
theorem mr_149 : ∀ a, a < 149 → mm_good a := lt_s mr_148 mq_148
theorem mr_150 : ∀ a, a < 150 → mm_good a := lt_s mr_149 mq_149
theorem mr_151 : ∀ a, a < 151 → mm_good a := lt_s mr_150 mq_150
theorem mr_152 : ∀ a, a < 152 → mm_good a := lt_s mr_151 mq_151
theorem mr_153 : ∀ a, a < 153 → mm_good a := lt_s mr_152 mq_152
theorem mr_154 : ∀ a, a < 154 → mm_good a := lt_s mr_153 mq_153
theorem mr_155 : ∀ a, a < 155 → mm_good a := lt_s mr_154 mq_154
theorem mr_156 : ∀ a, a < 156 → mm_good a := lt_s mr_155 mq_155
theorem mr_157 : ∀ a, a < 157 → mm_good a := lt_s mr_156 mq_156
theorem mr_158 : ∀ a, a < 158 → mm_good a := lt_s mr_157 mq_157
theorem mr_159 : ∀ a, a < 159 → mm_good a := lt_s mr_158 mq_158
theorem mr_160 : ∀ a, a < 160 → mm_good a := lt_s mr_159 mq_159
theorem mr_161 : ∀ a, a < 161 → mm_good a := lt_s mr_160 mq_160
theorem mr_162 : ∀ a, a < 162 → mm_good a := lt_s mr_161 mq_161
theorem mr_163 : ∀ a, a < 163 → mm_good a := lt_s mr_162 mq_162
theorem mr_164 : ∀ a, a < 164 → mm_good a := lt_s mr_163 mq_163
theorem mr_165 : ∀ a, a < 165 → mm_good a := lt_s mr_164 mq_164
theorem mr_166 : ∀ a, a < 166 → mm_good a := lt_s mr_165 mq_165
theorem mr_167 : ∀ a, a < 167 → mm_good a := lt_s mr_166 mq_166
theorem mr_168 : ∀ a, a < 168 → mm_good a := lt_s mr_167 mq_167
theorem mr_169 : ∀ a, a < 169 → mm_good a := lt_s mr_168 mq_168
theorem mr_170 : ∀ a, a < 170 → mm_good a := lt_s mr_169 mq_169
theorem mr_171 : ∀ a, a < 171 → mm_good a := lt_s mr_170 mq_170
theorem mr_172 : ∀ a, a < 172 → mm_good a := lt_s mr_171 mq_171
theorem mr_173 : ∀ a, a < 173 → mm_good a := lt_s mr_172 mq_172
theorem mr_174 : ∀ a, a < 174 → mm_good a := lt_s mr_173 mq_173
theorem mr_175 : ∀ a, a < 175 → mm_good a := lt_s mr_174 mq_174
theorem mr_176 : ∀ a, a < 176 → mm_good a := lt_s mr_175 mq_175
theorem mr_177 : ∀ a, a < 177 → mm_good a := lt_s mr_176 mq_176
theorem mr_178 : ∀ a, a < 178 → mm_good a := lt_s mr_177 mq_177
theorem mr_179 : ∀ a, a < 179 → mm_good a := lt_s mr_178 mq_178
theorem mr_180 : ∀ a, a < 180 → mm_good a := lt_s mr_179 mq_179
theorem mr_181 : ∀ a, a < 181 → mm_good a := lt_s mr_180 mq_180
theorem mr_182 : ∀ a, a < 182 → mm_good a := lt_s mr_181 mq_181
theorem mr_183 : ∀ a, a < 183 → mm_good a := lt_s mr_182 mq_182
theorem mr_184 : ∀ a, a < 184 → mm_good a := lt_s mr_183 mq_183
theorem mr_185 : ∀ a, a < 185 → mm_good a := lt_s mr_184 mq_184
theorem mr_186 : ∀ a, a < 186 → mm_good a := lt_s mr_185 mq_185
theorem mr_187 : ∀ a, a < 187 → mm_good a := lt_s mr_186 mq_186
theorem mr_188 : ∀ a, a < 188 → mm_good a := lt_s mr_187 mq_187
theorem mr_189 : ∀ a, a < 189 → mm_good a := lt_s mr_188 mq_188
theorem mr_190 : ∀ a, a < 190 → mm_good a := lt_s mr_189 mq_189
theorem mr_191 : ∀ a, a < 191 → mm_good a := lt_s mr_190 mq_190
theorem mr_192 : ∀ a, a < 192 → mm_good a := lt_s mr_191 mq_191
theorem mr_193 : ∀ a, a < 193 → mm_good a := lt_s mr_192 mq_192
theorem mr_194 : ∀ a, a < 194 → mm_good a := lt_s mr_193 mq_193
theorem mr_195 : ∀ a, a < 195 → mm_good a := lt_s mr_194 mq_194
theorem mr_196 : ∀ a, a < 196 → mm_good a := lt_s mr_195 mq_195
theorem mr_197 : ∀ a, a < 197 → mm_good a := lt_s mr_196 mq_196
theorem mr_198 : ∀ a, a < 198 → mm_good a := lt_s mr_197 mq_197
theorem mr_199 : ∀ a, a < 199 → mm_good a := lt_s mr_198 mq_198
theorem mr_200 : ∀ a, a < 200 → mm_good a := lt_s mr_199 mq_199
theorem mr_201 : ∀ a, a < 201 → mm_good a := lt_s mr_200 mq_200
theorem mr_202 : ∀ a, a < 202 → mm_good a := lt_s mr_201 mq_201
theorem mr_203 : ∀ a, a < 203 → mm_good a := lt_s mr_202 mq_202
theorem mr_204 : ∀ a, a < 204 → mm_good a := lt_s mr_203 mq_203
theorem mr_205 : ∀ a, a < 205 → mm_good a := lt_s mr_204 mq_204
theorem mr_206 : ∀ a, a < 206 → mm_good a := lt_s mr_205 mq_205
theorem mr_207 : ∀ a, a < 207 → mm_good a := lt_s mr_206 mq_206
theorem mr_208 : ∀ a, a < 208 → mm_good a := lt_s mr_207 mq_207
theorem mr_209 : ∀ a, a < 209 → mm_good a := lt_s mr_208 mq_208
theorem mr_210 : ∀ a, a < 210 → mm_good a := lt_s mr_209 mq_209
theorem mr_211 : ∀ a, a < 211 → mm_good a := lt_s mr_210 mq_210
theorem mr_212 : ∀ a, a < 212 → mm_good a := lt_s mr_211 mq_211
theorem mr_213 : ∀ a, a < 213 → mm_good a := lt_s mr_212 mq_212
theorem mr_214 : ∀ a, a < 214 → mm_good a := lt_s mr_213 mq_213
theorem mr_215 : ∀ a, a < 215 → mm_good a := lt_s mr_214 mq_214
theorem mr_216 : ∀ a, a < 216 → mm_good a := lt_s mr_215 mq_215
theorem mr_217 : ∀ a, a < 217 → mm_good a := lt_s mr_216 mq_216
theorem mr_218 : ∀ a, a < 218 → mm_good a := lt_s mr_217 mq_217
theorem mr_219 : ∀ a, a < 219 → mm_good a := lt_s mr_218 mq_218
theorem mr_220 : ∀ a, a < 220 → mm_good a := lt_s mr_219 mq_219
theorem mr_221 : ∀ a, a < 221 → mm_good a := lt_s mr_220 mq_220
theorem mr_222 : ∀ a, a < 222 → mm_good a := lt_s mr_221 mq_221
theorem mr_223 : ∀ a, a < 223 → mm_good a := lt_s mr_222 mq_222
theorem mr_224 : ∀ a, a < 224 → mm_good a := lt_s mr_223 mq_223
theorem mr_225 : ∀ a, a < 225 → mm_good a := lt_s mr_224 mq_224
theorem mr_226 : ∀ a, a < 226 → mm_good a := lt_s mr_225 mq_225
theorem mr_227 : ∀ a, a < 227 → mm_good a := lt_s mr_226 mq_226
theorem mr_228 : ∀ a, a < 228 → mm_good a := lt_s mr_227 mq_227
theorem mr_229 : ∀ a, a < 229 → mm_good a := lt_s mr_228 mq_228
theorem mr_230 : ∀ a, a < 230 → mm_good a := lt_s mr_229 mq_229
theorem mr_231 : ∀ a, a < 231 → mm_good a := lt_s mr_230 mq_230
theorem mr_232 : ∀ a, a < 232 → mm_good a := lt_s mr_231 mq_231
theorem mr_233 : ∀ a, a < 233 → mm_good a := lt_s mr_232 mq_232
theorem mr_234 : ∀ a, a < 234 → mm_good a := lt_s mr_233 mq_233
theorem mr_235 : ∀ a, a < 235 → mm_good a := lt_s mr_234 mq_234
theorem mr_236 : ∀ a, a < 236 → mm_good a := lt_s mr_235 mq_235
theorem mr_237 : ∀ a, a < 237 → mm_good a := lt_s mr_236 mq_236
theorem mr_238 : ∀ a, a < 238 → mm_good a := lt_s mr_237 mq_237
theorem mr_239 : ∀ a, a < 239 → mm_good a := lt_s mr_238 mq_238
theorem mr_240 : ∀ a, a < 240 → mm_good a := lt_s mr_239 mq_239
theorem mr_241 : ∀ a, a < 241 → mm_good a := lt_s mr_240 mq_240
theorem mr_242 : ∀ a, a < 242 → mm_good a := lt_s mr_241 mq_241
theorem mr_243 : ∀ a, a < 243 → mm_good a := lt_s mr_242 mq_242
theorem mr_244 : ∀ a, a < 244 → mm_good a := lt_s mr_243 mq_243
theorem mr_245 : ∀ a, a < 245 → mm_good a := lt_s mr_244 mq_244
theorem mr_246 : ∀ a, a < 246 → mm_good a := lt_s mr_245 mq_245
theorem mr_247 : ∀ a, a < 247 → mm_good a := lt_s mr_246 mq_246
theorem mr_248 : ∀ a, a < 248 → mm_good a := lt_s mr_247 mq_247
theorem mr_249 : ∀ a, a < 249 → mm_good a := lt_s mr_248 mq_248
theorem mr_250 : ∀ a, a < 250 → mm_good a := lt_s mr_249 mq_249
theorem mr_251 : ∀ a, a < 251 → mm_good a := lt_s mr_250 mq_250
theorem mr_252 : ∀ a, a < 252 → mm_good a := lt_s mr_251 mq_251
theorem mr_253 : ∀ a, a < 253 → mm_good a := lt_s mr_252 mq_252
theorem mr_254 : ∀ a, a < 254 → mm_good a := lt_s mr_253 mq_253
theorem mr_255 : ∀ a, a < 255 → mm_good a := lt_s mr_254 mq_254
theorem mr_256 : ∀ a, a < 256 → mm_good a := lt_s mr_255 mq_255
theorem mr_257 : ∀ a, a < 257 → mm_good a := lt_s mr_256 mq_256
theorem mr_258 : ∀ a, a < 258 → mm_good a := lt_s mr_257 mq_257
theorem mr_259 : ∀ a, a < 259 → mm_good a := lt_s mr_258 mq_258
theorem mr_260 : ∀ a, a < 260 → mm_good a := lt_s mr_259 mq_259
theorem mr_261 : ∀ a, a < 261 → mm_good a := lt_s mr_260 mq_260
theorem mr_262 : ∀ a, a < 262 → mm_good a := lt_s mr_261 mq_261
theorem mr_263 : ∀ a, a < 263 → mm_good a := lt_s mr_262 mq_262
theorem mr_264 : ∀ a, a < 264 → mm_good a := lt_s mr_263 mq_263
theorem mr_265 : ∀ a, a < 265 → mm_good a := lt_s mr_264 mq_264
theorem mr_266 : ∀ a, a < 266 → mm_good a := lt_s mr_265 mq_265
theorem mr_267 : ∀ a, a < 267 → mm_good a := lt_s mr_266 mq_266
theorem mr_268 : ∀ a, a < 268 → mm_good a := lt_s mr_267 mq_267
theorem mr_269 : ∀ a, a < 269 → mm_good a := lt_s mr_268 mq_268
theorem mr_270 : ∀ a, a < 270 → mm_good a := lt_s mr_269 mq_269
theorem mr_271 : ∀ a, a < 271 → mm_good a := lt_s mr_270 mq_270
theorem mr_272 : ∀ a, a < 272 → mm_good a := lt_s mr_271 mq_271
theorem mr_273 : ∀ a, a < 273 → mm_good a := lt_s mr_272 mq_272
theorem mr_274 : ∀ a, a < 274 → mm_good a := lt_s mr_273 mq_273
theorem mr_275 : ∀ a, a < 275 → mm_good a := lt_s mr_274 mq_274
theorem mr_276 : ∀ a, a < 276 → mm_good a := lt_s mr_275 mq_275
theorem mr_277 : ∀ a, a < 277 → mm_good a := lt_s mr_276 mq_276
theorem mr_278 : ∀ a, a < 278 → mm_good a := lt_s mr_277 mq_277
theorem mr_279 : ∀ a, a < 279 → mm_good a := lt_s mr_278 mq_278
theorem mr_280 : ∀ a, a < 280 → mm_good a := lt_s mr_279 mq_279
theorem mr_281 : ∀ a, a < 281 → mm_good a := lt_s mr_280 mq_280
theorem mr_282 : ∀ a, a < 282 → mm_good a := lt_s mr_281 mq_281
theorem mr_283 : ∀ a, a < 283 → mm_good a := lt_s mr_282 mq_282
theorem mr_284 : ∀ a, a < 284 → mm_good a := lt_s mr_283 mq_283
theorem mr_285 : ∀ a, a < 285 → mm_good a := lt_s mr_284 mq_284
theorem mr_286 : ∀ a, a < 286 → mm_good a := lt_s mr_285 mq_285
theorem mr_287 : ∀ a, a < 287 → mm_good a := lt_s mr_286 mq_286
theorem mr_288 : ∀ a, a < 288 → mm_good a := lt_s mr_287 mq_287
theorem mr_289 : ∀ a, a < 289 → mm_good a := lt_s mr_288 mq_288
theorem mr_290 : ∀ a, a < 290 → mm_good a := lt_s mr_289 mq_289
theorem mr_291 : ∀ a, a < 291 → mm_good a := lt_s mr_290 mq_290
theorem mr_292 : ∀ a, a < 292 → mm_good a := lt_s mr_291 mq_291
theorem mr_293 : ∀ a, a < 293 → mm_good a := lt_s mr_292 mq_292
theorem mr_294 : ∀ a, a < 294 → mm_good a := lt_s mr_293 mq_293
theorem mr_295 : ∀ a, a < 295 → mm_good a := lt_s mr_294 mq_294
theorem mr_296 : ∀ a, a < 296 → mm_good a := lt_s mr_295 mq_295
theorem mr_297 : ∀ a, a < 297 → mm_good a := lt_s mr_296 mq_296
theorem mr_298 : ∀ a, a < 298 → mm_good a := lt_s mr_297 mq_297
theorem mr_299 : ∀ a, a < 299 → mm_good a := lt_s mr_298 mq_298
theorem mr_300 : ∀ a, a < 300 → mm_good a := lt_s mr_299 mq_299
theorem mr_301 : ∀ a, a < 301 → mm_good a := lt_s mr_300 mq_300
theorem mr_302 : ∀ a, a < 302 → mm_good a := lt_s mr_301 mq_301
theorem mr_303 : ∀ a, a < 303 → mm_good a := lt_s mr_302 mq_302
theorem mr_304 : ∀ a, a < 304 → mm_good a := lt_s mr_303 mq_303
theorem mr_305 : ∀ a, a < 305 → mm_good a := lt_s mr_304 mq_304
theorem mr_306 : ∀ a, a < 306 → mm_good a := lt_s mr_305 mq_305
theorem mr_307 : ∀ a, a < 307 → mm_good a := lt_s mr_306 mq_306
theorem mr_308 : ∀ a, a < 308 → mm_good a := lt_s mr_307 mq_307
theorem mr_309 : ∀ a, a < 309 → mm_good a := lt_s mr_308 mq_308
theorem mr_310 : ∀ a, a < 310 → mm_good a := lt_s mr_309 mq_309
theorem mr_311 : ∀ a, a < 311 → mm_good a := lt_s mr_310 mq_310
theorem mr_312 : ∀ a, a < 312 → mm_good a := lt_s mr_311 mq_311
theorem mr_313 : ∀ a, a < 313 → mm_good a := lt_s mr_312 mq_312
theorem mr_314 : ∀ a, a < 314 → mm_good a := lt_s mr_313 mq_313
theorem mr_315 : ∀ a, a < 315 → mm_good a := lt_s mr_314 mq_314
theorem mr_316 : ∀ a, a < 316 → mm_good a := lt_s mr_315 mq_315
theorem mr_317 : ∀ a, a < 317 → mm_good a := lt_s mr_316 mq_316
theorem mr_318 : ∀ a, a < 318 → mm_good a := lt_s mr_317 mq_317
theorem mr_319 : ∀ a, a < 319 → mm_good a := lt_s mr_318 mq_318
theorem mr_320 : ∀ a, a < 320 → mm_good a := lt_s mr_319 mq_319
theorem mr_321 : ∀ a, a < 321 → mm_good a := lt_s mr_320 mq_320
theorem mr_322 : ∀ a, a < 322 → mm_good a := lt_s mr_321 mq_321
theorem mr_323 : ∀ a, a < 323 → mm_good a := lt_s mr_322 mq_322
theorem mr_324 : ∀ a, a < 324 → mm_good a := lt_s mr_323 mq_323
theorem mr_325 : ∀ a, a < 325 → mm_good a := lt_s mr_324 mq_324
theorem mr_326 : ∀ a, a < 326 → mm_good a := lt_s mr_325 mq_325
theorem mr_327 : ∀ a, a < 327 → mm_good a := lt_s mr_326 mq_326
theorem mr_328 : ∀ a, a < 328 → mm_good a := lt_s mr_327 mq_327
theorem mr_329 : ∀ a, a < 329 → mm_good a := lt_s mr_328 mq_328
theorem mr_330 : ∀ a, a < 330 → mm_good a := lt_s mr_329 mq_329
theorem mr_331 : ∀ a, a < 331 → mm_good a := lt_s mr_330 mq_330
theorem mr_332 : ∀ a, a < 332 → mm_good a := lt_s mr_331 mq_331
theorem mr_333 : ∀ a, a < 333 → mm_good a := lt_s mr_332 mq_332
theorem mr_334 : ∀ a, a < 334 → mm_good a := lt_s mr_333 mq_333
theorem mr_335 : ∀ a, a < 335 → mm_good a := lt_s mr_334 mq_334
theorem mr_336 : ∀ a, a < 336 → mm_good a := lt_s mr_335 mq_335
theorem mr_337 : ∀ a, a < 337 → mm_good a := lt_s mr_336 mq_336
theorem mr_338 : ∀ a, a < 338 → mm_good a := lt_s mr_337 mq_337
theorem mr_339 : ∀ a, a < 339 → mm_good a := lt_s mr_338 mq_338
theorem mr_340 : ∀ a, a < 340 → mm_good a := lt_s mr_339 mq_339
theorem mr_341 : ∀ a, a < 341 → mm_good a := lt_s mr_340 mq_340
theorem mr_342 : ∀ a, a < 342 → mm_good a := lt_s mr_341 mq_341
theorem mr_343 : ∀ a, a < 343 → mm_good a := lt_s mr_342 mq_342
theorem mm_all {y : Nat} {t : mm_M} (h : mm_MT y = some t) : mm_mE t (mm_stf y) (mm_npf y) ∧ ∃ h, mm_tabB mm_PQ mm_MT mm_stf mm_npf mm_stn mm_sts mm_TX mm_XL t h = true := by
  have hl : mm_tbl.length = 343 := by decide +kernel
  have h1 : y < mm_tbl.length := by
    unfold mm_MT at h
    split at h
    · rename_i t9 h9
      exact (List.getElem?_eq_some_iff.mp h9).1
    · cases h
  exact mr_343 y (by omega) t h
theorem mm_tab_all (old : Nat → Option (Nat × vp_A)) (y : Nat) (t : mm_M) (h : mm_MT y = some t) : mm_tabE (old, mm_PQ) mm_MT mm_stn mm_sts t := by
  obtain ⟨h1, hs, h2⟩ := mm_all h
  exact ⟨h1.2.2.2.2.2.1, mm_tabB_ok (fun y t h => (mm_all h).1) mm_TX_ok mm_XL_ok old h2⟩
theorem mm_rowsE_app {f : Nat → Nat → mm_Op → Nat → Nat → Nat → Bool} {c1 c2 : mm_Code} (h1 : ∀ pc len op, (pc, len, op) ∈ c1 → ∃ i x y, f pc len op i x y = true) (h2 : ∀ pc len op, (pc, len, op) ∈ c2 → ∃ i x y, f pc len op i x y = true) : ∀ pc len op, (pc, len, op) ∈ c1 ++ c2 → ∃ i x y, f pc len op i x y = true :=
  fun pc len op h => (List.mem_append.mp h).elim (h1 pc len op) (h2 pc len op)
set_option maxRecDepth 100000 in
theorem mm_law_rows : ∀ pc len op, (pc, len, op) ∈ mc_law → ∃ i x y, (fun pc len op i x y => mm_opB mm_PQ mm_MT mm_stf mm_npf mm_stn mm_sts mm_TX mm_XL "DecisionDiagramsLaw" "law" code [] ret pc len op i x y) pc len op i x y = true := (mm_rowsE_app (mm_rowsB_ok mb_law_0) (mm_rowsE_app (mm_rowsB_ok mb_law_1) (mm_rowsE_app (mm_rowsB_ok mb_law_2) (mm_rowsB_ok mb_law_3))))
theorem mm_law_code (old : Nat → Option (Nat × vp_A)) (pc len : Nat) (op : mm_Op) (h : mc_law.lookup pc = some (len, op)) : mm_opE (old, mm_PQ) mm_MT mm_stn mm_sts "DecisionDiagramsLaw" "law" code [] ret pc len op := by
  obtain ⟨i, x, y, h9⟩ := mm_law_rows pc len op (mm_lookup_mem h)
  exact mm_opB_ok (fun y t h => (mm_all h).1) mm_TX_ok mm_XL_ok old h9
