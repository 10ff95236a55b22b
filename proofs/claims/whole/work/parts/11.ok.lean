def zQk (i : Nat) (o : Option zM) : Prop := ∀ M, o = some M → zck1 i M = true
def zalls : Nat → List (Option zM) → Prop
  | _, [] => True
  | i, o :: r => zQk i o ∧ zalls (i + 1) r
theorem zalls_ok : ∀ (l : List (Option zM)) (b : Nat), zalls b l → ∀ i M, l[i]? = some (some M) → zck1 (b + i) M = true := by
  intro l
  induction l with
  | nil => intro b _ i M e; simp at e
  | cons o l ih =>
    intro b h i M e
    cases i with
    | zero => exact h.1 M (by simpa using e)
    | succ i =>
      have := ih (b + 1) h.2 i M (by simpa using e)
      rw [show b + (i + 1) = b + 1 + i by omega]; exact this
theorem zq_none (i : Nat) : zQk i none := fun _ e => by cases e
theorem zq_0 : zQk 0 (some zm_0) := fun _ e => Option.some.inj e ▸ zk_0
theorem zq_1 : zQk 1 (some zm_1) := fun _ e => Option.some.inj e ▸ zk_1
theorem zq_2 : zQk 2 (some zm_2) := fun _ e => Option.some.inj e ▸ zk_2
theorem zq_3 : zQk 3 (some zm_3) := fun _ e => Option.some.inj e ▸ zk_3
theorem zq_4 : zQk 4 (some zm_4) := fun _ e => Option.some.inj e ▸ zk_4
theorem zq_5 : zQk 5 (some zm_5) := fun _ e => Option.some.inj e ▸ zk_5
theorem zq_6 : zQk 6 (some zm_6) := fun _ e => Option.some.inj e ▸ zk_6
theorem zq_7 : zQk 7 (some zm_7) := fun _ e => Option.some.inj e ▸ zk_7
theorem zq_8 : zQk 8 (some zm_8) := fun _ e => Option.some.inj e ▸ zk_8
theorem zq_9 : zQk 9 (some zm_9) := fun _ e => Option.some.inj e ▸ zk_9
theorem zq_10 : zQk 10 (some zm_10) := fun _ e => Option.some.inj e ▸ zk_10
theorem zq_11 : zQk 11 (some zm_11) := fun _ e => Option.some.inj e ▸ zk_11
theorem zq_12 : zQk 12 (some zm_12) := fun _ e => Option.some.inj e ▸ zk_12
theorem zq_13 : zQk 13 (some zm_13) := fun _ e => Option.some.inj e ▸ zk_13
theorem zq_14 : zQk 14 (some zm_14) := fun _ e => Option.some.inj e ▸ zk_14
theorem zq_15 : zQk 15 (some zm_15) := fun _ e => Option.some.inj e ▸ zk_15
theorem zq_16 : zQk 16 (some zm_16) := fun _ e => Option.some.inj e ▸ zk_16
theorem zq_17 : zQk 17 (some zm_17) := fun _ e => Option.some.inj e ▸ zk_17
theorem zq_18 : zQk 18 (some zm_18) := fun _ e => Option.some.inj e ▸ zk_18
theorem zq_19 : zQk 19 (some zm_19) := fun _ e => Option.some.inj e ▸ zk_19
theorem zq_20 : zQk 20 (some zm_20) := fun _ e => Option.some.inj e ▸ zk_20
theorem zq_21 : zQk 21 (some zm_21) := fun _ e => Option.some.inj e ▸ zk_21
theorem zq_22 : zQk 22 (some zm_22) := fun _ e => Option.some.inj e ▸ zk_22
theorem zq_23 : zQk 23 (some zm_23) := fun _ e => Option.some.inj e ▸ zk_23
theorem zq_24 : zQk 24 (some zm_24) := fun _ e => Option.some.inj e ▸ zk_24
theorem zq_25 : zQk 25 (some zm_25) := fun _ e => Option.some.inj e ▸ zk_25
theorem zq_26 : zQk 26 (some zm_26) := fun _ e => Option.some.inj e ▸ zk_26
theorem zq_27 : zQk 27 (some zm_27) := fun _ e => Option.some.inj e ▸ zk_27
theorem zq_28 : zQk 28 (some zm_28) := fun _ e => Option.some.inj e ▸ zk_28
theorem zq_29 : zQk 29 (some zm_29) := fun _ e => Option.some.inj e ▸ zk_29
theorem zq_30 : zQk 30 (some zm_30) := fun _ e => Option.some.inj e ▸ zk_30
theorem zq_31 : zQk 31 (some zm_31) := fun _ e => Option.some.inj e ▸ zk_31
theorem zq_32 : zQk 32 (some zm_32) := fun _ e => Option.some.inj e ▸ zk_32
theorem zq_33 : zQk 33 (some zm_33) := fun _ e => Option.some.inj e ▸ zk_33
theorem zq_34 : zQk 34 (some zm_34) := fun _ e => Option.some.inj e ▸ zk_34
theorem zq_35 : zQk 35 (some zm_35) := fun _ e => Option.some.inj e ▸ zk_35
theorem zq_36 : zQk 36 (some zm_36) := fun _ e => Option.some.inj e ▸ zk_36
theorem zq_37 : zQk 37 (some zm_37) := fun _ e => Option.some.inj e ▸ zk_37
theorem zq_38 : zQk 38 (some zm_38) := fun _ e => Option.some.inj e ▸ zk_38
theorem zq_39 : zQk 39 (some zm_39) := fun _ e => Option.some.inj e ▸ zk_39
theorem zq_40 : zQk 40 (some zm_40) := fun _ e => Option.some.inj e ▸ zk_40
theorem zq_41 : zQk 41 (some zm_41) := fun _ e => Option.some.inj e ▸ zk_41
theorem zq_42 : zQk 42 (some zm_42) := fun _ e => Option.some.inj e ▸ zk_42
theorem zq_43 : zQk 43 (some zm_43) := fun _ e => Option.some.inj e ▸ zk_43
theorem zq_44 : zQk 44 (some zm_44) := fun _ e => Option.some.inj e ▸ zk_44
theorem zq_45 : zQk 45 (some zm_45) := fun _ e => Option.some.inj e ▸ zk_45
theorem zq_46 : zQk 46 (some zm_46) := fun _ e => Option.some.inj e ▸ zk_46
theorem zq_47 : zQk 47 (some zm_47) := fun _ e => Option.some.inj e ▸ zk_47
theorem zq_48 : zQk 48 (some zm_48) := fun _ e => Option.some.inj e ▸ zk_48
theorem zq_49 : zQk 49 (some zm_49) := fun _ e => Option.some.inj e ▸ zk_49
theorem zq_50 : zQk 50 (some zm_50) := fun _ e => Option.some.inj e ▸ zk_50
theorem zq_51 : zQk 51 (some zm_51) := fun _ e => Option.some.inj e ▸ zk_51
theorem zq_52 : zQk 52 (some zm_52) := fun _ e => Option.some.inj e ▸ zk_52
theorem zq_53 : zQk 53 (some zm_53) := fun _ e => Option.some.inj e ▸ zk_53
theorem zq_54 : zQk 54 (some zm_54) := fun _ e => Option.some.inj e ▸ zk_54
theorem zq_55 : zQk 55 (some zm_55) := fun _ e => Option.some.inj e ▸ zk_55
theorem zq_56 : zQk 56 (some zm_56) := fun _ e => Option.some.inj e ▸ zk_56
theorem zq_57 : zQk 57 (some zm_57) := fun _ e => Option.some.inj e ▸ zk_57
theorem zq_58 : zQk 58 (some zm_58) := fun _ e => Option.some.inj e ▸ zk_58
theorem zq_59 : zQk 59 (some zm_59) := fun _ e => Option.some.inj e ▸ zk_59
theorem zq_60 : zQk 60 (some zm_60) := fun _ e => Option.some.inj e ▸ zk_60
theorem zq_61 : zQk 61 (some zm_61) := fun _ e => Option.some.inj e ▸ zk_61
theorem zq_62 : zQk 62 (some zm_62) := fun _ e => Option.some.inj e ▸ zk_62
theorem zq_63 : zQk 63 (some zm_63) := fun _ e => Option.some.inj e ▸ zk_63
theorem zq_64 : zQk 64 (some zm_64) := fun _ e => Option.some.inj e ▸ zk_64
theorem zq_65 : zQk 65 (some zm_65) := fun _ e => Option.some.inj e ▸ zk_65
theorem zq_66 : zQk 66 (some zm_66) := fun _ e => Option.some.inj e ▸ zk_66
theorem zq_67 : zQk 67 (some zm_67) := fun _ e => Option.some.inj e ▸ zk_67
theorem zq_68 : zQk 68 (some zm_68) := fun _ e => Option.some.inj e ▸ zk_68
theorem zq_69 : zQk 69 (some zm_69) := fun _ e => Option.some.inj e ▸ zk_69
theorem zq_70 : zQk 70 (some zm_70) := fun _ e => Option.some.inj e ▸ zk_70
theorem zq_71 : zQk 71 (some zm_71) := fun _ e => Option.some.inj e ▸ zk_71
theorem zq_72 : zQk 72 (some zm_72) := fun _ e => Option.some.inj e ▸ zk_72
theorem zq_73 : zQk 73 (some zm_73) := fun _ e => Option.some.inj e ▸ zk_73
theorem zq_74 : zQk 74 (some zm_74) := fun _ e => Option.some.inj e ▸ zk_74
theorem zq_75 : zQk 75 (some zm_75) := fun _ e => Option.some.inj e ▸ zk_75
theorem zq_76 : zQk 76 (some zm_76) := fun _ e => Option.some.inj e ▸ zk_76
theorem zq_77 : zQk 77 (some zm_77) := fun _ e => Option.some.inj e ▸ zk_77
theorem zq_78 : zQk 78 (some zm_78) := fun _ e => Option.some.inj e ▸ zk_78
theorem zq_79 : zQk 79 (some zm_79) := fun _ e => Option.some.inj e ▸ zk_79
theorem zq_80 : zQk 80 (some zm_80) := fun _ e => Option.some.inj e ▸ zk_80
theorem zq_81 : zQk 81 (some zm_81) := fun _ e => Option.some.inj e ▸ zk_81
theorem zq_82 : zQk 82 (some zm_82) := fun _ e => Option.some.inj e ▸ zk_82
theorem zq_83 : zQk 83 (some zm_83) := fun _ e => Option.some.inj e ▸ zk_83
theorem zq_84 : zQk 84 (some zm_84) := fun _ e => Option.some.inj e ▸ zk_84
theorem zq_85 : zQk 85 (some zm_85) := fun _ e => Option.some.inj e ▸ zk_85
theorem zq_86 : zQk 86 (some zm_86) := fun _ e => Option.some.inj e ▸ zk_86
theorem zq_87 : zQk 87 (some zm_87) := fun _ e => Option.some.inj e ▸ zk_87
theorem zq_88 : zQk 88 (some zm_88) := fun _ e => Option.some.inj e ▸ zk_88
theorem zq_89 : zQk 89 (some zm_89) := fun _ e => Option.some.inj e ▸ zk_89
theorem zq_90 : zQk 90 (some zm_90) := fun _ e => Option.some.inj e ▸ zk_90
theorem zq_91 : zQk 91 (some zm_91) := fun _ e => Option.some.inj e ▸ zk_91
theorem zq_92 : zQk 92 (some zm_92) := fun _ e => Option.some.inj e ▸ zk_92
theorem zq_93 : zQk 93 (some zm_93) := fun _ e => Option.some.inj e ▸ zk_93
theorem zq_94 : zQk 94 (some zm_94) := fun _ e => Option.some.inj e ▸ zk_94
theorem zq_95 : zQk 95 (some zm_95) := fun _ e => Option.some.inj e ▸ zk_95
theorem zq_96 : zQk 96 (some zm_96) := fun _ e => Option.some.inj e ▸ zk_96
theorem zq_97 : zQk 97 (some zm_97) := fun _ e => Option.some.inj e ▸ zk_97
theorem zq_98 : zQk 98 (some zm_98) := fun _ e => Option.some.inj e ▸ zk_98
theorem zq_99 : zQk 99 (some zm_99) := fun _ e => Option.some.inj e ▸ zk_99
theorem zq_100 : zQk 100 (some zm_100) := fun _ e => Option.some.inj e ▸ zk_100
theorem zq_101 : zQk 101 (some zm_101) := fun _ e => Option.some.inj e ▸ zk_101
theorem zq_102 : zQk 102 (some zm_102) := fun _ e => Option.some.inj e ▸ zk_102
theorem zq_103 : zQk 103 (some zm_103) := fun _ e => Option.some.inj e ▸ zk_103
theorem zq_104 : zQk 104 (some zm_104) := fun _ e => Option.some.inj e ▸ zk_104
theorem zq_105 : zQk 105 (some zm_105) := fun _ e => Option.some.inj e ▸ zk_105
theorem zq_106 : zQk 106 (some zm_106) := fun _ e => Option.some.inj e ▸ zk_106
theorem zq_107 : zQk 107 (some zm_107) := fun _ e => Option.some.inj e ▸ zk_107
theorem zq_108 : zQk 108 (some zm_108) := fun _ e => Option.some.inj e ▸ zk_108
theorem zq_109 : zQk 109 (some zm_109) := fun _ e => Option.some.inj e ▸ zk_109
theorem zq_110 : zQk 110 (some zm_110) := fun _ e => Option.some.inj e ▸ zk_110
theorem zq_111 : zQk 111 (some zm_111) := fun _ e => Option.some.inj e ▸ zk_111
theorem zq_112 : zQk 112 (some zm_112) := fun _ e => Option.some.inj e ▸ zk_112
theorem zq_113 : zQk 113 (some zm_113) := fun _ e => Option.some.inj e ▸ zk_113
theorem zq_114 : zQk 114 (some zm_114) := fun _ e => Option.some.inj e ▸ zk_114
theorem zq_115 : zQk 115 (some zm_115) := fun _ e => Option.some.inj e ▸ zk_115
theorem zq_116 : zQk 116 (some zm_116) := fun _ e => Option.some.inj e ▸ zk_116
theorem zq_117 : zQk 117 (some zm_117) := fun _ e => Option.some.inj e ▸ zk_117
theorem zq_118 : zQk 118 (some zm_118) := fun _ e => Option.some.inj e ▸ zk_118
theorem zq_119 : zQk 119 (some zm_119) := fun _ e => Option.some.inj e ▸ zk_119
theorem zq_120 : zQk 120 (some zm_120) := fun _ e => Option.some.inj e ▸ zk_120
theorem zq_121 : zQk 121 (some zm_121) := fun _ e => Option.some.inj e ▸ zk_121
theorem zq_122 : zQk 122 (some zm_122) := fun _ e => Option.some.inj e ▸ zk_122
theorem zq_123 : zQk 123 (some zm_123) := fun _ e => Option.some.inj e ▸ zk_123
theorem zq_124 : zQk 124 (some zm_124) := fun _ e => Option.some.inj e ▸ zk_124
theorem zq_125 : zQk 125 (some zm_125) := fun _ e => Option.some.inj e ▸ zk_125
theorem zq_126 : zQk 126 (some zm_126) := fun _ e => Option.some.inj e ▸ zk_126
theorem zq_127 : zQk 127 (some zm_127) := fun _ e => Option.some.inj e ▸ zk_127
theorem zq_128 : zQk 128 (some zm_128) := fun _ e => Option.some.inj e ▸ zk_128
theorem zq_129 : zQk 129 (some zm_129) := fun _ e => Option.some.inj e ▸ zk_129
theorem zq_130 : zQk 130 (some zm_130) := fun _ e => Option.some.inj e ▸ zk_130
theorem zq_131 : zQk 131 (some zm_131) := fun _ e => Option.some.inj e ▸ zk_131
theorem zq_132 : zQk 132 (some zm_132) := fun _ e => Option.some.inj e ▸ zk_132
theorem zq_133 : zQk 133 (some zm_133) := fun _ e => Option.some.inj e ▸ zk_133
theorem zq_134 : zQk 134 (some zm_134) := fun _ e => Option.some.inj e ▸ zk_134
theorem zq_135 : zQk 135 (some zm_135) := fun _ e => Option.some.inj e ▸ zk_135
theorem zq_136 : zQk 136 (some zm_136) := fun _ e => Option.some.inj e ▸ zk_136
theorem zq_137 : zQk 137 (some zm_137) := fun _ e => Option.some.inj e ▸ zk_137
theorem zq_138 : zQk 138 (some zm_138) := fun _ e => Option.some.inj e ▸ zk_138
theorem zq_139 : zQk 139 (some zm_139) := fun _ e => Option.some.inj e ▸ zk_139
theorem zq_140 : zQk 140 (some zm_140) := fun _ e => Option.some.inj e ▸ zk_140
theorem zq_141 : zQk 141 (some zm_141) := fun _ e => Option.some.inj e ▸ zk_141
theorem zq_142 : zQk 142 (some zm_142) := fun _ e => Option.some.inj e ▸ zk_142
theorem zq_143 : zQk 143 (some zm_143) := fun _ e => Option.some.inj e ▸ zk_143
theorem zq_144 : zQk 144 (some zm_144) := fun _ e => Option.some.inj e ▸ zk_144
theorem zq_145 : zQk 145 (some zm_145) := fun _ e => Option.some.inj e ▸ zk_145
theorem zq_146 : zQk 146 (some zm_146) := fun _ e => Option.some.inj e ▸ zk_146
theorem zq_147 : zQk 147 (some zm_147) := fun _ e => Option.some.inj e ▸ zk_147
theorem zq_148 : zQk 148 (some zm_148) := fun _ e => Option.some.inj e ▸ zk_148
theorem zq_149 : zQk 149 (some zm_149) := fun _ e => Option.some.inj e ▸ zk_149
theorem zq_150 : zQk 150 (some zm_150) := fun _ e => Option.some.inj e ▸ zk_150
theorem zq_151 : zQk 151 (some zm_151) := fun _ e => Option.some.inj e ▸ zk_151
theorem zq_152 : zQk 152 (some zm_152) := fun _ e => Option.some.inj e ▸ zk_152
theorem zq_153 : zQk 153 (some zm_153) := fun _ e => Option.some.inj e ▸ zk_153
theorem zq_154 : zQk 154 (some zm_154) := fun _ e => Option.some.inj e ▸ zk_154
theorem zq_155 : zQk 155 (some zm_155) := fun _ e => Option.some.inj e ▸ zk_155
theorem zq_156 : zQk 156 (some zm_156) := fun _ e => Option.some.inj e ▸ zk_156
theorem zq_157 : zQk 157 (some zm_157) := fun _ e => Option.some.inj e ▸ zk_157
theorem zq_158 : zQk 158 (some zm_158) := fun _ e => Option.some.inj e ▸ zk_158
theorem zq_159 : zQk 159 (some zm_159) := fun _ e => Option.some.inj e ▸ zk_159
theorem zq_160 : zQk 160 (some zm_160) := fun _ e => Option.some.inj e ▸ zk_160
theorem zq_161 : zQk 161 (some zm_161) := fun _ e => Option.some.inj e ▸ zk_161
theorem zq_162 : zQk 162 (some zm_162) := fun _ e => Option.some.inj e ▸ zk_162
theorem zq_163 : zQk 163 (some zm_163) := fun _ e => Option.some.inj e ▸ zk_163
theorem zq_164 : zQk 164 (some zm_164) := fun _ e => Option.some.inj e ▸ zk_164
theorem zq_165 : zQk 165 (some zm_165) := fun _ e => Option.some.inj e ▸ zk_165
theorem zq_166 : zQk 166 (some zm_166) := fun _ e => Option.some.inj e ▸ zk_166
theorem zq_167 : zQk 167 (some zm_167) := fun _ e => Option.some.inj e ▸ zk_167
theorem zq_168 : zQk 168 (some zm_168) := fun _ e => Option.some.inj e ▸ zk_168
theorem zq_169 : zQk 169 (some zm_169) := fun _ e => Option.some.inj e ▸ zk_169
theorem zq_170 : zQk 170 (some zm_170) := fun _ e => Option.some.inj e ▸ zk_170
theorem zq_171 : zQk 171 (some zm_171) := fun _ e => Option.some.inj e ▸ zk_171
theorem zq_172 : zQk 172 (some zm_172) := fun _ e => Option.some.inj e ▸ zk_172
theorem zq_173 : zQk 173 (some zm_173) := fun _ e => Option.some.inj e ▸ zk_173
theorem zq_174 : zQk 174 (some zm_174) := fun _ e => Option.some.inj e ▸ zk_174
theorem zq_175 : zQk 175 (some zm_175) := fun _ e => Option.some.inj e ▸ zk_175
theorem zq_176 : zQk 176 (some zm_176) := fun _ e => Option.some.inj e ▸ zk_176
theorem zq_177 : zQk 177 (some zm_177) := fun _ e => Option.some.inj e ▸ zk_177
theorem zq_178 : zQk 178 (some zm_178) := fun _ e => Option.some.inj e ▸ zk_178
theorem zq_179 : zQk 179 (some zm_179) := fun _ e => Option.some.inj e ▸ zk_179
theorem zq_180 : zQk 180 (some zm_180) := fun _ e => Option.some.inj e ▸ zk_180
theorem zq_181 : zQk 181 (some zm_181) := fun _ e => Option.some.inj e ▸ zk_181
theorem zq_182 : zQk 182 (some zm_182) := fun _ e => Option.some.inj e ▸ zk_182
theorem zq_183 : zQk 183 (some zm_183) := fun _ e => Option.some.inj e ▸ zk_183
theorem zq_184 : zQk 184 (some zm_184) := fun _ e => Option.some.inj e ▸ zk_184
theorem zq_185 : zQk 185 (some zm_185) := fun _ e => Option.some.inj e ▸ zk_185
theorem zq_186 : zQk 186 (some zm_186) := fun _ e => Option.some.inj e ▸ zk_186
theorem zq_187 : zQk 187 (some zm_187) := fun _ e => Option.some.inj e ▸ zk_187
theorem zq_188 : zQk 188 (some zm_188) := fun _ e => Option.some.inj e ▸ zk_188
theorem zq_189 : zQk 189 (some zm_189) := fun _ e => Option.some.inj e ▸ zk_189
theorem zq_190 : zQk 190 (some zm_190) := fun _ e => Option.some.inj e ▸ zk_190
theorem zq_191 : zQk 191 (some zm_191) := fun _ e => Option.some.inj e ▸ zk_191
theorem zq_192 : zQk 192 (some zm_192) := fun _ e => Option.some.inj e ▸ zk_192
theorem zq_193 : zQk 193 (some zm_193) := fun _ e => Option.some.inj e ▸ zk_193
theorem zq_194 : zQk 194 (some zm_194) := fun _ e => Option.some.inj e ▸ zk_194
theorem zq_195 : zQk 195 (some zm_195) := fun _ e => Option.some.inj e ▸ zk_195
theorem zq_196 : zQk 196 (some zm_196) := fun _ e => Option.some.inj e ▸ zk_196
theorem zq_197 : zQk 197 (some zm_197) := fun _ e => Option.some.inj e ▸ zk_197
theorem zq_198 : zQk 198 (some zm_198) := fun _ e => Option.some.inj e ▸ zk_198
theorem zq_199 : zQk 199 (some zm_199) := fun _ e => Option.some.inj e ▸ zk_199
theorem zq_200 : zQk 200 (some zm_200) := fun _ e => Option.some.inj e ▸ zk_200
theorem zq_201 : zQk 201 (some zm_201) := fun _ e => Option.some.inj e ▸ zk_201
theorem zq_202 : zQk 202 (some zm_202) := fun _ e => Option.some.inj e ▸ zk_202
theorem zq_203 : zQk 203 (some zm_203) := fun _ e => Option.some.inj e ▸ zk_203
theorem zq_204 : zQk 204 (some zm_204) := fun _ e => Option.some.inj e ▸ zk_204
theorem zq_205 : zQk 205 (some zm_205) := fun _ e => Option.some.inj e ▸ zk_205
theorem zq_206 : zQk 206 (some zm_206) := fun _ e => Option.some.inj e ▸ zk_206
theorem zq_207 : zQk 207 (some zm_207) := fun _ e => Option.some.inj e ▸ zk_207
theorem zq_208 : zQk 208 (some zm_208) := fun _ e => Option.some.inj e ▸ zk_208
theorem zq_209 : zQk 209 (some zm_209) := fun _ e => Option.some.inj e ▸ zk_209
theorem zq_210 : zQk 210 (some zm_210) := fun _ e => Option.some.inj e ▸ zk_210
theorem zq_211 : zQk 211 (some zm_211) := fun _ e => Option.some.inj e ▸ zk_211
theorem zq_212 : zQk 212 (some zm_212) := fun _ e => Option.some.inj e ▸ zk_212
theorem zq_213 : zQk 213 (some zm_213) := fun _ e => Option.some.inj e ▸ zk_213
theorem zq_214 : zQk 214 (some zm_214) := fun _ e => Option.some.inj e ▸ zk_214
theorem zq_215 : zQk 215 (some zm_215) := fun _ e => Option.some.inj e ▸ zk_215
theorem zq_216 : zQk 216 (some zm_216) := fun _ e => Option.some.inj e ▸ zk_216
theorem zq_217 : zQk 217 (some zm_217) := fun _ e => Option.some.inj e ▸ zk_217
theorem zq_218 : zQk 218 (some zm_218) := fun _ e => Option.some.inj e ▸ zk_218
theorem zq_219 : zQk 219 (some zm_219) := fun _ e => Option.some.inj e ▸ zk_219
theorem zq_220 : zQk 220 (some zm_220) := fun _ e => Option.some.inj e ▸ zk_220
theorem zq_221 : zQk 221 (some zm_221) := fun _ e => Option.some.inj e ▸ zk_221
theorem zq_222 : zQk 222 (some zm_222) := fun _ e => Option.some.inj e ▸ zk_222
theorem zq_223 : zQk 223 (some zm_223) := fun _ e => Option.some.inj e ▸ zk_223
theorem zq_224 : zQk 224 (some zm_224) := fun _ e => Option.some.inj e ▸ zk_224
theorem zq_225 : zQk 225 (some zm_225) := fun _ e => Option.some.inj e ▸ zk_225
theorem zq_226 : zQk 226 (some zm_226) := fun _ e => Option.some.inj e ▸ zk_226
theorem zq_227 : zQk 227 (some zm_227) := fun _ e => Option.some.inj e ▸ zk_227
theorem zq_228 : zQk 228 (some zm_228) := fun _ e => Option.some.inj e ▸ zk_228
theorem zq_229 : zQk 229 (some zm_229) := fun _ e => Option.some.inj e ▸ zk_229
theorem zq_230 : zQk 230 (some zm_230) := fun _ e => Option.some.inj e ▸ zk_230
theorem zq_231 : zQk 231 (some zm_231) := fun _ e => Option.some.inj e ▸ zk_231
theorem zq_232 : zQk 232 (some zm_232) := fun _ e => Option.some.inj e ▸ zk_232
theorem zq_233 : zQk 233 (some zm_233) := fun _ e => Option.some.inj e ▸ zk_233
theorem zq_234 : zQk 234 (some zm_234) := fun _ e => Option.some.inj e ▸ zk_234
theorem zq_235 : zQk 235 (some zm_235) := fun _ e => Option.some.inj e ▸ zk_235
theorem zq_236 : zQk 236 (some zm_236) := fun _ e => Option.some.inj e ▸ zk_236
theorem zq_237 : zQk 237 (some zm_237) := fun _ e => Option.some.inj e ▸ zk_237
theorem zq_238 : zQk 238 (some zm_238) := fun _ e => Option.some.inj e ▸ zk_238
theorem zq_239 : zQk 239 (some zm_239) := fun _ e => Option.some.inj e ▸ zk_239
theorem zq_240 : zQk 240 (some zm_240) := fun _ e => Option.some.inj e ▸ zk_240
theorem zq_241 : zQk 241 (some zm_241) := fun _ e => Option.some.inj e ▸ zk_241
theorem zq_242 : zQk 242 (some zm_242) := fun _ e => Option.some.inj e ▸ zk_242
theorem zq_243 : zQk 243 (some zm_243) := fun _ e => Option.some.inj e ▸ zk_243
theorem zq_244 : zQk 244 (some zm_244) := fun _ e => Option.some.inj e ▸ zk_244
theorem zq_245 : zQk 245 (some zm_245) := fun _ e => Option.some.inj e ▸ zk_245
theorem zq_246 : zQk 246 (some zm_246) := fun _ e => Option.some.inj e ▸ zk_246
theorem zq_247 : zQk 247 (some zm_247) := fun _ e => Option.some.inj e ▸ zk_247
theorem zq_248 : zQk 248 (some zm_248) := fun _ e => Option.some.inj e ▸ zk_248
theorem zq_249 : zQk 249 (some zm_249) := fun _ e => Option.some.inj e ▸ zk_249
theorem zq_250 : zQk 250 (some zm_250) := fun _ e => Option.some.inj e ▸ zk_250
theorem zq_251 : zQk 251 (some zm_251) := fun _ e => Option.some.inj e ▸ zk_251
theorem zq_252 : zQk 252 (some zm_252) := fun _ e => Option.some.inj e ▸ zk_252
theorem zq_253 : zQk 253 (some zm_253) := fun _ e => Option.some.inj e ▸ zk_253
theorem zq_254 : zQk 254 (some zm_254) := fun _ e => Option.some.inj e ▸ zk_254
theorem zq_255 : zQk 255 (some zm_255) := fun _ e => Option.some.inj e ▸ zk_255
theorem zq_256 : zQk 256 (some zm_256) := fun _ e => Option.some.inj e ▸ zk_256
theorem zq_257 : zQk 257 (some zm_257) := fun _ e => Option.some.inj e ▸ zk_257
theorem zq_258 : zQk 258 (some zm_258) := fun _ e => Option.some.inj e ▸ zk_258
theorem zq_259 : zQk 259 (some zm_259) := fun _ e => Option.some.inj e ▸ zk_259
theorem zq_260 : zQk 260 (some zm_260) := fun _ e => Option.some.inj e ▸ zk_260
theorem zq_261 : zQk 261 (some zm_261) := fun _ e => Option.some.inj e ▸ zk_261
theorem zq_262 : zQk 262 (some zm_262) := fun _ e => Option.some.inj e ▸ zk_262
theorem zq_263 : zQk 263 (some zm_263) := fun _ e => Option.some.inj e ▸ zk_263
theorem zq_264 : zQk 264 (some zm_264) := fun _ e => Option.some.inj e ▸ zk_264
theorem zq_265 : zQk 265 (some zm_265) := fun _ e => Option.some.inj e ▸ zk_265
theorem zq_266 : zQk 266 (some zm_266) := fun _ e => Option.some.inj e ▸ zk_266
theorem zq_267 : zQk 267 (some zm_267) := fun _ e => Option.some.inj e ▸ zk_267
theorem zq_268 : zQk 268 (some zm_268) := fun _ e => Option.some.inj e ▸ zk_268
theorem zq_269 : zQk 269 (some zm_269) := fun _ e => Option.some.inj e ▸ zk_269
theorem zq_270 : zQk 270 (some zm_270) := fun _ e => Option.some.inj e ▸ zk_270
theorem zq_271 : zQk 271 (some zm_271) := fun _ e => Option.some.inj e ▸ zk_271
theorem zq_272 : zQk 272 (some zm_272) := fun _ e => Option.some.inj e ▸ zk_272
theorem zq_273 : zQk 273 (some zm_273) := fun _ e => Option.some.inj e ▸ zk_273
theorem zq_274 : zQk 274 (some zm_274) := fun _ e => Option.some.inj e ▸ zk_274
theorem zq_275 : zQk 275 (some zm_275) := fun _ e => Option.some.inj e ▸ zk_275
theorem zq_276 : zQk 276 (some zm_276) := fun _ e => Option.some.inj e ▸ zk_276
theorem zq_277 : zQk 277 (some zm_277) := fun _ e => Option.some.inj e ▸ zk_277
theorem zq_278 : zQk 278 (some zm_278) := fun _ e => Option.some.inj e ▸ zk_278
theorem zq_279 : zQk 279 (some zm_279) := fun _ e => Option.some.inj e ▸ zk_279
theorem zq_280 : zQk 280 (some zm_280) := fun _ e => Option.some.inj e ▸ zk_280
theorem zq_281 : zQk 281 (some zm_281) := fun _ e => Option.some.inj e ▸ zk_281
theorem zq_282 : zQk 282 (some zm_282) := fun _ e => Option.some.inj e ▸ zk_282
theorem zq_283 : zQk 283 (some zm_283) := fun _ e => Option.some.inj e ▸ zk_283
theorem zq_284 : zQk 284 (some zm_284) := fun _ e => Option.some.inj e ▸ zk_284
theorem zq_285 : zQk 285 (some zm_285) := fun _ e => Option.some.inj e ▸ zk_285
theorem zq_287 : zQk 287 (some zm_287) := fun _ e => Option.some.inj e ▸ zk_287
theorem zalls_c {b : Nat} {o : Option zM} {r : List (Option zM)} (h : zQk b o) (h2 : zalls (b + 1) r) : zalls b (o :: r) := ⟨h, h2⟩
set_option maxRecDepth 100000 in
theorem za_268 : zalls 268 [some zm_268, some zm_269, some zm_270, some zm_271, some zm_272, some zm_273, some zm_274, some zm_275, some zm_276, some zm_277, some zm_278, some zm_279, some zm_280, some zm_281, some zm_282, some zm_283, some zm_284, some zm_285, none, some zm_287] := zalls_c zq_268 (zalls_c zq_269 (zalls_c zq_270 (zalls_c zq_271 (zalls_c zq_272 (zalls_c zq_273 (zalls_c zq_274 (zalls_c zq_275 (zalls_c zq_276 (zalls_c zq_277 (zalls_c zq_278 (zalls_c zq_279 (zalls_c zq_280 (zalls_c zq_281 (zalls_c zq_282 (zalls_c zq_283 (zalls_c zq_284 (zalls_c zq_285 (zalls_c (zq_none 286) (zalls_c zq_287 (trivial))))))))))))))))))))
set_option maxRecDepth 100000 in
theorem za_248 : zalls 248 [some zm_248, some zm_249, some zm_250, some zm_251, some zm_252, some zm_253, some zm_254, some zm_255, some zm_256, some zm_257, some zm_258, some zm_259, some zm_260, some zm_261, some zm_262, some zm_263, some zm_264, some zm_265, some zm_266, some zm_267, some zm_268, some zm_269, some zm_270, some zm_271, some zm_272, some zm_273, some zm_274, some zm_275, some zm_276, some zm_277, some zm_278, some zm_279, some zm_280, some zm_281, some zm_282, some zm_283, some zm_284, some zm_285, none, some zm_287] := zalls_c zq_248 (zalls_c zq_249 (zalls_c zq_250 (zalls_c zq_251 (zalls_c zq_252 (zalls_c zq_253 (zalls_c zq_254 (zalls_c zq_255 (zalls_c zq_256 (zalls_c zq_257 (zalls_c zq_258 (zalls_c zq_259 (zalls_c zq_260 (zalls_c zq_261 (zalls_c zq_262 (zalls_c zq_263 (zalls_c zq_264 (zalls_c zq_265 (zalls_c zq_266 (zalls_c zq_267 (za_268))))))))))))))))))))
set_option maxRecDepth 100000 in
theorem za_228 : zalls 228 [some zm_228, some zm_229, some zm_230, some zm_231, some zm_232, some zm_233, some zm_234, some zm_235, some zm_236, some zm_237, some zm_238, some zm_239, some zm_240, some zm_241, some zm_242, some zm_243, some zm_244, some zm_245, some zm_246, some zm_247, some zm_248, some zm_249, some zm_250, some zm_251, some zm_252, some zm_253, some zm_254, some zm_255, some zm_256, some zm_257, some zm_258, some zm_259, some zm_260, some zm_261, some zm_262, some zm_263, some zm_264, some zm_265, some zm_266, some zm_267, some zm_268, some zm_269, some zm_270, some zm_271, some zm_272, some zm_273, some zm_274, some zm_275, some zm_276, some zm_277, some zm_278, some zm_279, some zm_280, some zm_281, some zm_282, some zm_283, some zm_284, some zm_285, none, some zm_287] := zalls_c zq_228 (zalls_c zq_229 (zalls_c zq_230 (zalls_c zq_231 (zalls_c zq_232 (zalls_c zq_233 (zalls_c zq_234 (zalls_c zq_235 (zalls_c zq_236 (zalls_c zq_237 (zalls_c zq_238 (zalls_c zq_239 (zalls_c zq_240 (zalls_c zq_241 (zalls_c zq_242 (zalls_c zq_243 (zalls_c zq_244 (zalls_c zq_245 (zalls_c zq_246 (zalls_c zq_247 (za_248))))))))))))))))))))
set_option maxRecDepth 100000 in
theorem za_208 : zalls 208 [some zm_208, some zm_209, some zm_210, some zm_211, some zm_212, some zm_213, some zm_214, some zm_215, some zm_216, some zm_217, some zm_218, some zm_219, some zm_220, some zm_221, some zm_222, some zm_223, some zm_224, some zm_225, some zm_226, some zm_227, some zm_228, some zm_229, some zm_230, some zm_231, some zm_232, some zm_233, some zm_234, some zm_235, some zm_236, some zm_237, some zm_238, some zm_239, some zm_240, some zm_241, some zm_242, some zm_243, some zm_244, some zm_245, some zm_246, some zm_247, some zm_248, some zm_249, some zm_250, some zm_251, some zm_252, some zm_253, some zm_254, some zm_255, some zm_256, some zm_257, some zm_258, some zm_259, some zm_260, some zm_261, some zm_262, some zm_263, some zm_264, some zm_265, some zm_266, some zm_267, some zm_268, some zm_269, some zm_270, some zm_271, some zm_272, some zm_273, some zm_274, some zm_275, some zm_276, some zm_277, some zm_278, some zm_279, some zm_280, some zm_281, some zm_282, some zm_283, some zm_284, some zm_285, none, some zm_287] := zalls_c zq_208 (zalls_c zq_209 (zalls_c zq_210 (zalls_c zq_211 (zalls_c zq_212 (zalls_c zq_213 (zalls_c zq_214 (zalls_c zq_215 (zalls_c zq_216 (zalls_c zq_217 (zalls_c zq_218 (zalls_c zq_219 (zalls_c zq_220 (zalls_c zq_221 (zalls_c zq_222 (zalls_c zq_223 (zalls_c zq_224 (zalls_c zq_225 (zalls_c zq_226 (zalls_c zq_227 (za_228))))))))))))))))))))
set_option maxRecDepth 100000 in
theorem za_188 : zalls 188 [some zm_188, some zm_189, some zm_190, some zm_191, some zm_192, some zm_193, some zm_194, some zm_195, some zm_196, some zm_197, some zm_198, some zm_199, some zm_200, some zm_201, some zm_202, some zm_203, some zm_204, some zm_205, some zm_206, some zm_207, some zm_208, some zm_209, some zm_210, some zm_211, some zm_212, some zm_213, some zm_214, some zm_215, some zm_216, some zm_217, some zm_218, some zm_219, some zm_220, some zm_221, some zm_222, some zm_223, some zm_224, some zm_225, some zm_226, some zm_227, some zm_228, some zm_229, some zm_230, some zm_231, some zm_232, some zm_233, some zm_234, some zm_235, some zm_236, some zm_237, some zm_238, some zm_239, some zm_240, some zm_241, some zm_242, some zm_243, some zm_244, some zm_245, some zm_246, some zm_247, some zm_248, some zm_249, some zm_250, some zm_251, some zm_252, some zm_253, some zm_254, some zm_255, some zm_256, some zm_257, some zm_258, some zm_259, some zm_260, some zm_261, some zm_262, some zm_263, some zm_264, some zm_265, some zm_266, some zm_267, some zm_268, some zm_269, some zm_270, some zm_271, some zm_272, some zm_273, some zm_274, some zm_275, some zm_276, some zm_277, some zm_278, some zm_279, some zm_280, some zm_281, some zm_282, some zm_283, some zm_284, some zm_285, none, some zm_287] := zalls_c zq_188 (zalls_c zq_189 (zalls_c zq_190 (zalls_c zq_191 (zalls_c zq_192 (zalls_c zq_193 (zalls_c zq_194 (zalls_c zq_195 (zalls_c zq_196 (zalls_c zq_197 (zalls_c zq_198 (zalls_c zq_199 (zalls_c zq_200 (zalls_c zq_201 (zalls_c zq_202 (zalls_c zq_203 (zalls_c zq_204 (zalls_c zq_205 (zalls_c zq_206 (zalls_c zq_207 (za_208))))))))))))))))))))
set_option maxRecDepth 100000 in
theorem za_168 : zalls 168 [some zm_168, some zm_169, some zm_170, some zm_171, some zm_172, some zm_173, some zm_174, some zm_175, some zm_176, some zm_177, some zm_178, some zm_179, some zm_180, some zm_181, some zm_182, some zm_183, some zm_184, some zm_185, some zm_186, some zm_187, some zm_188, some zm_189, some zm_190, some zm_191, some zm_192, some zm_193, some zm_194, some zm_195, some zm_196, some zm_197, some zm_198, some zm_199, some zm_200, some zm_201, some zm_202, some zm_203, some zm_204, some zm_205, some zm_206, some zm_207, some zm_208, some zm_209, some zm_210, some zm_211, some zm_212, some zm_213, some zm_214, some zm_215, some zm_216, some zm_217, some zm_218, some zm_219, some zm_220, some zm_221, some zm_222, some zm_223, some zm_224, some zm_225, some zm_226, some zm_227, some zm_228, some zm_229, some zm_230, some zm_231, some zm_232, some zm_233, some zm_234, some zm_235, some zm_236, some zm_237, some zm_238, some zm_239, some zm_240, some zm_241, some zm_242, some zm_243, some zm_244, some zm_245, some zm_246, some zm_247, some zm_248, some zm_249, some zm_250, some zm_251, some zm_252, some zm_253, some zm_254, some zm_255, some zm_256, some zm_257, some zm_258, some zm_259, some zm_260, some zm_261, some zm_262, some zm_263, some zm_264, some zm_265, some zm_266, some zm_267, some zm_268, some zm_269, some zm_270, some zm_271, some zm_272, some zm_273, some zm_274, some zm_275, some zm_276, some zm_277, some zm_278, some zm_279, some zm_280, some zm_281, some zm_282, some zm_283, some zm_284, some zm_285, none, some zm_287] := zalls_c zq_168 (zalls_c zq_169 (zalls_c zq_170 (zalls_c zq_171 (zalls_c zq_172 (zalls_c zq_173 (zalls_c zq_174 (zalls_c zq_175 (zalls_c zq_176 (zalls_c zq_177 (zalls_c zq_178 (zalls_c zq_179 (zalls_c zq_180 (zalls_c zq_181 (zalls_c zq_182 (zalls_c zq_183 (zalls_c zq_184 (zalls_c zq_185 (zalls_c zq_186 (zalls_c zq_187 (za_188))))))))))))))))))))
set_option maxRecDepth 100000 in
theorem za_148 : zalls 148 [some zm_148, some zm_149, some zm_150, some zm_151, some zm_152, some zm_153, some zm_154, some zm_155, some zm_156, some zm_157, some zm_158, some zm_159, some zm_160, some zm_161, some zm_162, some zm_163, some zm_164, some zm_165, some zm_166, some zm_167, some zm_168, some zm_169, some zm_170, some zm_171, some zm_172, some zm_173, some zm_174, some zm_175, some zm_176, some zm_177, some zm_178, some zm_179, some zm_180, some zm_181, some zm_182, some zm_183, some zm_184, some zm_185, some zm_186, some zm_187, some zm_188, some zm_189, some zm_190, some zm_191, some zm_192, some zm_193, some zm_194, some zm_195, some zm_196, some zm_197, some zm_198, some zm_199, some zm_200, some zm_201, some zm_202, some zm_203, some zm_204, some zm_205, some zm_206, some zm_207, some zm_208, some zm_209, some zm_210, some zm_211, some zm_212, some zm_213, some zm_214, some zm_215, some zm_216, some zm_217, some zm_218, some zm_219, some zm_220, some zm_221, some zm_222, some zm_223, some zm_224, some zm_225, some zm_226, some zm_227, some zm_228, some zm_229, some zm_230, some zm_231, some zm_232, some zm_233, some zm_234, some zm_235, some zm_236, some zm_237, some zm_238, some zm_239, some zm_240, some zm_241, some zm_242, some zm_243, some zm_244, some zm_245, some zm_246, some zm_247, some zm_248, some zm_249, some zm_250, some zm_251, some zm_252, some zm_253, some zm_254, some zm_255, some zm_256, some zm_257, some zm_258, some zm_259, some zm_260, some zm_261, some zm_262, some zm_263, some zm_264, some zm_265, some zm_266, some zm_267, some zm_268, some zm_269, some zm_270, some zm_271, some zm_272, some zm_273, some zm_274, some zm_275, some zm_276, some zm_277, some zm_278, some zm_279, some zm_280, some zm_281, some zm_282, some zm_283, some zm_284, some zm_285, none, some zm_287] := zalls_c zq_148 (zalls_c zq_149 (zalls_c zq_150 (zalls_c zq_151 (zalls_c zq_152 (zalls_c zq_153 (zalls_c zq_154 (zalls_c zq_155 (zalls_c zq_156 (zalls_c zq_157 (zalls_c zq_158 (zalls_c zq_159 (zalls_c zq_160 (zalls_c zq_161 (zalls_c zq_162 (zalls_c zq_163 (zalls_c zq_164 (zalls_c zq_165 (zalls_c zq_166 (zalls_c zq_167 (za_168))))))))))))))))))))
set_option maxRecDepth 100000 in
theorem za_128 : zalls 128 [some zm_128, some zm_129, some zm_130, some zm_131, some zm_132, some zm_133, some zm_134, some zm_135, some zm_136, some zm_137, some zm_138, some zm_139, some zm_140, some zm_141, some zm_142, some zm_143, some zm_144, some zm_145, some zm_146, some zm_147, some zm_148, some zm_149, some zm_150, some zm_151, some zm_152, some zm_153, some zm_154, some zm_155, some zm_156, some zm_157, some zm_158, some zm_159, some zm_160, some zm_161, some zm_162, some zm_163, some zm_164, some zm_165, some zm_166, some zm_167, some zm_168, some zm_169, some zm_170, some zm_171, some zm_172, some zm_173, some zm_174, some zm_175, some zm_176, some zm_177, some zm_178, some zm_179, some zm_180, some zm_181, some zm_182, some zm_183, some zm_184, some zm_185, some zm_186, some zm_187, some zm_188, some zm_189, some zm_190, some zm_191, some zm_192, some zm_193, some zm_194, some zm_195, some zm_196, some zm_197, some zm_198, some zm_199, some zm_200, some zm_201, some zm_202, some zm_203, some zm_204, some zm_205, some zm_206, some zm_207, some zm_208, some zm_209, some zm_210, some zm_211, some zm_212, some zm_213, some zm_214, some zm_215, some zm_216, some zm_217, some zm_218, some zm_219, some zm_220, some zm_221, some zm_222, some zm_223, some zm_224, some zm_225, some zm_226, some zm_227, some zm_228, some zm_229, some zm_230, some zm_231, some zm_232, some zm_233, some zm_234, some zm_235, some zm_236, some zm_237, some zm_238, some zm_239, some zm_240, some zm_241, some zm_242, some zm_243, some zm_244, some zm_245, some zm_246, some zm_247, some zm_248, some zm_249, some zm_250, some zm_251, some zm_252, some zm_253, some zm_254, some zm_255, some zm_256, some zm_257, some zm_258, some zm_259, some zm_260, some zm_261, some zm_262, some zm_263, some zm_264, some zm_265, some zm_266, some zm_267, some zm_268, some zm_269, some zm_270, some zm_271, some zm_272, some zm_273, some zm_274, some zm_275, some zm_276, some zm_277, some zm_278, some zm_279, some zm_280, some zm_281, some zm_282, some zm_283, some zm_284, some zm_285, none, some zm_287] := zalls_c zq_128 (zalls_c zq_129 (zalls_c zq_130 (zalls_c zq_131 (zalls_c zq_132 (zalls_c zq_133 (zalls_c zq_134 (zalls_c zq_135 (zalls_c zq_136 (zalls_c zq_137 (zalls_c zq_138 (zalls_c zq_139 (zalls_c zq_140 (zalls_c zq_141 (zalls_c zq_142 (zalls_c zq_143 (zalls_c zq_144 (zalls_c zq_145 (zalls_c zq_146 (zalls_c zq_147 (za_148))))))))))))))))))))
set_option maxRecDepth 100000 in
theorem za_108 : zalls 108 [some zm_108, some zm_109, some zm_110, some zm_111, some zm_112, some zm_113, some zm_114, some zm_115, some zm_116, some zm_117, some zm_118, some zm_119, some zm_120, some zm_121, some zm_122, some zm_123, some zm_124, some zm_125, some zm_126, some zm_127, some zm_128, some zm_129, some zm_130, some zm_131, some zm_132, some zm_133, some zm_134, some zm_135, some zm_136, some zm_137, some zm_138, some zm_139, some zm_140, some zm_141, some zm_142, some zm_143, some zm_144, some zm_145, some zm_146, some zm_147, some zm_148, some zm_149, some zm_150, some zm_151, some zm_152, some zm_153, some zm_154, some zm_155, some zm_156, some zm_157, some zm_158, some zm_159, some zm_160, some zm_161, some zm_162, some zm_163, some zm_164, some zm_165, some zm_166, some zm_167, some zm_168, some zm_169, some zm_170, some zm_171, some zm_172, some zm_173, some zm_174, some zm_175, some zm_176, some zm_177, some zm_178, some zm_179, some zm_180, some zm_181, some zm_182, some zm_183, some zm_184, some zm_185, some zm_186, some zm_187, some zm_188, some zm_189, some zm_190, some zm_191, some zm_192, some zm_193, some zm_194, some zm_195, some zm_196, some zm_197, some zm_198, some zm_199, some zm_200, some zm_201, some zm_202, some zm_203, some zm_204, some zm_205, some zm_206, some zm_207, some zm_208, some zm_209, some zm_210, some zm_211, some zm_212, some zm_213, some zm_214, some zm_215, some zm_216, some zm_217, some zm_218, some zm_219, some zm_220, some zm_221, some zm_222, some zm_223, some zm_224, some zm_225, some zm_226, some zm_227, some zm_228, some zm_229, some zm_230, some zm_231, some zm_232, some zm_233, some zm_234, some zm_235, some zm_236, some zm_237, some zm_238, some zm_239, some zm_240, some zm_241, some zm_242, some zm_243, some zm_244, some zm_245, some zm_246, some zm_247, some zm_248, some zm_249, some zm_250, some zm_251, some zm_252, some zm_253, some zm_254, some zm_255, some zm_256, some zm_257, some zm_258, some zm_259, some zm_260, some zm_261, some zm_262, some zm_263, some zm_264, some zm_265, some zm_266, some zm_267, some zm_268, some zm_269, some zm_270, some zm_271, some zm_272, some zm_273, some zm_274, some zm_275, some zm_276, some zm_277, some zm_278, some zm_279, some zm_280, some zm_281, some zm_282, some zm_283, some zm_284, some zm_285, none, some zm_287] := zalls_c zq_108 (zalls_c zq_109 (zalls_c zq_110 (zalls_c zq_111 (zalls_c zq_112 (zalls_c zq_113 (zalls_c zq_114 (zalls_c zq_115 (zalls_c zq_116 (zalls_c zq_117 (zalls_c zq_118 (zalls_c zq_119 (zalls_c zq_120 (zalls_c zq_121 (zalls_c zq_122 (zalls_c zq_123 (zalls_c zq_124 (zalls_c zq_125 (zalls_c zq_126 (zalls_c zq_127 (za_128))))))))))))))))))))
set_option maxRecDepth 100000 in
theorem za_88 : zalls 88 [some zm_88, some zm_89, some zm_90, some zm_91, some zm_92, some zm_93, some zm_94, some zm_95, some zm_96, some zm_97, some zm_98, some zm_99, some zm_100, some zm_101, some zm_102, some zm_103, some zm_104, some zm_105, some zm_106, some zm_107, some zm_108, some zm_109, some zm_110, some zm_111, some zm_112, some zm_113, some zm_114, some zm_115, some zm_116, some zm_117, some zm_118, some zm_119, some zm_120, some zm_121, some zm_122, some zm_123, some zm_124, some zm_125, some zm_126, some zm_127, some zm_128, some zm_129, some zm_130, some zm_131, some zm_132, some zm_133, some zm_134, some zm_135, some zm_136, some zm_137, some zm_138, some zm_139, some zm_140, some zm_141, some zm_142, some zm_143, some zm_144, some zm_145, some zm_146, some zm_147, some zm_148, some zm_149, some zm_150, some zm_151, some zm_152, some zm_153, some zm_154, some zm_155, some zm_156, some zm_157, some zm_158, some zm_159, some zm_160, some zm_161, some zm_162, some zm_163, some zm_164, some zm_165, some zm_166, some zm_167, some zm_168, some zm_169, some zm_170, some zm_171, some zm_172, some zm_173, some zm_174, some zm_175, some zm_176, some zm_177, some zm_178, some zm_179, some zm_180, some zm_181, some zm_182, some zm_183, some zm_184, some zm_185, some zm_186, some zm_187, some zm_188, some zm_189, some zm_190, some zm_191, some zm_192, some zm_193, some zm_194, some zm_195, some zm_196, some zm_197, some zm_198, some zm_199, some zm_200, some zm_201, some zm_202, some zm_203, some zm_204, some zm_205, some zm_206, some zm_207, some zm_208, some zm_209, some zm_210, some zm_211, some zm_212, some zm_213, some zm_214, some zm_215, some zm_216, some zm_217, some zm_218, some zm_219, some zm_220, some zm_221, some zm_222, some zm_223, some zm_224, some zm_225, some zm_226, some zm_227, some zm_228, some zm_229, some zm_230, some zm_231, some zm_232, some zm_233, some zm_234, some zm_235, some zm_236, some zm_237, some zm_238, some zm_239, some zm_240, some zm_241, some zm_242, some zm_243, some zm_244, some zm_245, some zm_246, some zm_247, some zm_248, some zm_249, some zm_250, some zm_251, some zm_252, some zm_253, some zm_254, some zm_255, some zm_256, some zm_257, some zm_258, some zm_259, some zm_260, some zm_261, some zm_262, some zm_263, some zm_264, some zm_265, some zm_266, some zm_267, some zm_268, some zm_269, some zm_270, some zm_271, some zm_272, some zm_273, some zm_274, some zm_275, some zm_276, some zm_277, some zm_278, some zm_279, some zm_280, some zm_281, some zm_282, some zm_283, some zm_284, some zm_285, none, some zm_287] := zalls_c zq_88 (zalls_c zq_89 (zalls_c zq_90 (zalls_c zq_91 (zalls_c zq_92 (zalls_c zq_93 (zalls_c zq_94 (zalls_c zq_95 (zalls_c zq_96 (zalls_c zq_97 (zalls_c zq_98 (zalls_c zq_99 (zalls_c zq_100 (zalls_c zq_101 (zalls_c zq_102 (zalls_c zq_103 (zalls_c zq_104 (zalls_c zq_105 (zalls_c zq_106 (zalls_c zq_107 (za_108))))))))))))))))))))
set_option maxRecDepth 100000 in
theorem za_68 : zalls 68 [some zm_68, some zm_69, some zm_70, some zm_71, some zm_72, some zm_73, some zm_74, some zm_75, some zm_76, some zm_77, some zm_78, some zm_79, some zm_80, some zm_81, some zm_82, some zm_83, some zm_84, some zm_85, some zm_86, some zm_87, some zm_88, some zm_89, some zm_90, some zm_91, some zm_92, some zm_93, some zm_94, some zm_95, some zm_96, some zm_97, some zm_98, some zm_99, some zm_100, some zm_101, some zm_102, some zm_103, some zm_104, some zm_105, some zm_106, some zm_107, some zm_108, some zm_109, some zm_110, some zm_111, some zm_112, some zm_113, some zm_114, some zm_115, some zm_116, some zm_117, some zm_118, some zm_119, some zm_120, some zm_121, some zm_122, some zm_123, some zm_124, some zm_125, some zm_126, some zm_127, some zm_128, some zm_129, some zm_130, some zm_131, some zm_132, some zm_133, some zm_134, some zm_135, some zm_136, some zm_137, some zm_138, some zm_139, some zm_140, some zm_141, some zm_142, some zm_143, some zm_144, some zm_145, some zm_146, some zm_147, some zm_148, some zm_149, some zm_150, some zm_151, some zm_152, some zm_153, some zm_154, some zm_155, some zm_156, some zm_157, some zm_158, some zm_159, some zm_160, some zm_161, some zm_162, some zm_163, some zm_164, some zm_165, some zm_166, some zm_167, some zm_168, some zm_169, some zm_170, some zm_171, some zm_172, some zm_173, some zm_174, some zm_175, some zm_176, some zm_177, some zm_178, some zm_179, some zm_180, some zm_181, some zm_182, some zm_183, some zm_184, some zm_185, some zm_186, some zm_187, some zm_188, some zm_189, some zm_190, some zm_191, some zm_192, some zm_193, some zm_194, some zm_195, some zm_196, some zm_197, some zm_198, some zm_199, some zm_200, some zm_201, some zm_202, some zm_203, some zm_204, some zm_205, some zm_206, some zm_207, some zm_208, some zm_209, some zm_210, some zm_211, some zm_212, some zm_213, some zm_214, some zm_215, some zm_216, some zm_217, some zm_218, some zm_219, some zm_220, some zm_221, some zm_222, some zm_223, some zm_224, some zm_225, some zm_226, some zm_227, some zm_228, some zm_229, some zm_230, some zm_231, some zm_232, some zm_233, some zm_234, some zm_235, some zm_236, some zm_237, some zm_238, some zm_239, some zm_240, some zm_241, some zm_242, some zm_243, some zm_244, some zm_245, some zm_246, some zm_247, some zm_248, some zm_249, some zm_250, some zm_251, some zm_252, some zm_253, some zm_254, some zm_255, some zm_256, some zm_257, some zm_258, some zm_259, some zm_260, some zm_261, some zm_262, some zm_263, some zm_264, some zm_265, some zm_266, some zm_267, some zm_268, some zm_269, some zm_270, some zm_271, some zm_272, some zm_273, some zm_274, some zm_275, some zm_276, some zm_277, some zm_278, some zm_279, some zm_280, some zm_281, some zm_282, some zm_283, some zm_284, some zm_285, none, some zm_287] := zalls_c zq_68 (zalls_c zq_69 (zalls_c zq_70 (zalls_c zq_71 (zalls_c zq_72 (zalls_c zq_73 (zalls_c zq_74 (zalls_c zq_75 (zalls_c zq_76 (zalls_c zq_77 (zalls_c zq_78 (zalls_c zq_79 (zalls_c zq_80 (zalls_c zq_81 (zalls_c zq_82 (zalls_c zq_83 (zalls_c zq_84 (zalls_c zq_85 (zalls_c zq_86 (zalls_c zq_87 (za_88))))))))))))))))))))
set_option maxRecDepth 100000 in
theorem za_48 : zalls 48 [some zm_48, some zm_49, some zm_50, some zm_51, some zm_52, some zm_53, some zm_54, some zm_55, some zm_56, some zm_57, some zm_58, some zm_59, some zm_60, some zm_61, some zm_62, some zm_63, some zm_64, some zm_65, some zm_66, some zm_67, some zm_68, some zm_69, some zm_70, some zm_71, some zm_72, some zm_73, some zm_74, some zm_75, some zm_76, some zm_77, some zm_78, some zm_79, some zm_80, some zm_81, some zm_82, some zm_83, some zm_84, some zm_85, some zm_86, some zm_87, some zm_88, some zm_89, some zm_90, some zm_91, some zm_92, some zm_93, some zm_94, some zm_95, some zm_96, some zm_97, some zm_98, some zm_99, some zm_100, some zm_101, some zm_102, some zm_103, some zm_104, some zm_105, some zm_106, some zm_107, some zm_108, some zm_109, some zm_110, some zm_111, some zm_112, some zm_113, some zm_114, some zm_115, some zm_116, some zm_117, some zm_118, some zm_119, some zm_120, some zm_121, some zm_122, some zm_123, some zm_124, some zm_125, some zm_126, some zm_127, some zm_128, some zm_129, some zm_130, some zm_131, some zm_132, some zm_133, some zm_134, some zm_135, some zm_136, some zm_137, some zm_138, some zm_139, some zm_140, some zm_141, some zm_142, some zm_143, some zm_144, some zm_145, some zm_146, some zm_147, some zm_148, some zm_149, some zm_150, some zm_151, some zm_152, some zm_153, some zm_154, some zm_155, some zm_156, some zm_157, some zm_158, some zm_159, some zm_160, some zm_161, some zm_162, some zm_163, some zm_164, some zm_165, some zm_166, some zm_167, some zm_168, some zm_169, some zm_170, some zm_171, some zm_172, some zm_173, some zm_174, some zm_175, some zm_176, some zm_177, some zm_178, some zm_179, some zm_180, some zm_181, some zm_182, some zm_183, some zm_184, some zm_185, some zm_186, some zm_187, some zm_188, some zm_189, some zm_190, some zm_191, some zm_192, some zm_193, some zm_194, some zm_195, some zm_196, some zm_197, some zm_198, some zm_199, some zm_200, some zm_201, some zm_202, some zm_203, some zm_204, some zm_205, some zm_206, some zm_207, some zm_208, some zm_209, some zm_210, some zm_211, some zm_212, some zm_213, some zm_214, some zm_215, some zm_216, some zm_217, some zm_218, some zm_219, some zm_220, some zm_221, some zm_222, some zm_223, some zm_224, some zm_225, some zm_226, some zm_227, some zm_228, some zm_229, some zm_230, some zm_231, some zm_232, some zm_233, some zm_234, some zm_235, some zm_236, some zm_237, some zm_238, some zm_239, some zm_240, some zm_241, some zm_242, some zm_243, some zm_244, some zm_245, some zm_246, some zm_247, some zm_248, some zm_249, some zm_250, some zm_251, some zm_252, some zm_253, some zm_254, some zm_255, some zm_256, some zm_257, some zm_258, some zm_259, some zm_260, some zm_261, some zm_262, some zm_263, some zm_264, some zm_265, some zm_266, some zm_267, some zm_268, some zm_269, some zm_270, some zm_271, some zm_272, some zm_273, some zm_274, some zm_275, some zm_276, some zm_277, some zm_278, some zm_279, some zm_280, some zm_281, some zm_282, some zm_283, some zm_284, some zm_285, none, some zm_287] := zalls_c zq_48 (zalls_c zq_49 (zalls_c zq_50 (zalls_c zq_51 (zalls_c zq_52 (zalls_c zq_53 (zalls_c zq_54 (zalls_c zq_55 (zalls_c zq_56 (zalls_c zq_57 (zalls_c zq_58 (zalls_c zq_59 (zalls_c zq_60 (zalls_c zq_61 (zalls_c zq_62 (zalls_c zq_63 (zalls_c zq_64 (zalls_c zq_65 (zalls_c zq_66 (zalls_c zq_67 (za_68))))))))))))))))))))
set_option maxRecDepth 100000 in
theorem za_28 : zalls 28 [some zm_28, some zm_29, some zm_30, some zm_31, some zm_32, some zm_33, some zm_34, some zm_35, some zm_36, some zm_37, some zm_38, some zm_39, some zm_40, some zm_41, some zm_42, some zm_43, some zm_44, some zm_45, some zm_46, some zm_47, some zm_48, some zm_49, some zm_50, some zm_51, some zm_52, some zm_53, some zm_54, some zm_55, some zm_56, some zm_57, some zm_58, some zm_59, some zm_60, some zm_61, some zm_62, some zm_63, some zm_64, some zm_65, some zm_66, some zm_67, some zm_68, some zm_69, some zm_70, some zm_71, some zm_72, some zm_73, some zm_74, some zm_75, some zm_76, some zm_77, some zm_78, some zm_79, some zm_80, some zm_81, some zm_82, some zm_83, some zm_84, some zm_85, some zm_86, some zm_87, some zm_88, some zm_89, some zm_90, some zm_91, some zm_92, some zm_93, some zm_94, some zm_95, some zm_96, some zm_97, some zm_98, some zm_99, some zm_100, some zm_101, some zm_102, some zm_103, some zm_104, some zm_105, some zm_106, some zm_107, some zm_108, some zm_109, some zm_110, some zm_111, some zm_112, some zm_113, some zm_114, some zm_115, some zm_116, some zm_117, some zm_118, some zm_119, some zm_120, some zm_121, some zm_122, some zm_123, some zm_124, some zm_125, some zm_126, some zm_127, some zm_128, some zm_129, some zm_130, some zm_131, some zm_132, some zm_133, some zm_134, some zm_135, some zm_136, some zm_137, some zm_138, some zm_139, some zm_140, some zm_141, some zm_142, some zm_143, some zm_144, some zm_145, some zm_146, some zm_147, some zm_148, some zm_149, some zm_150, some zm_151, some zm_152, some zm_153, some zm_154, some zm_155, some zm_156, some zm_157, some zm_158, some zm_159, some zm_160, some zm_161, some zm_162, some zm_163, some zm_164, some zm_165, some zm_166, some zm_167, some zm_168, some zm_169, some zm_170, some zm_171, some zm_172, some zm_173, some zm_174, some zm_175, some zm_176, some zm_177, some zm_178, some zm_179, some zm_180, some zm_181, some zm_182, some zm_183, some zm_184, some zm_185, some zm_186, some zm_187, some zm_188, some zm_189, some zm_190, some zm_191, some zm_192, some zm_193, some zm_194, some zm_195, some zm_196, some zm_197, some zm_198, some zm_199, some zm_200, some zm_201, some zm_202, some zm_203, some zm_204, some zm_205, some zm_206, some zm_207, some zm_208, some zm_209, some zm_210, some zm_211, some zm_212, some zm_213, some zm_214, some zm_215, some zm_216, some zm_217, some zm_218, some zm_219, some zm_220, some zm_221, some zm_222, some zm_223, some zm_224, some zm_225, some zm_226, some zm_227, some zm_228, some zm_229, some zm_230, some zm_231, some zm_232, some zm_233, some zm_234, some zm_235, some zm_236, some zm_237, some zm_238, some zm_239, some zm_240, some zm_241, some zm_242, some zm_243, some zm_244, some zm_245, some zm_246, some zm_247, some zm_248, some zm_249, some zm_250, some zm_251, some zm_252, some zm_253, some zm_254, some zm_255, some zm_256, some zm_257, some zm_258, some zm_259, some zm_260, some zm_261, some zm_262, some zm_263, some zm_264, some zm_265, some zm_266, some zm_267, some zm_268, some zm_269, some zm_270, some zm_271, some zm_272, some zm_273, some zm_274, some zm_275, some zm_276, some zm_277, some zm_278, some zm_279, some zm_280, some zm_281, some zm_282, some zm_283, some zm_284, some zm_285, none, some zm_287] := zalls_c zq_28 (zalls_c zq_29 (zalls_c zq_30 (zalls_c zq_31 (zalls_c zq_32 (zalls_c zq_33 (zalls_c zq_34 (zalls_c zq_35 (zalls_c zq_36 (zalls_c zq_37 (zalls_c zq_38 (zalls_c zq_39 (zalls_c zq_40 (zalls_c zq_41 (zalls_c zq_42 (zalls_c zq_43 (zalls_c zq_44 (zalls_c zq_45 (zalls_c zq_46 (zalls_c zq_47 (za_48))))))))))))))))))))
set_option maxRecDepth 100000 in
theorem za_8 : zalls 8 [some zm_8, some zm_9, some zm_10, some zm_11, some zm_12, some zm_13, some zm_14, some zm_15, some zm_16, some zm_17, some zm_18, some zm_19, some zm_20, some zm_21, some zm_22, some zm_23, some zm_24, some zm_25, some zm_26, some zm_27, some zm_28, some zm_29, some zm_30, some zm_31, some zm_32, some zm_33, some zm_34, some zm_35, some zm_36, some zm_37, some zm_38, some zm_39, some zm_40, some zm_41, some zm_42, some zm_43, some zm_44, some zm_45, some zm_46, some zm_47, some zm_48, some zm_49, some zm_50, some zm_51, some zm_52, some zm_53, some zm_54, some zm_55, some zm_56, some zm_57, some zm_58, some zm_59, some zm_60, some zm_61, some zm_62, some zm_63, some zm_64, some zm_65, some zm_66, some zm_67, some zm_68, some zm_69, some zm_70, some zm_71, some zm_72, some zm_73, some zm_74, some zm_75, some zm_76, some zm_77, some zm_78, some zm_79, some zm_80, some zm_81, some zm_82, some zm_83, some zm_84, some zm_85, some zm_86, some zm_87, some zm_88, some zm_89, some zm_90, some zm_91, some zm_92, some zm_93, some zm_94, some zm_95, some zm_96, some zm_97, some zm_98, some zm_99, some zm_100, some zm_101, some zm_102, some zm_103, some zm_104, some zm_105, some zm_106, some zm_107, some zm_108, some zm_109, some zm_110, some zm_111, some zm_112, some zm_113, some zm_114, some zm_115, some zm_116, some zm_117, some zm_118, some zm_119, some zm_120, some zm_121, some zm_122, some zm_123, some zm_124, some zm_125, some zm_126, some zm_127, some zm_128, some zm_129, some zm_130, some zm_131, some zm_132, some zm_133, some zm_134, some zm_135, some zm_136, some zm_137, some zm_138, some zm_139, some zm_140, some zm_141, some zm_142, some zm_143, some zm_144, some zm_145, some zm_146, some zm_147, some zm_148, some zm_149, some zm_150, some zm_151, some zm_152, some zm_153, some zm_154, some zm_155, some zm_156, some zm_157, some zm_158, some zm_159, some zm_160, some zm_161, some zm_162, some zm_163, some zm_164, some zm_165, some zm_166, some zm_167, some zm_168, some zm_169, some zm_170, some zm_171, some zm_172, some zm_173, some zm_174, some zm_175, some zm_176, some zm_177, some zm_178, some zm_179, some zm_180, some zm_181, some zm_182, some zm_183, some zm_184, some zm_185, some zm_186, some zm_187, some zm_188, some zm_189, some zm_190, some zm_191, some zm_192, some zm_193, some zm_194, some zm_195, some zm_196, some zm_197, some zm_198, some zm_199, some zm_200, some zm_201, some zm_202, some zm_203, some zm_204, some zm_205, some zm_206, some zm_207, some zm_208, some zm_209, some zm_210, some zm_211, some zm_212, some zm_213, some zm_214, some zm_215, some zm_216, some zm_217, some zm_218, some zm_219, some zm_220, some zm_221, some zm_222, some zm_223, some zm_224, some zm_225, some zm_226, some zm_227, some zm_228, some zm_229, some zm_230, some zm_231, some zm_232, some zm_233, some zm_234, some zm_235, some zm_236, some zm_237, some zm_238, some zm_239, some zm_240, some zm_241, some zm_242, some zm_243, some zm_244, some zm_245, some zm_246, some zm_247, some zm_248, some zm_249, some zm_250, some zm_251, some zm_252, some zm_253, some zm_254, some zm_255, some zm_256, some zm_257, some zm_258, some zm_259, some zm_260, some zm_261, some zm_262, some zm_263, some zm_264, some zm_265, some zm_266, some zm_267, some zm_268, some zm_269, some zm_270, some zm_271, some zm_272, some zm_273, some zm_274, some zm_275, some zm_276, some zm_277, some zm_278, some zm_279, some zm_280, some zm_281, some zm_282, some zm_283, some zm_284, some zm_285, none, some zm_287] := zalls_c zq_8 (zalls_c zq_9 (zalls_c zq_10 (zalls_c zq_11 (zalls_c zq_12 (zalls_c zq_13 (zalls_c zq_14 (zalls_c zq_15 (zalls_c zq_16 (zalls_c zq_17 (zalls_c zq_18 (zalls_c zq_19 (zalls_c zq_20 (zalls_c zq_21 (zalls_c zq_22 (zalls_c zq_23 (zalls_c zq_24 (zalls_c zq_25 (zalls_c zq_26 (zalls_c zq_27 (za_28))))))))))))))))))))
set_option maxRecDepth 100000 in
theorem za_0 : zalls 0 [some zm_0, some zm_1, some zm_2, some zm_3, some zm_4, some zm_5, some zm_6, some zm_7, some zm_8, some zm_9, some zm_10, some zm_11, some zm_12, some zm_13, some zm_14, some zm_15, some zm_16, some zm_17, some zm_18, some zm_19, some zm_20, some zm_21, some zm_22, some zm_23, some zm_24, some zm_25, some zm_26, some zm_27, some zm_28, some zm_29, some zm_30, some zm_31, some zm_32, some zm_33, some zm_34, some zm_35, some zm_36, some zm_37, some zm_38, some zm_39, some zm_40, some zm_41, some zm_42, some zm_43, some zm_44, some zm_45, some zm_46, some zm_47, some zm_48, some zm_49, some zm_50, some zm_51, some zm_52, some zm_53, some zm_54, some zm_55, some zm_56, some zm_57, some zm_58, some zm_59, some zm_60, some zm_61, some zm_62, some zm_63, some zm_64, some zm_65, some zm_66, some zm_67, some zm_68, some zm_69, some zm_70, some zm_71, some zm_72, some zm_73, some zm_74, some zm_75, some zm_76, some zm_77, some zm_78, some zm_79, some zm_80, some zm_81, some zm_82, some zm_83, some zm_84, some zm_85, some zm_86, some zm_87, some zm_88, some zm_89, some zm_90, some zm_91, some zm_92, some zm_93, some zm_94, some zm_95, some zm_96, some zm_97, some zm_98, some zm_99, some zm_100, some zm_101, some zm_102, some zm_103, some zm_104, some zm_105, some zm_106, some zm_107, some zm_108, some zm_109, some zm_110, some zm_111, some zm_112, some zm_113, some zm_114, some zm_115, some zm_116, some zm_117, some zm_118, some zm_119, some zm_120, some zm_121, some zm_122, some zm_123, some zm_124, some zm_125, some zm_126, some zm_127, some zm_128, some zm_129, some zm_130, some zm_131, some zm_132, some zm_133, some zm_134, some zm_135, some zm_136, some zm_137, some zm_138, some zm_139, some zm_140, some zm_141, some zm_142, some zm_143, some zm_144, some zm_145, some zm_146, some zm_147, some zm_148, some zm_149, some zm_150, some zm_151, some zm_152, some zm_153, some zm_154, some zm_155, some zm_156, some zm_157, some zm_158, some zm_159, some zm_160, some zm_161, some zm_162, some zm_163, some zm_164, some zm_165, some zm_166, some zm_167, some zm_168, some zm_169, some zm_170, some zm_171, some zm_172, some zm_173, some zm_174, some zm_175, some zm_176, some zm_177, some zm_178, some zm_179, some zm_180, some zm_181, some zm_182, some zm_183, some zm_184, some zm_185, some zm_186, some zm_187, some zm_188, some zm_189, some zm_190, some zm_191, some zm_192, some zm_193, some zm_194, some zm_195, some zm_196, some zm_197, some zm_198, some zm_199, some zm_200, some zm_201, some zm_202, some zm_203, some zm_204, some zm_205, some zm_206, some zm_207, some zm_208, some zm_209, some zm_210, some zm_211, some zm_212, some zm_213, some zm_214, some zm_215, some zm_216, some zm_217, some zm_218, some zm_219, some zm_220, some zm_221, some zm_222, some zm_223, some zm_224, some zm_225, some zm_226, some zm_227, some zm_228, some zm_229, some zm_230, some zm_231, some zm_232, some zm_233, some zm_234, some zm_235, some zm_236, some zm_237, some zm_238, some zm_239, some zm_240, some zm_241, some zm_242, some zm_243, some zm_244, some zm_245, some zm_246, some zm_247, some zm_248, some zm_249, some zm_250, some zm_251, some zm_252, some zm_253, some zm_254, some zm_255, some zm_256, some zm_257, some zm_258, some zm_259, some zm_260, some zm_261, some zm_262, some zm_263, some zm_264, some zm_265, some zm_266, some zm_267, some zm_268, some zm_269, some zm_270, some zm_271, some zm_272, some zm_273, some zm_274, some zm_275, some zm_276, some zm_277, some zm_278, some zm_279, some zm_280, some zm_281, some zm_282, some zm_283, some zm_284, some zm_285, none, some zm_287] := zalls_c zq_0 (zalls_c zq_1 (zalls_c zq_2 (zalls_c zq_3 (zalls_c zq_4 (zalls_c zq_5 (zalls_c zq_6 (zalls_c zq_7 (za_8))))))))
theorem zck_all : ∀ i M, zP i = some M → zck1 i M = true := by
  intro i M h
  unfold zP at h
  split at h
  · rename_i M2 e
    cases h
    have := zalls_ok zPl 0 za_0 i M e
    rwa [Nat.zero_add] at this
  · cases h
theorem zmc_all : ∀ k M', zP k = some M' → zmc k M' = true := by
  intro k M h
  have := zck_all k M h
  unfold zck1 at this
  rw [Bool.and_eq_true] at this
  exact this.1
theorem zok_all : ∀ mid M, zP mid = some M → zokM zP M ∧ zokC M := by
  intro k M h
  have h1 := zmc_all k M h
  have h2 := zck_all k M h
  unfold zck1 at h2
  rw [Bool.and_eq_true] at h2
  obtain ⟨c1, c2, -⟩ := zmOk_C h1
  exact ⟨zokM_of zmc_all c2 c1.2.2.2.2.2 h2.2, c1⟩
theorem zok_law : zokM zP zm_286 := zokM_of zmc_all (by decide +kernel) (by decide) zck_law
