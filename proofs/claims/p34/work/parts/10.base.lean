abbrev Hp : Type := Nat → Nat → Int32
/-- which cell an id is: (0, n) int row, (1, n) boolean row, (2, n, [b, k]) row of valleys b, b + k .., (3, ..) row of int rows, (4, c, fields) object of class c of vwCl: 0 an int field, r + 1 the id r -/
def layT : List (Nat × Nat × List Nat) := [(4, 8, [2, 15, 17, 23, 29, 32, 178, 179, 180, 187, 190, 0]), (4, 4, [3, 12, 13, 14]), (3, 8, [3, 1]), (0, 40, []), (0, 40, []), (0, 40, []), (0, 40, []), (0, 40, []), (0, 40, []), (0, 40, []), (0, 40, []), (0, 8, []), (0, 8, []), (1, 8, []), (4, 6, [16, 0, 0, 0, 0]), (0, 160, []), (4, 7, [18, 19, 20, 21, 22, 0, 0, 0]), (0, 6, []), (0, 6, []), (0, 6, []), (0, 6, []), (0, 36, []), (4, 7, [24, 25, 26, 27, 28, 0, 0, 0]), (0, 6, []), (0, 6, []), (0, 6, []), (0, 6, []), (0, 36, []), (4, 2, [30, 31]), (0, 6, []), (0, 6, []), (4, 0, [33, 0, 0]), (2, 24, [33, 6]), (4, 7, [35, 36, 37, 38, 39, 0, 0, 0]), (0, 6, []), (0, 6, []), (0, 6, []), (0, 6, []), (0, 36, []), (4, 7, [41, 42, 43, 44, 45, 0, 0, 0]), (0, 6, []), (0, 6, []), (0, 6, []), (0, 6, []), (0, 36, []), (4, 7, [47, 48, 49, 50, 51, 0, 0, 0]), (0, 6, []), (0, 6, []), (0, 6, []), (0, 6, []), (0, 36, []), (4, 7, [53, 54, 55, 56, 57, 0, 0, 0]), (0, 6, []), (0, 6, []), (0, 6, []), (0, 6, []), (0, 36, []), (4, 7, [59, 60, 61, 62, 63, 0, 0, 0]), (0, 6, []), (0, 6, []), (0, 6, []), (0, 6, []), (0, 36, []), (4, 7, [65, 66, 67, 68, 69, 0, 0, 0]), (0, 6, []), (0, 6, []), (0, 6, []), (0, 6, []), (0, 36, []), (4, 7, [71, 72, 73, 74, 75, 0, 0, 0]), (0, 6, []), (0, 6, []), (0, 6, []), (0, 6, []), (0, 36, []), (4, 7, [77, 78, 79, 80, 81, 0, 0, 0]), (0, 6, []), (0, 6, []), (0, 6, []), (0, 6, []), (0, 36, []), (4, 7, [83, 84, 85, 86, 87, 0, 0, 0]), (0, 6, []), (0, 6, []), (0, 6, []), (0, 6, []), (0, 36, []), (4, 7, [89, 90, 91, 92, 93, 0, 0, 0]), (0, 6, []), (0, 6, []), (0, 6, []), (0, 6, []), (0, 36, []), (4, 7, [95, 96, 97, 98, 99, 0, 0, 0]), (0, 6, []), (0, 6, []), (0, 6, []), (0, 6, []), (0, 36, []), (4, 7, [101, 102, 103, 104, 105, 0, 0, 0]), (0, 6, []), (0, 6, []), (0, 6, []), (0, 6, []), (0, 36, []), (4, 7, [107, 108, 109, 110, 111, 0, 0, 0]), (0, 6, []), (0, 6, []), (0, 6, []), (0, 6, []), (0, 36, []), (4, 7, [113, 114, 115, 116, 117, 0, 0, 0]), (0, 6, []), (0, 6, []), (0, 6, []), (0, 6, []), (0, 36, []), (4, 7, [119, 120, 121, 122, 123, 0, 0, 0]), (0, 6, []), (0, 6, []), (0, 6, []), (0, 6, []), (0, 36, []), (4, 7, [125, 126, 127, 128, 129, 0, 0, 0]), (0, 6, []), (0, 6, []), (0, 6, []), (0, 6, []), (0, 36, []), (4, 7, [131, 132, 133, 134, 135, 0, 0, 0]), (0, 6, []), (0, 6, []), (0, 6, []), (0, 6, []), (0, 36, []), (4, 7, [137, 138, 139, 140, 141, 0, 0, 0]), (0, 6, []), (0, 6, []), (0, 6, []), (0, 6, []), (0, 36, []), (4, 7, [143, 144, 145, 146, 147, 0, 0, 0]), (0, 6, []), (0, 6, []), (0, 6, []), (0, 6, []), (0, 36, []), (4, 7, [149, 150, 151, 152, 153, 0, 0, 0]), (0, 6, []), (0, 6, []), (0, 6, []), (0, 6, []), (0, 36, []), (4, 7, [155, 156, 157, 158, 159, 0, 0, 0]), (0, 6, []), (0, 6, []), (0, 6, []), (0, 6, []), (0, 36, []), (4, 7, [161, 162, 163, 164, 165, 0, 0, 0]), (0, 6, []), (0, 6, []), (0, 6, []), (0, 6, []), (0, 36, []), (4, 7, [167, 168, 169, 170, 171, 0, 0, 0]), (0, 6, []), (0, 6, []), (0, 6, []), (0, 6, []), (0, 36, []), (4, 7, [173, 174, 175, 176, 177, 0, 0, 0]), (0, 6, []), (0, 6, []), (0, 6, []), (0, 6, []), (0, 36, []), (2, 2, [191, 6]), (1, 2, []), (4, 3, [17, 29, 181]), (4, 7, [182, 183, 184, 185, 186, 0, 0, 0]), (0, 6, []), (0, 6, []), (0, 6, []), (0, 6, []), (0, 36, []), (4, 5, [188, 189]), (0, 64, []), (0, 64, []), (4, 1, [17, 191, 0]), (0, 16, []), (4, 7, [193, 194, 195, 196, 197, 0, 0, 0]), (0, 6, []), (0, 6, []), (0, 6, []), (0, 6, []), (0, 36, []), (4, 7, [199, 200, 201, 202, 203, 0, 0, 0]), (0, 6, []), (0, 6, []), (0, 6, []), (0, 6, []), (0, 36, []), (4, 9, [205, 206, 207, 208, 0, 209, 0, 0, 0, 0, 0, 0, 0, 210, 211, 212, 213, 0, 214, 215, 216, 217, 218, 219, 0]), (0, 8, []), (0, 8, []), (0, 320, []), (0, 40, []), (0, 160, []), (0, 63, []), (0, 63, []), (0, 63, []), (0, 1512, []), (0, 126, []), (1, 2, []), (0, 6, []), (0, 6, []), (0, 64, []), (0, 16, [])]
def lay (id : Nat) : Nat × Nat × List Nat := layT.getD id (9, 0, [])
theorem lay_0 : lay 0 = (4, 8, [2, 15, 17, 23, 29, 32, 178, 179, 180, 187, 190, 0]) := rfl
theorem lay_1 : lay 1 = (4, 4, [3, 12, 13, 14]) := rfl
theorem lay_2 : lay 2 = (3, 8, [3, 1]) := rfl
theorem lay_3 : lay 3 = (0, 40, []) := rfl
theorem lay_4 : lay 4 = (0, 40, []) := rfl
theorem lay_5 : lay 5 = (0, 40, []) := rfl
theorem lay_6 : lay 6 = (0, 40, []) := rfl
theorem lay_7 : lay 7 = (0, 40, []) := rfl
theorem lay_8 : lay 8 = (0, 40, []) := rfl
theorem lay_9 : lay 9 = (0, 40, []) := rfl
theorem lay_10 : lay 10 = (0, 40, []) := rfl
theorem lay_11 : lay 11 = (0, 8, []) := rfl
theorem lay_12 : lay 12 = (0, 8, []) := rfl
theorem lay_13 : lay 13 = (1, 8, []) := rfl
theorem lay_14 : lay 14 = (4, 6, [16, 0, 0, 0, 0]) := rfl
theorem lay_15 : lay 15 = (0, 160, []) := rfl
theorem lay_16 : lay 16 = (4, 7, [18, 19, 20, 21, 22, 0, 0, 0]) := rfl
theorem lay_17 : lay 17 = (0, 6, []) := rfl
theorem lay_18 : lay 18 = (0, 6, []) := rfl
theorem lay_19 : lay 19 = (0, 6, []) := rfl
theorem lay_20 : lay 20 = (0, 6, []) := rfl
theorem lay_21 : lay 21 = (0, 36, []) := rfl
theorem lay_22 : lay 22 = (4, 7, [24, 25, 26, 27, 28, 0, 0, 0]) := rfl
theorem lay_23 : lay 23 = (0, 6, []) := rfl
theorem lay_24 : lay 24 = (0, 6, []) := rfl
theorem lay_25 : lay 25 = (0, 6, []) := rfl
theorem lay_26 : lay 26 = (0, 6, []) := rfl
theorem lay_27 : lay 27 = (0, 36, []) := rfl
theorem lay_28 : lay 28 = (4, 2, [30, 31]) := rfl
theorem lay_29 : lay 29 = (0, 6, []) := rfl
theorem lay_30 : lay 30 = (0, 6, []) := rfl
theorem lay_31 : lay 31 = (4, 0, [33, 0, 0]) := rfl
theorem lay_32 : lay 32 = (2, 24, [33, 6]) := rfl
theorem lay_33 : lay 33 = (4, 7, [35, 36, 37, 38, 39, 0, 0, 0]) := rfl
theorem lay_34 : lay 34 = (0, 6, []) := rfl
theorem lay_35 : lay 35 = (0, 6, []) := rfl
theorem lay_36 : lay 36 = (0, 6, []) := rfl
theorem lay_37 : lay 37 = (0, 6, []) := rfl
theorem lay_38 : lay 38 = (0, 36, []) := rfl
theorem lay_39 : lay 39 = (4, 7, [41, 42, 43, 44, 45, 0, 0, 0]) := rfl
theorem lay_40 : lay 40 = (0, 6, []) := rfl
theorem lay_41 : lay 41 = (0, 6, []) := rfl
theorem lay_42 : lay 42 = (0, 6, []) := rfl
theorem lay_43 : lay 43 = (0, 6, []) := rfl
theorem lay_44 : lay 44 = (0, 36, []) := rfl
theorem lay_45 : lay 45 = (4, 7, [47, 48, 49, 50, 51, 0, 0, 0]) := rfl
theorem lay_46 : lay 46 = (0, 6, []) := rfl
theorem lay_47 : lay 47 = (0, 6, []) := rfl
theorem lay_48 : lay 48 = (0, 6, []) := rfl
theorem lay_49 : lay 49 = (0, 6, []) := rfl
theorem lay_50 : lay 50 = (0, 36, []) := rfl
theorem lay_51 : lay 51 = (4, 7, [53, 54, 55, 56, 57, 0, 0, 0]) := rfl
theorem lay_52 : lay 52 = (0, 6, []) := rfl
theorem lay_53 : lay 53 = (0, 6, []) := rfl
theorem lay_54 : lay 54 = (0, 6, []) := rfl
theorem lay_55 : lay 55 = (0, 6, []) := rfl
theorem lay_56 : lay 56 = (0, 36, []) := rfl
theorem lay_57 : lay 57 = (4, 7, [59, 60, 61, 62, 63, 0, 0, 0]) := rfl
theorem lay_58 : lay 58 = (0, 6, []) := rfl
theorem lay_59 : lay 59 = (0, 6, []) := rfl
theorem lay_60 : lay 60 = (0, 6, []) := rfl
theorem lay_61 : lay 61 = (0, 6, []) := rfl
theorem lay_62 : lay 62 = (0, 36, []) := rfl
theorem lay_63 : lay 63 = (4, 7, [65, 66, 67, 68, 69, 0, 0, 0]) := rfl
theorem lay_64 : lay 64 = (0, 6, []) := rfl
theorem lay_65 : lay 65 = (0, 6, []) := rfl
theorem lay_66 : lay 66 = (0, 6, []) := rfl
theorem lay_67 : lay 67 = (0, 6, []) := rfl
theorem lay_68 : lay 68 = (0, 36, []) := rfl
theorem lay_69 : lay 69 = (4, 7, [71, 72, 73, 74, 75, 0, 0, 0]) := rfl
theorem lay_70 : lay 70 = (0, 6, []) := rfl
theorem lay_71 : lay 71 = (0, 6, []) := rfl
theorem lay_72 : lay 72 = (0, 6, []) := rfl
theorem lay_73 : lay 73 = (0, 6, []) := rfl
theorem lay_74 : lay 74 = (0, 36, []) := rfl
theorem lay_75 : lay 75 = (4, 7, [77, 78, 79, 80, 81, 0, 0, 0]) := rfl
theorem lay_76 : lay 76 = (0, 6, []) := rfl
theorem lay_77 : lay 77 = (0, 6, []) := rfl
theorem lay_78 : lay 78 = (0, 6, []) := rfl
theorem lay_79 : lay 79 = (0, 6, []) := rfl
theorem lay_80 : lay 80 = (0, 36, []) := rfl
theorem lay_81 : lay 81 = (4, 7, [83, 84, 85, 86, 87, 0, 0, 0]) := rfl
theorem lay_82 : lay 82 = (0, 6, []) := rfl
theorem lay_83 : lay 83 = (0, 6, []) := rfl
theorem lay_84 : lay 84 = (0, 6, []) := rfl
theorem lay_85 : lay 85 = (0, 6, []) := rfl
theorem lay_86 : lay 86 = (0, 36, []) := rfl
theorem lay_87 : lay 87 = (4, 7, [89, 90, 91, 92, 93, 0, 0, 0]) := rfl
theorem lay_88 : lay 88 = (0, 6, []) := rfl
theorem lay_89 : lay 89 = (0, 6, []) := rfl
theorem lay_90 : lay 90 = (0, 6, []) := rfl
theorem lay_91 : lay 91 = (0, 6, []) := rfl
theorem lay_92 : lay 92 = (0, 36, []) := rfl
theorem lay_93 : lay 93 = (4, 7, [95, 96, 97, 98, 99, 0, 0, 0]) := rfl
theorem lay_94 : lay 94 = (0, 6, []) := rfl
theorem lay_95 : lay 95 = (0, 6, []) := rfl
theorem lay_96 : lay 96 = (0, 6, []) := rfl
theorem lay_97 : lay 97 = (0, 6, []) := rfl
theorem lay_98 : lay 98 = (0, 36, []) := rfl
theorem lay_99 : lay 99 = (4, 7, [101, 102, 103, 104, 105, 0, 0, 0]) := rfl
theorem lay_100 : lay 100 = (0, 6, []) := rfl
theorem lay_101 : lay 101 = (0, 6, []) := rfl
theorem lay_102 : lay 102 = (0, 6, []) := rfl
theorem lay_103 : lay 103 = (0, 6, []) := rfl
theorem lay_104 : lay 104 = (0, 36, []) := rfl
theorem lay_105 : lay 105 = (4, 7, [107, 108, 109, 110, 111, 0, 0, 0]) := rfl
theorem lay_106 : lay 106 = (0, 6, []) := rfl
theorem lay_107 : lay 107 = (0, 6, []) := rfl
theorem lay_108 : lay 108 = (0, 6, []) := rfl
theorem lay_109 : lay 109 = (0, 6, []) := rfl
theorem lay_110 : lay 110 = (0, 36, []) := rfl
theorem lay_111 : lay 111 = (4, 7, [113, 114, 115, 116, 117, 0, 0, 0]) := rfl
theorem lay_112 : lay 112 = (0, 6, []) := rfl
theorem lay_113 : lay 113 = (0, 6, []) := rfl
theorem lay_114 : lay 114 = (0, 6, []) := rfl
theorem lay_115 : lay 115 = (0, 6, []) := rfl
theorem lay_116 : lay 116 = (0, 36, []) := rfl
theorem lay_117 : lay 117 = (4, 7, [119, 120, 121, 122, 123, 0, 0, 0]) := rfl
theorem lay_118 : lay 118 = (0, 6, []) := rfl
theorem lay_119 : lay 119 = (0, 6, []) := rfl
theorem lay_120 : lay 120 = (0, 6, []) := rfl
theorem lay_121 : lay 121 = (0, 6, []) := rfl
theorem lay_122 : lay 122 = (0, 36, []) := rfl
theorem lay_123 : lay 123 = (4, 7, [125, 126, 127, 128, 129, 0, 0, 0]) := rfl
theorem lay_124 : lay 124 = (0, 6, []) := rfl
theorem lay_125 : lay 125 = (0, 6, []) := rfl
theorem lay_126 : lay 126 = (0, 6, []) := rfl
theorem lay_127 : lay 127 = (0, 6, []) := rfl
theorem lay_128 : lay 128 = (0, 36, []) := rfl
theorem lay_129 : lay 129 = (4, 7, [131, 132, 133, 134, 135, 0, 0, 0]) := rfl
theorem lay_130 : lay 130 = (0, 6, []) := rfl
theorem lay_131 : lay 131 = (0, 6, []) := rfl
theorem lay_132 : lay 132 = (0, 6, []) := rfl
theorem lay_133 : lay 133 = (0, 6, []) := rfl
theorem lay_134 : lay 134 = (0, 36, []) := rfl
theorem lay_135 : lay 135 = (4, 7, [137, 138, 139, 140, 141, 0, 0, 0]) := rfl
theorem lay_136 : lay 136 = (0, 6, []) := rfl
theorem lay_137 : lay 137 = (0, 6, []) := rfl
theorem lay_138 : lay 138 = (0, 6, []) := rfl
theorem lay_139 : lay 139 = (0, 6, []) := rfl
theorem lay_140 : lay 140 = (0, 36, []) := rfl
theorem lay_141 : lay 141 = (4, 7, [143, 144, 145, 146, 147, 0, 0, 0]) := rfl
theorem lay_142 : lay 142 = (0, 6, []) := rfl
theorem lay_143 : lay 143 = (0, 6, []) := rfl
theorem lay_144 : lay 144 = (0, 6, []) := rfl
theorem lay_145 : lay 145 = (0, 6, []) := rfl
theorem lay_146 : lay 146 = (0, 36, []) := rfl
theorem lay_147 : lay 147 = (4, 7, [149, 150, 151, 152, 153, 0, 0, 0]) := rfl
theorem lay_148 : lay 148 = (0, 6, []) := rfl
theorem lay_149 : lay 149 = (0, 6, []) := rfl
theorem lay_150 : lay 150 = (0, 6, []) := rfl
theorem lay_151 : lay 151 = (0, 6, []) := rfl
theorem lay_152 : lay 152 = (0, 36, []) := rfl
theorem lay_153 : lay 153 = (4, 7, [155, 156, 157, 158, 159, 0, 0, 0]) := rfl
theorem lay_154 : lay 154 = (0, 6, []) := rfl
theorem lay_155 : lay 155 = (0, 6, []) := rfl
theorem lay_156 : lay 156 = (0, 6, []) := rfl
theorem lay_157 : lay 157 = (0, 6, []) := rfl
theorem lay_158 : lay 158 = (0, 36, []) := rfl
theorem lay_159 : lay 159 = (4, 7, [161, 162, 163, 164, 165, 0, 0, 0]) := rfl
theorem lay_160 : lay 160 = (0, 6, []) := rfl
theorem lay_161 : lay 161 = (0, 6, []) := rfl
theorem lay_162 : lay 162 = (0, 6, []) := rfl
theorem lay_163 : lay 163 = (0, 6, []) := rfl
theorem lay_164 : lay 164 = (0, 36, []) := rfl
theorem lay_165 : lay 165 = (4, 7, [167, 168, 169, 170, 171, 0, 0, 0]) := rfl
theorem lay_166 : lay 166 = (0, 6, []) := rfl
theorem lay_167 : lay 167 = (0, 6, []) := rfl
theorem lay_168 : lay 168 = (0, 6, []) := rfl
theorem lay_169 : lay 169 = (0, 6, []) := rfl
theorem lay_170 : lay 170 = (0, 36, []) := rfl
theorem lay_171 : lay 171 = (4, 7, [173, 174, 175, 176, 177, 0, 0, 0]) := rfl
theorem lay_172 : lay 172 = (0, 6, []) := rfl
theorem lay_173 : lay 173 = (0, 6, []) := rfl
theorem lay_174 : lay 174 = (0, 6, []) := rfl
theorem lay_175 : lay 175 = (0, 6, []) := rfl
theorem lay_176 : lay 176 = (0, 36, []) := rfl
theorem lay_177 : lay 177 = (2, 2, [191, 6]) := rfl
theorem lay_178 : lay 178 = (1, 2, []) := rfl
theorem lay_179 : lay 179 = (4, 3, [17, 29, 181]) := rfl
theorem lay_180 : lay 180 = (4, 7, [182, 183, 184, 185, 186, 0, 0, 0]) := rfl
theorem lay_181 : lay 181 = (0, 6, []) := rfl
theorem lay_182 : lay 182 = (0, 6, []) := rfl
theorem lay_183 : lay 183 = (0, 6, []) := rfl
theorem lay_184 : lay 184 = (0, 6, []) := rfl
theorem lay_185 : lay 185 = (0, 36, []) := rfl
theorem lay_186 : lay 186 = (4, 5, [188, 189]) := rfl
theorem lay_187 : lay 187 = (0, 64, []) := rfl
theorem lay_188 : lay 188 = (0, 64, []) := rfl
theorem lay_189 : lay 189 = (4, 1, [17, 191, 0]) := rfl
theorem lay_190 : lay 190 = (0, 16, []) := rfl
theorem lay_191 : lay 191 = (4, 7, [193, 194, 195, 196, 197, 0, 0, 0]) := rfl
theorem lay_192 : lay 192 = (0, 6, []) := rfl
theorem lay_193 : lay 193 = (0, 6, []) := rfl
theorem lay_194 : lay 194 = (0, 6, []) := rfl
theorem lay_195 : lay 195 = (0, 6, []) := rfl
theorem lay_196 : lay 196 = (0, 36, []) := rfl
theorem lay_197 : lay 197 = (4, 7, [199, 200, 201, 202, 203, 0, 0, 0]) := rfl
theorem lay_198 : lay 198 = (0, 6, []) := rfl
theorem lay_199 : lay 199 = (0, 6, []) := rfl
theorem lay_200 : lay 200 = (0, 6, []) := rfl
theorem lay_201 : lay 201 = (0, 6, []) := rfl
theorem lay_202 : lay 202 = (0, 36, []) := rfl
theorem lay_203 : lay 203 = (4, 9, [205, 206, 207, 208, 0, 209, 0, 0, 0, 0, 0, 0, 0, 210, 211, 212, 213, 0, 214, 215, 216, 217, 218, 219, 0]) := rfl
theorem lay_204 : lay 204 = (0, 8, []) := rfl
theorem lay_205 : lay 205 = (0, 8, []) := rfl
theorem lay_206 : lay 206 = (0, 320, []) := rfl
theorem lay_207 : lay 207 = (0, 40, []) := rfl
theorem lay_208 : lay 208 = (0, 160, []) := rfl
theorem lay_209 : lay 209 = (0, 63, []) := rfl
theorem lay_210 : lay 210 = (0, 63, []) := rfl
theorem lay_211 : lay 211 = (0, 63, []) := rfl
theorem lay_212 : lay 212 = (0, 1512, []) := rfl
theorem lay_213 : lay 213 = (0, 126, []) := rfl
theorem lay_214 : lay 214 = (1, 2, []) := rfl
theorem lay_215 : lay 215 = (0, 6, []) := rfl
theorem lay_216 : lay 216 = (0, 6, []) := rfl
theorem lay_217 : lay 217 = (0, 64, []) := rfl
theorem lay_218 : lay 218 = (0, 16, []) := rfl
def up {α : Type} (f : Nat → α) (k : Nat) (v : α) : Nat → α := fun j => if j = k then v else f j
theorem up_s {α : Type} {f : Nat → α} {k : Nat} {v : α} : up f k v k = v := if_pos rfl
theorem up_n {α : Type} {f : Nat → α} {k j : Nat} {v : α} (h : j ≠ k) : up f k v j = f j := if_neg h
def ishl (x y : Int32) : Int32 := x <<< (y &&& 31)
def ishr (x y : Int32) : Int32 := x >>> (y &&& 31)
def iushr (x y : Int32) : Int32 := (x.toUInt32 >>> (y.toUInt32 &&& Int32.toUInt32 31)).toInt32
def irm (x y : Int32) : Int32 := x - x / y * y
def lrm (x y : Int64) : Int64 := x - x / y * y
def imax (x y : Int32) : Int32 := if x < y then y else x
def imin (x y : Int32) : Int32 := if y < x then y else x
def bq {X : Type} (f : Option (Int32 × Hp)) (k : Int32 → Hp → Option X) : Option X := f.bind (fun q => k q.1 q.2)
/-- an int of cell o becomes x -/
def wr (σ : Hp) (o k : Nat) (x : Int32) : Hp := up σ o (up (σ o) k x)
theorem lay_lt {id : Nat} (h : (lay id).1 ≠ 9) : id < 219 := by
  rcases Nat.lt_or_ge id 219 with q | q
  · exact q
  · exfalso
    apply h
    unfold lay
    rw [List.getD_eq_getElem?_getD, List.getElem?_eq_none (show layT.length ≤ id from q)]
    rfl
theorem lay_n9 {t n : Nat} {l : List Nat} (h : t ≠ 9 := by decide) : ((t, n, l) : Nat × Nat × List Nat).1 ≠ 9 := h
def fld (ad : Nat → Nat) (g : Nat → Int32) : Nat → List Nat → List Value
  | _, [] => []
  | k, 0 :: t => .int (g k) :: fld ad g (k + 1) t
  | k, (r + 1) :: t => .ref (ad r) :: fld ad g (k + 1) t
def rfa (ad : Nat → Nat) (n b st : Nat) : Nat → Option Nat := fun i => if i < n then some (ad (b + st * i)) else none
def celk (cA : Nat → ClassId) (ad : Nat → Nat) (g : Nat → Int32) (t n : Nat) (l : List Nat) : va_E :=
  if t = 0 then .inl (cA 0, n, .inl g) else if t = 1 then .inl (cA 1, n, .inl g)
  else if t = 2 then .inl (cA 2, n, .inr (.inr (.inr (.inr (rfa ad n (l.getD 0 0) (l.getD 1 0))))))
  else if t = 3 then .inl (cA 3, n, .inr (.inr (.inr (.inr (rfa ad n (l.getD 0 0) (l.getD 1 0))))))
  else .inr (n, fld ad g 0 l)
def cel (cA : Nat → ClassId) (ad : Nat → Nat) (σ : Hp) (id : Nat) : va_E := celk cA ad (σ id) (lay id).1 (lay id).2.1 (lay id).2.2
def wl (cA : Nat → ClassId) (ad : Nat → Nat) (σ : Hp) : va_W := (List.range 219).map (fun id => (ad id, cel cA ad σ id))
def tysOf (cA : Nat → ClassId) : List (ClassId × FieldType) := [(cA 0, .int), (cA 1, .boolean), (cA 2, .object "BellDebts$Valley"), (cA 3, .array .int)]
theorem cel_of {cA : Nat → ClassId} {ad : Nat → Nat} {σ : Hp} {id t n : Nat} {l : List Nat} (h : lay id = (t, n, l)) : cel cA ad σ id = celk cA ad (σ id) t n l := by
  unfold cel; rw [h]
theorem wl_at {cA : Nat → ClassId} {ad : Nat → Nat} {σ : Hp} {id : Nat} (h : id < 219) : (wl cA ad σ)[id]? = some (ad id, cel cA ad σ id) := by
  unfold wl
  rw [List.getElem?_map, List.getElem?_range h]
  rfl
theorem wl_of {cA : Nat → ClassId} {ad : Nat → Nat} {σ : Hp} {id t n : Nat} {l : List Nat} (h : lay id = (t, n, l)) (h9 : t ≠ 9) : (wl cA ad σ)[id]? = some (ad id, celk cA ad (σ id) t n l) := by
  rw [wl_at (lay_lt (by rw [h]; exact h9)), cel_of h]
theorem wl_set {cA : Nat → ClassId} {ad : Nat → Nat} {σ σ' : Hp} {id : Nat} {e : va_E} (hid : id < 219) (h1 : cel cA ad σ' id = e) (h2 : ∀ j, j ≠ id → σ' j = σ j) : (wl cA ad σ).set id (ad id, e) = wl cA ad σ' := by
  apply List.ext_getElem?
  intro i
  rcases Nat.lt_or_ge i 219 with hi | hi
  · by_cases e2 : i = id
    · subst e2
      rw [List.getElem?_set_self (by unfold wl; simpa using hi), wl_at hi, h1]
    · rw [List.getElem?_set_ne (Ne.symm e2), wl_at hi, wl_at hi]
      unfold cel
      rw [h2 i e2]
  · rw [List.getElem?_eq_none, List.getElem?_eq_none]
    · unfold wl; simpa using hi
    · rw [List.length_set]; unfold wl; simpa using hi
theorem fld_int {ad : Nat → Nat} {g : Nat → Int32} : ∀ (l : List Nat) (j k : Nat), l[k]? = some 0 → (fld ad g j l)[k]? = some (.int (g (j + k)))
  | [], j, k, h => by simp at h
  | 0 :: t, j, 0, h => rfl
  | (r + 1) :: t, j, 0, h => by simp at h
  | 0 :: t, j, k + 1, h => by
    have := fld_int (ad := ad) (g := g) t (j + 1) k (by simpa using h)
    rw [show j + 1 + k = j + (k + 1) by omega] at this
    simpa [fld] using this
  | (r + 1) :: t, j, k + 1, h => by
    have := fld_int (ad := ad) (g := g) t (j + 1) k (by simpa using h)
    rw [show j + 1 + k = j + (k + 1) by omega] at this
    simpa [fld] using this
theorem fld_ref {ad : Nat → Nat} {g : Nat → Int32} {r : Nat} : ∀ (l : List Nat) (j k : Nat), l[k]? = some (r + 1) → (fld ad g j l)[k]? = some (.ref (ad r))
  | [], j, k, h => by simp at h
  | 0 :: t, j, 0, h => by simp at h
  | (q + 1) :: t, j, 0, h => by
    have e : q = r := by simpa using h
    subst e
    rfl
  | 0 :: t, j, k + 1, h => by simpa [fld] using fld_ref (ad := ad) (g := g) t (j + 1) k (by simpa using h)
  | (q + 1) :: t, j, k + 1, h => by simpa [fld] using fld_ref (ad := ad) (g := g) t (j + 1) k (by simpa using h)
theorem fld_len {ad : Nat → Nat} {g : Nat → Int32} : ∀ (l : List Nat) (j : Nat), (fld ad g j l).length = l.length
  | [], _ => rfl
  | 0 :: t, j => by simp [fld, fld_len t]
  | (r + 1) :: t, j => by simp [fld, fld_len t]
theorem fld_set {ad : Nat → Nat} {g : Nat → Int32} {x : Int32} : ∀ (l : List Nat) (j k : Nat), l[k]? = some 0 → (fld ad g j l).set k (.int x) = fld ad (up g (j + k) x) j l := by
  intro l
  induction l with
  | nil => intro j k h; simp at h
  | cons a t ih =>
    intro j k h
    have keep : ∀ (t : List Nat) (j0 j1 : Nat), j0 < j1 → fld ad g j1 t = fld ad (up g j0 x) j1 t := by
      intro t
      induction t with
      | nil => intro _ _ _; rfl
      | cons b u ihu =>
        intro j0 j1 hj
        cases b with
        | zero => simp only [fld]; rw [up_n (by omega), ihu j0 (j1 + 1) (by omega)]
        | succ r => simp only [fld]; rw [ihu j0 (j1 + 1) (by omega)]
    cases k with
    | zero =>
      have e : a = 0 := by simpa using h
      subst e
      simp only [fld, List.set_cons_zero]
      rw [show j + 0 = j from rfl, up_s, ← keep t j (j + 1) (by omega)]
    | succ k =>
      have h2 : t[k]? = some 0 := by simpa using h
      have := ih (j + 1) k h2
      rw [show j + 1 + k = j + (k + 1) by omega] at this
      cases a with
      | zero => simp only [fld, List.set_cons_succ]; rw [this, up_n (by omega)]
      | succ r => simp only [fld, List.set_cons_succ]; rw [this]
/-- a field of a class, as the method at own links it: class number, slot -/
def FL (own : String) (idx ci k : Nat) : Prop := ∃ (C : String) (T : u_T) (N : Nat), vwCl[ci]? = some (C, T, N) ∧ k < N ∧ Cond.fieldLink own idx (T k).1 (T k).2.1 (T k).2.2.1 ∈ GW ∧ ∀ w ∈ u_ws C T N, w ∈ GW
def FP (ci k : Nat) : Prop := ∃ (C : String) (T : u_T) (N : Nat) (ty : Nat → FieldType), vwCl[ci]? = some (C, T, N) ∧ (∀ j, j < N → parseFieldDescriptor (T j).2.2.1 = some (ty j)) ∧ (∀ a, a < N → ∀ b, b < N → a ≠ b → (T a).2.1 ≠ (T b).2.1) ∧ (T k).2.2.2 = false ∧ parseFieldDescriptor (T k).2.2.1 = some .int
/-- a method, as the method at own links it; nA: how many arguments, the receiver apart -/
def MLV (own : String) (idx : Nat) (y : MethodName) (cc : ByteArray) (nL : Nat) (ret : Option FieldType) (nA : Nat) : Prop := Cond.methodLink own idx y ∈ GW ∧ Cond.instanceMethod y ∈ GW ∧ Cond.selects y.cls y y ∈ GW ∧ Cond.initialized y.cls ∈ GW ∧ Cond.code y cc nL ret ∈ GW ∧ (y.cls ≠ "java/lang/invoke/MethodHandle" ∧ y.cls ≠ "java/lang/invoke/VarHandle") ∧ (parseMethodDescriptor y.desc).map (fun d => d.parameters.length) = some nA
def MLS (own : String) (idx : Nat) (y : MethodName) (cc : ByteArray) (nL : Nat) (ret : Option FieldType) (nA : Nat) : Prop := Cond.methodLink own idx y ∈ GW ∧ Cond.static y ∈ GW ∧ Cond.initialized y.cls ∈ GW ∧ Cond.code y cc nL ret ∈ GW ∧ (y.cls ≠ "java/lang/invoke/MethodHandle" ∧ y.cls ≠ "java/lang/invoke/VarHandle") ∧ (parseMethodDescriptor y.desc).map (fun d => d.parameters.length) = some nA
/-- a method's end: what it returns, and the world behind it -/
def QC (D : va_G) (cA : Nat → ClassId) (ad : Nat → Nat) (A : Nat → Prop) (q : Option Value × Hp) : Array Value → State → Outcome → State → Prop := fun _ st o t => o = .returned q.1 ∧ va_P D vwCl (wl cA ad q.2) t.heap ∧ va_F A st t
/-- the links to private methods of a nest mate -/
def NWs (U : State) : Prop := va_Nw (.methodLinkNest RX2 59 yX8_isOfKind RX8) U ∧ va_Nw (.methodLinkNest RX2 63 yX8_price RX8) U ∧ va_Nw (.methodLinkNest RX3 88 yX8_power RX8) U ∧ va_Nw (.methodLinkNest RX1 24 yX8_isOfKind RX8) U
theorem NWs.warm {s U : State} (hW : s.WarmedH U.vm) (h : NWs s) : NWs U := ⟨va_Nw.warmM hW h.1, va_Nw.warmM hW h.2.1, va_Nw.warmM hW h.2.2.1, va_Nw.warmM hW h.2.2.2⟩
theorem NWs.same {u U : State} (e : u.vm = U.vm) (h : NWs u) : NWs U := ⟨va_Nw.same rfl e h.1, va_Nw.same rfl e h.2.1, va_Nw.same rfl e h.2.2.1, va_Nw.same rfl e h.2.2.2⟩
/-- the contract of a method over the world -/
def CM (l : Launch) (D : va_G) (cA : Nat → ClassId) (ad : Nat → Nat) (A : Nat → Prop) (y : MethodName) (cc : ByteArray) (nL : Nat) (ret : Option FieldType) (fr lo : Nat) (as : List Value) (σ : Hp) (q : Option Value × Hp) : Prop :=
  Met l y (.code y cc nL ret :: GW) ({ frames := fr, cells := 0, slots := 0, locals := lo }) (va_Pc as (fun U => va_P D vwCl (wl cA ad σ) U.heap ∧ va_K D vwCl (tysOf cA) U ∧ NWs U)) (QC D cA ad A q) 0 0 A
def Cx (p : Program) (R : Room) (s : State) (m : MethodId) (args : Array Value) (meth : Method) (c : Code) (D : va_G) (cA : Nat → ClassId) (ad : Nat → Nat) (A : Nat → Prop) (k n : Nat) (cc : ByteArray) (nL : Nat) (own : String) (ret : Option FieldType) : Prop :=
  p.tables.exec = Jvm.exec ∧ c.code = cc ∧ c.maxLocals = nL ∧ s.vm.findClass own = some m.cls ∧ (∀ w ∈ GW, w.before args s = true) ∧ va_K D vwCl (tysOf cA) s ∧ (∀ σ, va_D A (wl cA ad σ)) ∧ (k ≤ R.cells ∧ n ≤ R.slots) ∧ meth.sig.returnType = ret ∧ meth.locks = false ∧ NWs s
/-- at pc, with these locals and this stack, in the world σ: what x gives is what comes -/
def V (p : Program) (l : Launch) (e : Env) (R : Room) (s : State) (m : MethodId) (args : Array Value) (below : List Frame) (meth : Method) (c : Code) (D : va_G) (cA : Nat → ClassId) (ad : Nat → Nat) (A : Nat → Prop) (nL k n : Nat) {X : Type} (Qf : X → State → Prop) (x : Option X) (σ : Hp) (pc : Nat) (lv : List (Nat × Value)) (st : List Value) : Prop :=
  ∀ a : X, x = some a → ∀ (H : Heap) (locs : List Loc) (ls : Array Slot), va_P D vwCl (wl cA ad σ) H → va_S A s.heap H locs → lv_has ls nL lv → W p l e R s m args below meth c H locs k n (Qf a) (F0 m pc ls st)
section VV
variable {p : Program} {l : Launch} {e : Env} {R : Room} {s : State} {m : MethodId} {args : Array Value} {below : List Frame} {meth : Method} {c : Code} {D : va_G} {cA : Nat → ClassId} {ad : Nat → Nat} {A : Nat → Prop} {nL k n : Nat} {X : Type} {Qf : X → State → Prop} {x x2 : Option X} {σ : Hp} {pc : Nat} {lv : List (Nat × Value)} {st : List Value} {cc : ByteArray} {own : String} {ret : Option FieldType}
theorem V.sub (ks : List Nat) {lv' : List (Nat × Value)} (h : lv_pick lv ks = lv') (kk : V p l e R s m args below meth c D cA ad A nL k n Qf x σ pc lv' st) : V p l e R s m args below meth c D cA ad A nL k n Qf x σ pc lv st :=
  fun a ha H locs ls hP hS hl => kk a ha H locs ls hP hS (lv_sub hl ks h)
theorem V.eq (h : x = x2) (kk : V p l e R s m args below meth c D cA ad A nL k n Qf x2 σ pc lv st) : V p l e R s m args below meth c D cA ad A nL k n Qf x σ pc lv st := h ▸ kk
theorem V.none {σ : Hp} {pc : Nat} {lv : List (Nat × Value)} {st : List Value} : V p l e R s m args below meth c D cA ad A nL k n Qf Option.none σ pc lv st := fun a ha => by cases ha
theorem V.guard {g : Prop} {hg : Decidable g} (kk : g → V p l e R s m args below meth c D cA ad A nL k n Qf x σ pc lv st) : V p l e R s m args below meth c D cA ad A nL k n Qf (if g then x else Option.none) σ pc lv st := by
  by_cases q : g
  · rw [if_pos q]; exact kk q
  · rw [if_neg q]; exact V.none
theorem V.aload_n (E : Cx p R s m args meth c D cA ad A k n cc nL own ret) {q : Fin 4} {i b : Nat} (hd : decode cc pc = .ok (.aload_n q, 1)) (hi : (q : Nat) = i) (j : Nat) (hj : lv[j]? = some (i, .ref b)) (kk : V p l e R s m args below meth c D cA ad A nL k n Qf x σ (pc + 1) lv (.ref b :: st)) : V p l e R s m args below meth c D cA ad A nL k n Qf x σ pc lv st := by
  intro a ha H locs ls hP hS hl
  obtain ⟨hx, hb, hml, hown, hts, hK, hD, hkn, hr, hlk, hN⟩ := E
  exact lv_aload_n hx hb hd hi (lv_at hl j hj) (kk a ha H locs ls hP hS hl)
theorem V.aload (E : Cx p R s m args meth c D cA ad A k n cc nL own ret) {i b : Nat} (hd : decode cc pc = .ok (.aload i, 2)) (j : Nat) (hj : lv[j]? = some (i, .ref b)) (kk : V p l e R s m args below meth c D cA ad A nL k n Qf x σ (pc + 2) lv (.ref b :: st)) : V p l e R s m args below meth c D cA ad A nL k n Qf x σ pc lv st := by
  intro a ha H locs ls hP hS hl
  obtain ⟨hx, hb, hml, hown, hts, hK, hD, hkn, hr, hlk, hN⟩ := E
  exact lv_aload hx hb hd (lv_at hl j hj) (kk a ha H locs ls hP hS hl)
theorem V.iload_n (E : Cx p R s m args meth c D cA ad A k n cc nL own ret) {q : Fin 4} {i : Nat} {b : Int32} (hd : decode cc pc = .ok (.iload_n q, 1)) (hi : (q : Nat) = i) (j : Nat) (hj : lv[j]? = some (i, .int b)) (kk : V p l e R s m args below meth c D cA ad A nL k n Qf x σ (pc + 1) lv (.int b :: st)) : V p l e R s m args below meth c D cA ad A nL k n Qf x σ pc lv st := by
  intro a ha H locs ls hP hS hl
  obtain ⟨hx, hb, hml, hown, hts, hK, hD, hkn, hr, hlk, hN⟩ := E
  exact lv_iload_n hx hb hd hi (lv_at hl j hj) (kk a ha H locs ls hP hS hl)
theorem V.iload (E : Cx p R s m args meth c D cA ad A k n cc nL own ret) {i : Nat} {b : Int32} (hd : decode cc pc = .ok (.iload i, 2)) (j : Nat) (hj : lv[j]? = some (i, .int b)) (kk : V p l e R s m args below meth c D cA ad A nL k n Qf x σ (pc + 2) lv (.int b :: st)) : V p l e R s m args below meth c D cA ad A nL k n Qf x σ pc lv st := by
  intro a ha H locs ls hP hS hl
  obtain ⟨hx, hb, hml, hown, hts, hK, hD, hkn, hr, hlk, hN⟩ := E
  exact lv_iload hx hb hd (lv_at hl j hj) (kk a ha H locs ls hP hS hl)
theorem V.lload_n (E : Cx p R s m args meth c D cA ad A k n cc nL own ret) {q : Fin 4} {i : Nat} {b : Int64} (hd : decode cc pc = .ok (.lload_n q, 1)) (hi : (q : Nat) = i) (j : Nat) (hj : lv[j]? = some (i, .long b)) (kk : V p l e R s m args below meth c D cA ad A nL k n Qf x σ (pc + 1) lv (.long b :: st)) : V p l e R s m args below meth c D cA ad A nL k n Qf x σ pc lv st := by
  intro a ha H locs ls hP hS hl
  obtain ⟨hx, hb, hml, hown, hts, hK, hD, hkn, hr, hlk, hN⟩ := E
  exact lv_lload_n hx hb hd hi (lv_at hl j hj) (kk a ha H locs ls hP hS hl)
theorem V.lload (E : Cx p R s m args meth c D cA ad A k n cc nL own ret) {i : Nat} {b : Int64} (hd : decode cc pc = .ok (.lload i, 2)) (j : Nat) (hj : lv[j]? = some (i, .long b)) (kk : V p l e R s m args below meth c D cA ad A nL k n Qf x σ (pc + 2) lv (.long b :: st)) : V p l e R s m args below meth c D cA ad A nL k n Qf x σ pc lv st := by
  intro a ha H locs ls hP hS hl
  obtain ⟨hx, hb, hml, hown, hts, hK, hD, hkn, hr, hlk, hN⟩ := E
  exact lv_lload hx hb hd (lv_at hl j hj) (kk a ha H locs ls hP hS hl)
theorem V.istore_n (E : Cx p R s m args meth c D cA ad A k n cc nL own ret) {q : Fin 4} {i : Nat} {b : Int32} {lv2 : List (Nat × Value)} (hd : decode cc pc = .ok (.istore_n q, 1)) (hi : (q : Nat) = i) (hn : i < nL) (hl2 : (i, Value.int b) :: lv.filter (fun q => !(q.1 == i) && !(q.1 + 1 == i && q.2.category == 2)) = lv2) (kk : V p l e R s m args below meth c D cA ad A nL k n Qf x σ (pc + 1) lv2 st) : V p l e R s m args below meth c D cA ad A nL k n Qf x σ pc lv (.int b :: st) := by
  intro a ha H locs ls hP hS hl
  obtain ⟨hx, hb, hml, hown, hts, hK, hD, hkn, hr, hlk, hN⟩ := E
  exact lv_istore_n hx hb hd hi hl hn hl2 (fun ls hl => kk a ha H locs ls hP hS hl)
theorem V.istore (E : Cx p R s m args meth c D cA ad A k n cc nL own ret) {i : Nat} {b : Int32} {lv2 : List (Nat × Value)} (hd : decode cc pc = .ok (.istore i, 2)) (hn : i < nL) (hl2 : (i, Value.int b) :: lv.filter (fun q => !(q.1 == i) && !(q.1 + 1 == i && q.2.category == 2)) = lv2) (kk : V p l e R s m args below meth c D cA ad A nL k n Qf x σ (pc + 2) lv2 st) : V p l e R s m args below meth c D cA ad A nL k n Qf x σ pc lv (.int b :: st) := by
  intro a ha H locs ls hP hS hl
  obtain ⟨hx, hb, hml, hown, hts, hK, hD, hkn, hr, hlk, hN⟩ := E
  exact lv_istore hx hb hd hl hn hl2 (fun ls hl => kk a ha H locs ls hP hS hl)
theorem V.astore_n (E : Cx p R s m args meth c D cA ad A k n cc nL own ret) {q : Fin 4} {i : Nat} {b : Nat} {lv2 : List (Nat × Value)} (hd : decode cc pc = .ok (.astore_n q, 1)) (hi : (q : Nat) = i) (hn : i < nL) (hl2 : (i, Value.ref b) :: lv.filter (fun q => !(q.1 == i) && !(q.1 + 1 == i && q.2.category == 2)) = lv2) (kk : V p l e R s m args below meth c D cA ad A nL k n Qf x σ (pc + 1) lv2 st) : V p l e R s m args below meth c D cA ad A nL k n Qf x σ pc lv (.ref b :: st) := by
  intro a ha H locs ls hP hS hl
  obtain ⟨hx, hb, hml, hown, hts, hK, hD, hkn, hr, hlk, hN⟩ := E
  exact lv_astore_n hx hb hd hi hl hn hl2 (fun ls hl => kk a ha H locs ls hP hS hl)
theorem V.astore (E : Cx p R s m args meth c D cA ad A k n cc nL own ret) {i : Nat} {b : Nat} {lv2 : List (Nat × Value)} (hd : decode cc pc = .ok (.astore i, 2)) (hn : i < nL) (hl2 : (i, Value.ref b) :: lv.filter (fun q => !(q.1 == i) && !(q.1 + 1 == i && q.2.category == 2)) = lv2) (kk : V p l e R s m args below meth c D cA ad A nL k n Qf x σ (pc + 2) lv2 st) : V p l e R s m args below meth c D cA ad A nL k n Qf x σ pc lv (.ref b :: st) := by
  intro a ha H locs ls hP hS hl
  obtain ⟨hx, hb, hml, hown, hts, hK, hD, hkn, hr, hlk, hN⟩ := E
  exact lv_astore hx hb hd hl hn hl2 (fun ls hl => kk a ha H locs ls hP hS hl)
theorem V.iinc (E : Cx p R s m args meth c D cA ad A k n cc nL own ret) {i : Nat} {d : Int} {b b2 : Int32} {lv2 : List (Nat × Value)} (hd : decode cc pc = .ok (.iinc i d, 3)) (j : Nat) (hj : lv[j]? = some (i, .int b)) (hv : b + Int32.ofInt d = b2) (hn : i < nL) (hl2 : (i, Value.int b2) :: lv.filter (fun q => !(q.1 == i) && !(q.1 + 1 == i && q.2.category == 2)) = lv2) (kk : V p l e R s m args below meth c D cA ad A nL k n Qf x σ (pc + 3) lv2 st) : V p l e R s m args below meth c D cA ad A nL k n Qf x σ pc lv st := by
  intro a ha H locs ls hP hS hl
  obtain ⟨hx, hb, hml, hown, hts, hK, hD, hkn, hr, hlk, hN⟩ := E
  exact lv_iinc hx hb hd hl hj hv hn hl2 (fun ls hl => kk a ha H locs ls hP hS hl)
theorem V.iconst (E : Cx p R s m args meth c D cA ad A k n cc nL own ret) {d : Int} {b : Int32} (hd : decode cc pc = .ok (.iconst d, 1)) (hv : Int32.ofInt d = b) (kk : V p l e R s m args below meth c D cA ad A nL k n Qf x σ (pc + 1) lv (.int b :: st)) : V p l e R s m args below meth c D cA ad A nL k n Qf x σ pc lv st := by
  intro a ha H locs ls hP hS hl
  obtain ⟨hx, hb, hml, hown, hts, hK, hD, hkn, hr, hlk, hN⟩ := E
  exact lv_iconst hx hb hd hv (kk a ha H locs ls hP hS hl)
theorem V.bipush (E : Cx p R s m args meth c D cA ad A k n cc nL own ret) {d : Int} {b : Int32} (hd : decode cc pc = .ok (.bipush d, 2)) (hv : (Int8.ofInt d).toInt32 = b) (kk : V p l e R s m args below meth c D cA ad A nL k n Qf x σ (pc + 2) lv (.int b :: st)) : V p l e R s m args below meth c D cA ad A nL k n Qf x σ pc lv st := by
  intro a ha H locs ls hP hS hl
  obtain ⟨hx, hb, hml, hown, hts, hK, hD, hkn, hr, hlk, hN⟩ := E
  exact lv_bipush hx hb hd hv (kk a ha H locs ls hP hS hl)
theorem V.sipush (E : Cx p R s m args meth c D cA ad A k n cc nL own ret) {d : Int} {b : Int32} (hd : decode cc pc = .ok (.sipush d, 3)) (hv : (Int16.ofInt d).toInt32 = b) (kk : V p l e R s m args below meth c D cA ad A nL k n Qf x σ (pc + 3) lv (.int b :: st)) : V p l e R s m args below meth c D cA ad A nL k n Qf x σ pc lv st := by
  intro a ha H locs ls hP hS hl
  obtain ⟨hx, hb, hml, hown, hts, hK, hD, hkn, hr, hlk, hN⟩ := E
  exact lv_sipush hx hb hd hv (kk a ha H locs ls hP hS hl)
theorem V.ldc (E : Cx p R s m args meth c D cA ad A k n cc nL own ret) {idx : Nat} {b : Int32} (hd : decode cc pc = .ok (.ldc idx, 2)) (hc : Cond.constant own idx b ∈ GW) (kk : V p l e R s m args below meth c D cA ad A nL k n Qf x σ (pc + 2) lv (.int b :: st)) : V p l e R s m args below meth c D cA ad A nL k n Qf x σ pc lv st := by
  intro a ha H locs ls hP hS hl
  obtain ⟨hx, hb, hml, hown, hts, hK, hD, hkn, hr, hlk, hN⟩ := E
  exact lv_ldc hx hb hown (hts _ hc) hd (kk a ha H locs ls hP hS hl)
theorem V.ldcw (E : Cx p R s m args meth c D cA ad A k n cc nL own ret) {idx : Nat} {b : Int32} (hd : decode cc pc = .ok (.ldc_w idx, 3)) (hc : Cond.constant own idx b ∈ GW) (kk : V p l e R s m args below meth c D cA ad A nL k n Qf x σ (pc + 3) lv (.int b :: st)) : V p l e R s m args below meth c D cA ad A nL k n Qf x σ pc lv st := by
  intro a ha H locs ls hP hS hl
  obtain ⟨hx, hb, hml, hown, hts, hK, hD, hkn, hr, hlk, hN⟩ := E
  exact lv_ldcw hx hb hown (hts _ hc) hd (kk a ha H locs ls hP hS hl)
theorem V.ldc2 (E : Cx p R s m args meth c D cA ad A k n cc nL own ret) {idx : Nat} {b : Int64} (hd : decode cc pc = .ok (.ldc2_w idx, 3)) (hc : Cond.constantLong own idx b ∈ GW) (kk : V p l e R s m args below meth c D cA ad A nL k n Qf x σ (pc + 3) lv (.long b :: st)) : V p l e R s m args below meth c D cA ad A nL k n Qf x σ pc lv st := by
  intro a ha H locs ls hP hS hl
  obtain ⟨hx, hb, hml, hown, hts, hK, hD, hkn, hr, hlk, hN⟩ := E
  exact lv_ldc2 hx hb hown (hts _ hc) hd (kk a ha H locs ls hP hS hl)
theorem V.iadd (E : Cx p R s m args meth c D cA ad A k n cc nL own ret) {a1 a2 : Int32} (hd : decode cc pc = .ok (.iadd, 1)) (kk : V p l e R s m args below meth c D cA ad A nL k n Qf x σ (pc + 1) lv (.int (a1 + a2) :: st)) : V p l e R s m args below meth c D cA ad A nL k n Qf x σ pc lv (.int a2 :: .int a1 :: st) := by
  intro a ha H locs ls hP hS hl
  obtain ⟨hx, hb, hml, hown, hts, hK, hD, hkn, hr, hlk, hN⟩ := E
  exact lv_iadd hx hb hd (kk a ha H locs ls hP hS hl)
theorem V.isub (E : Cx p R s m args meth c D cA ad A k n cc nL own ret) {a1 a2 : Int32} (hd : decode cc pc = .ok (.isub, 1)) (kk : V p l e R s m args below meth c D cA ad A nL k n Qf x σ (pc + 1) lv (.int (a1 - a2) :: st)) : V p l e R s m args below meth c D cA ad A nL k n Qf x σ pc lv (.int a2 :: .int a1 :: st) := by
  intro a ha H locs ls hP hS hl
  obtain ⟨hx, hb, hml, hown, hts, hK, hD, hkn, hr, hlk, hN⟩ := E
  exact lv_isub hx hb hd (kk a ha H locs ls hP hS hl)
theorem V.imul (E : Cx p R s m args meth c D cA ad A k n cc nL own ret) {a1 a2 : Int32} (hd : decode cc pc = .ok (.imul, 1)) (kk : V p l e R s m args below meth c D cA ad A nL k n Qf x σ (pc + 1) lv (.int (a1 * a2) :: st)) : V p l e R s m args below meth c D cA ad A nL k n Qf x σ pc lv (.int a2 :: .int a1 :: st) := by
  intro a ha H locs ls hP hS hl
  obtain ⟨hx, hb, hml, hown, hts, hK, hD, hkn, hr, hlk, hN⟩ := E
  exact lv_imul hx hb hd (kk a ha H locs ls hP hS hl)
theorem V.iand (E : Cx p R s m args meth c D cA ad A k n cc nL own ret) {a1 a2 : Int32} (hd : decode cc pc = .ok (.iand, 1)) (kk : V p l e R s m args below meth c D cA ad A nL k n Qf x σ (pc + 1) lv (.int (a1 &&& a2) :: st)) : V p l e R s m args below meth c D cA ad A nL k n Qf x σ pc lv (.int a2 :: .int a1 :: st) := by
  intro a ha H locs ls hP hS hl
  obtain ⟨hx, hb, hml, hown, hts, hK, hD, hkn, hr, hlk, hN⟩ := E
  exact lv_iand hx hb hd (kk a ha H locs ls hP hS hl)
theorem V.ior (E : Cx p R s m args meth c D cA ad A k n cc nL own ret) {a1 a2 : Int32} (hd : decode cc pc = .ok (.ior, 1)) (kk : V p l e R s m args below meth c D cA ad A nL k n Qf x σ (pc + 1) lv (.int (a1 ||| a2) :: st)) : V p l e R s m args below meth c D cA ad A nL k n Qf x σ pc lv (.int a2 :: .int a1 :: st) := by
  intro a ha H locs ls hP hS hl
  obtain ⟨hx, hb, hml, hown, hts, hK, hD, hkn, hr, hlk, hN⟩ := E
  exact lv_ior hx hb hd (kk a ha H locs ls hP hS hl)
theorem V.ixor (E : Cx p R s m args meth c D cA ad A k n cc nL own ret) {a1 a2 : Int32} (hd : decode cc pc = .ok (.ixor, 1)) (kk : V p l e R s m args below meth c D cA ad A nL k n Qf x σ (pc + 1) lv (.int (a1 ^^^ a2) :: st)) : V p l e R s m args below meth c D cA ad A nL k n Qf x σ pc lv (.int a2 :: .int a1 :: st) := by
  intro a ha H locs ls hP hS hl
  obtain ⟨hx, hb, hml, hown, hts, hK, hD, hkn, hr, hlk, hN⟩ := E
  exact lv_ixor hx hb hd (kk a ha H locs ls hP hS hl)
theorem V.ishl (E : Cx p R s m args meth c D cA ad A k n cc nL own ret) {a1 a2 : Int32} (hd : decode cc pc = .ok (.ishl, 1)) (kk : V p l e R s m args below meth c D cA ad A nL k n Qf x σ (pc + 1) lv (.int (ishl a1 a2) :: st)) : V p l e R s m args below meth c D cA ad A nL k n Qf x σ pc lv (.int a2 :: .int a1 :: st) := by
  intro a ha H locs ls hP hS hl
  obtain ⟨hx, hb, hml, hown, hts, hK, hD, hkn, hr, hlk, hN⟩ := E
  exact lv_ishl hx hb hd (kk a ha H locs ls hP hS hl)
theorem V.ishr (E : Cx p R s m args meth c D cA ad A k n cc nL own ret) {a1 a2 : Int32} (hd : decode cc pc = .ok (.ishr, 1)) (kk : V p l e R s m args below meth c D cA ad A nL k n Qf x σ (pc + 1) lv (.int (ishr a1 a2) :: st)) : V p l e R s m args below meth c D cA ad A nL k n Qf x σ pc lv (.int a2 :: .int a1 :: st) := by
  intro a ha H locs ls hP hS hl
  obtain ⟨hx, hb, hml, hown, hts, hK, hD, hkn, hr, hlk, hN⟩ := E
  exact lv_ishr hx hb hd (kk a ha H locs ls hP hS hl)
theorem V.ineg (E : Cx p R s m args meth c D cA ad A k n cc nL own ret) {a1 : Int32} (hd : decode cc pc = .ok (.ineg, 1)) (kk : V p l e R s m args below meth c D cA ad A nL k n Qf x σ (pc + 1) lv (.int (-a1) :: st)) : V p l e R s m args below meth c D cA ad A nL k n Qf x σ pc lv (.int a1 :: st) := by
  intro a ha H locs ls hP hS hl
  obtain ⟨hx, hb, hml, hown, hts, hK, hD, hkn, hr, hlk, hN⟩ := E
  exact lv_ineg hx hb hd (kk a ha H locs ls hP hS hl)
theorem V.idiv (E : Cx p R s m args meth c D cA ad A k n cc nL own ret) {a1 a2 : Int32} (hd : decode cc pc = .ok (.idiv, 1)) (h0 : ¬ a2 = 0) (kk : V p l e R s m args below meth c D cA ad A nL k n Qf x σ (pc + 1) lv (.int (a1 / a2) :: st)) : V p l e R s m args below meth c D cA ad A nL k n Qf x σ pc lv (.int a2 :: .int a1 :: st) := by
  intro a ha H locs ls hP hS hl
  obtain ⟨hx, hb, hml, hown, hts, hK, hD, hkn, hr, hlk, hN⟩ := E
  exact lv_idiv hx hb hd h0 (kk a ha H locs ls hP hS hl)
theorem V.irem (E : Cx p R s m args meth c D cA ad A k n cc nL own ret) {a1 a2 : Int32} (hd : decode cc pc = .ok (.irem, 1)) (h0 : ¬ a2 = 0) (kk : V p l e R s m args below meth c D cA ad A nL k n Qf x σ (pc + 1) lv (.int (irm a1 a2) :: st)) : V p l e R s m args below meth c D cA ad A nL k n Qf x σ pc lv (.int a2 :: .int a1 :: st) := by
  intro a ha H locs ls hP hS hl
  obtain ⟨hx, hb, hml, hown, hts, hK, hD, hkn, hr, hlk, hN⟩ := E
  exact lv_irem hx hb hd h0 (kk a ha H locs ls hP hS hl)
theorem V.lmul (E : Cx p R s m args meth c D cA ad A k n cc nL own ret) {a1 a2 : Int64} (hd : decode cc pc = .ok (.lmul, 1)) (kk : V p l e R s m args below meth c D cA ad A nL k n Qf x σ (pc + 1) lv (.long (a1 * a2) :: st)) : V p l e R s m args below meth c D cA ad A nL k n Qf x σ pc lv (.long a2 :: .long a1 :: st) := by
  intro a ha H locs ls hP hS hl
  obtain ⟨hx, hb, hml, hown, hts, hK, hD, hkn, hr, hlk, hN⟩ := E
  exact lv_lmul hx hb hd (kk a ha H locs ls hP hS hl)
theorem V.lrem (E : Cx p R s m args meth c D cA ad A k n cc nL own ret) {a1 a2 : Int64} (hd : decode cc pc = .ok (.lrem, 1)) (h0 : ¬ a2 = 0) (kk : V p l e R s m args below meth c D cA ad A nL k n Qf x σ (pc + 1) lv (.long (lrm a1 a2) :: st)) : V p l e R s m args below meth c D cA ad A nL k n Qf x σ pc lv (.long a2 :: .long a1 :: st) := by
  intro a ha H locs ls hP hS hl
  obtain ⟨hx, hb, hml, hown, hts, hK, hD, hkn, hr, hlk, hN⟩ := E
  exact lv_lrem hx hb hd h0 (kk a ha H locs ls hP hS hl)
theorem V.i2l (E : Cx p R s m args meth c D cA ad A k n cc nL own ret) {a1 : Int32} (hd : decode cc pc = .ok (.i2l, 1)) (kk : V p l e R s m args below meth c D cA ad A nL k n Qf x σ (pc + 1) lv (.long a1.toInt64 :: st)) : V p l e R s m args below meth c D cA ad A nL k n Qf x σ pc lv (.int a1 :: st) := by
  intro a ha H locs ls hP hS hl
  obtain ⟨hx, hb, hml, hown, hts, hK, hD, hkn, hr, hlk, hN⟩ := E
  exact lv_i2l hx hb hd rfl (kk a ha H locs ls hP hS hl)
theorem V.l2i (E : Cx p R s m args meth c D cA ad A k n cc nL own ret) {a1 : Int64} (hd : decode cc pc = .ok (.l2i, 1)) (kk : V p l e R s m args below meth c D cA ad A nL k n Qf x σ (pc + 1) lv (.int a1.toInt32 :: st)) : V p l e R s m args below meth c D cA ad A nL k n Qf x σ pc lv (.long a1 :: st) := by
  intro a ha H locs ls hP hS hl
  obtain ⟨hx, hb, hml, hown, hts, hK, hD, hkn, hr, hlk, hN⟩ := E
  exact lv_l2i hx hb hd rfl (kk a ha H locs ls hP hS hl)
theorem V.i2b (E : Cx p R s m args meth c D cA ad A k n cc nL own ret) {a1 : Int32} (hd : decode cc pc = .ok (.i2b, 1)) (kk : V p l e R s m args below meth c D cA ad A nL k n Qf x σ (pc + 1) lv (.int a1.toInt8.toInt32 :: st)) : V p l e R s m args below meth c D cA ad A nL k n Qf x σ pc lv (.int a1 :: st) := by
  intro a ha H locs ls hP hS hl
  obtain ⟨hx, hb, hml, hown, hts, hK, hD, hkn, hr, hlk, hN⟩ := E
  exact lv_i2b hx hb hd rfl (kk a ha H locs ls hP hS hl)
theorem V.i2s (E : Cx p R s m args meth c D cA ad A k n cc nL own ret) {a1 : Int32} (hd : decode cc pc = .ok (.i2s, 1)) (kk : V p l e R s m args below meth c D cA ad A nL k n Qf x σ (pc + 1) lv (.int a1.toInt16.toInt32 :: st)) : V p l e R s m args below meth c D cA ad A nL k n Qf x σ pc lv (.int a1 :: st) := by
  intro a ha H locs ls hP hS hl
  obtain ⟨hx, hb, hml, hown, hts, hK, hD, hkn, hr, hlk, hN⟩ := E
  exact lv_i2s hx hb hd rfl (kk a ha H locs ls hP hS hl)
theorem V.iushr (E : Cx p R s m args meth c D cA ad A k n cc nL own ret) {a1 a2 : Int32} (hd : decode cc pc = .ok (.iushr, 1)) (kk : V p l e R s m args below meth c D cA ad A nL k n Qf x σ (pc + 1) lv (.int (iushr a1 a2) :: st)) : V p l e R s m args below meth c D cA ad A nL k n Qf x σ pc lv (.int a2 :: .int a1 :: st) := by
  intro a ha H locs ls hP hS hl
  obtain ⟨hx, hb, hml, hown, hts, hK, hD, hkn, hr, hlk, hN⟩ := E
  exact t_iushr hx hb hd rfl (kk a ha H locs ls hP hS hl)
theorem V.dup_i (E : Cx p R s m args meth c D cA ad A k n cc nL own ret) {a1 : Int32} (hd : decode cc pc = .ok (.dup, 1)) (kk : V p l e R s m args below meth c D cA ad A nL k n Qf x σ (pc + 1) lv (.int a1 :: .int a1 :: st)) : V p l e R s m args below meth c D cA ad A nL k n Qf x σ pc lv (.int a1 :: st) := by
  intro a ha H locs ls hP hS hl
  obtain ⟨hx, hb, hml, hown, hts, hK, hD, hkn, hr, hlk, hN⟩ := E
  exact lv_dup hx hb hd rfl (kk a ha H locs ls hP hS hl)
theorem V.dup_a (E : Cx p R s m args meth c D cA ad A k n cc nL own ret) {a1 : Nat} (hd : decode cc pc = .ok (.dup, 1)) (kk : V p l e R s m args below meth c D cA ad A nL k n Qf x σ (pc + 1) lv (.ref a1 :: .ref a1 :: st)) : V p l e R s m args below meth c D cA ad A nL k n Qf x σ pc lv (.ref a1 :: st) := by
  intro a ha H locs ls hP hS hl
  obtain ⟨hx, hb, hml, hown, hts, hK, hD, hkn, hr, hlk, hN⟩ := E
  exact lv_dup hx hb hd rfl (kk a ha H locs ls hP hS hl)
theorem V.dup2 (E : Cx p R s m args meth c D cA ad A k n cc nL own ret) {a1 : Int32} {a2 : Nat} (hd : decode cc pc = .ok (.dup2, 1)) (kk : V p l e R s m args below meth c D cA ad A nL k n Qf x σ (pc + 1) lv (.int a1 :: .ref a2 :: .int a1 :: .ref a2 :: st)) : V p l e R s m args below meth c D cA ad A nL k n Qf x σ pc lv (.int a1 :: .ref a2 :: st) := by
  intro a ha H locs ls hP hS hl
  obtain ⟨hx, hb, hml, hown, hts, hK, hD, hkn, hr, hlk, hN⟩ := E
  exact lv_dup2_11 hx hb hd rfl rfl (kk a ha H locs ls hP hS hl)
theorem V.pop_i (E : Cx p R s m args meth c D cA ad A k n cc nL own ret) {a1 : Int32} (hd : decode cc pc = .ok (.pop, 1)) (kk : V p l e R s m args below meth c D cA ad A nL k n Qf x σ (pc + 1) lv st) : V p l e R s m args below meth c D cA ad A nL k n Qf x σ pc lv (.int a1 :: st) := by
  intro a ha H locs ls hP hS hl
  obtain ⟨hx, hb, hml, hown, hts, hK, hD, hkn, hr, hlk, hN⟩ := E
  exact lv_pop hx hb hd rfl (kk a ha H locs ls hP hS hl)
theorem V.pop_a (E : Cx p R s m args meth c D cA ad A k n cc nL own ret) {a1 : Nat} (hd : decode cc pc = .ok (.pop, 1)) (kk : V p l e R s m args below meth c D cA ad A nL k n Qf x σ (pc + 1) lv st) : V p l e R s m args below meth c D cA ad A nL k n Qf x σ pc lv (.ref a1 :: st) := by
  intro a ha H locs ls hP hS hl
  obtain ⟨hx, hb, hml, hown, hts, hK, hD, hkn, hr, hlk, hN⟩ := E
  exact lv_pop hx hb hd rfl (kk a ha H locs ls hP hS hl)
theorem V.goto (E : Cx p R s m args meth c D cA ad A k n cc nL own ret) {off : Int} {tgt : Nat} (hd : decode cc pc = .ok (.goto off, 3)) (ht : (pc : Int) + off = (tgt : Int)) (kk : V p l e R s m args below meth c D cA ad A nL k n Qf x σ tgt lv st) : V p l e R s m args below meth c D cA ad A nL k n Qf x σ pc lv st := by
  intro a ha H locs ls hP hS hl
  obtain ⟨hx, hb, hml, hown, hts, hK, hD, hkn, hr, hlk, hN⟩ := E
  exact lv_goto hx hb hd ht (kk a ha H locs ls hP hS hl)
theorem V.if_eq (E : Cx p R s m args meth c D cA ad A k n cc nL own ret) {a1 : Int32} {off : Int} {tgt : Nat} (hd : decode cc pc = .ok (.ifCond .eq off, 3)) (ht : (pc : Int) + off = (tgt : Int)) {hg : Decidable (a1 = 0)} (kt : a1 = 0 → V p l e R s m args below meth c D cA ad A nL k n Qf x σ tgt lv st) (kf : ¬ (a1 = 0) → V p l e R s m args below meth c D cA ad A nL k n Qf x2 σ (pc + 3) lv st) : V p l e R s m args below meth c D cA ad A nL k n Qf (if a1 = 0 then x else x2) σ pc lv (.int a1 :: st) := by
  intro a ha H locs ls hP hS hl
  obtain ⟨hx, hb, hml, hown, hts, hK, hD, hkn, hr, hlk, hN⟩ := E
  exact lv_if_eq hx hb hd ht (fun q => kt q a (by rw [if_pos q] at ha; exact ha) H locs ls hP hS hl) (fun q => kf q a (by rw [if_neg q] at ha; exact ha) H locs ls hP hS hl)
theorem V.icmp_eq (E : Cx p R s m args meth c D cA ad A k n cc nL own ret) {a1 a2 : Int32} {off : Int} {tgt : Nat} (hd : decode cc pc = .ok (.if_icmp .eq off, 3)) (ht : (pc : Int) + off = (tgt : Int)) {hg : Decidable (a1 = a2)} (kt : a1 = a2 → V p l e R s m args below meth c D cA ad A nL k n Qf x σ tgt lv st) (kf : ¬ (a1 = a2) → V p l e R s m args below meth c D cA ad A nL k n Qf x2 σ (pc + 3) lv st) : V p l e R s m args below meth c D cA ad A nL k n Qf (if a1 = a2 then x else x2) σ pc lv (.int a2 :: .int a1 :: st) := by
  intro a ha H locs ls hP hS hl
  obtain ⟨hx, hb, hml, hown, hts, hK, hD, hkn, hr, hlk, hN⟩ := E
  exact lv_icmp_eq hx hb hd ht (fun q => kt q a (by rw [if_pos q] at ha; exact ha) H locs ls hP hS hl) (fun q => kf q a (by rw [if_neg q] at ha; exact ha) H locs ls hP hS hl)
theorem V.if_ne (E : Cx p R s m args meth c D cA ad A k n cc nL own ret) {a1 : Int32} {off : Int} {tgt : Nat} (hd : decode cc pc = .ok (.ifCond .ne off, 3)) (ht : (pc : Int) + off = (tgt : Int)) {hg : Decidable (a1 = 0)} (kf : a1 = 0 → V p l e R s m args below meth c D cA ad A nL k n Qf x σ (pc + 3) lv st) (kt : ¬ a1 = 0 → V p l e R s m args below meth c D cA ad A nL k n Qf x2 σ tgt lv st) : V p l e R s m args below meth c D cA ad A nL k n Qf (if a1 = 0 then x else x2) σ pc lv (.int a1 :: st) := by
  intro a ha H locs ls hP hS hl
  obtain ⟨hx, hb, hml, hown, hts, hK, hD, hkn, hr, hlk, hN⟩ := E
  exact lv_if_ne hx hb hd ht (fun q => kt q a (by rw [if_neg q] at ha; exact ha) H locs ls hP hS hl) (fun q => kf q a (by rw [if_pos q] at ha; exact ha) H locs ls hP hS hl)
theorem V.icmp_ne (E : Cx p R s m args meth c D cA ad A k n cc nL own ret) {a1 a2 : Int32} {off : Int} {tgt : Nat} (hd : decode cc pc = .ok (.if_icmp .ne off, 3)) (ht : (pc : Int) + off = (tgt : Int)) {hg : Decidable (a1 = a2)} (kf : a1 = a2 → V p l e R s m args below meth c D cA ad A nL k n Qf x σ (pc + 3) lv st) (kt : ¬ a1 = a2 → V p l e R s m args below meth c D cA ad A nL k n Qf x2 σ tgt lv st) : V p l e R s m args below meth c D cA ad A nL k n Qf (if a1 = a2 then x else x2) σ pc lv (.int a2 :: .int a1 :: st) := by
  intro a ha H locs ls hP hS hl
  obtain ⟨hx, hb, hml, hown, hts, hK, hD, hkn, hr, hlk, hN⟩ := E
  exact lv_icmp_ne hx hb hd ht (fun q => kt q a (by rw [if_neg q] at ha; exact ha) H locs ls hP hS hl) (fun q => kf q a (by rw [if_pos q] at ha; exact ha) H locs ls hP hS hl)
theorem V.if_lt (E : Cx p R s m args meth c D cA ad A k n cc nL own ret) {a1 : Int32} {off : Int} {tgt : Nat} (hd : decode cc pc = .ok (.ifCond .lt off, 3)) (ht : (pc : Int) + off = (tgt : Int)) {hg : Decidable (a1 < 0)} (kt : a1 < 0 → V p l e R s m args below meth c D cA ad A nL k n Qf x σ tgt lv st) (kf : ¬ (a1 < 0) → V p l e R s m args below meth c D cA ad A nL k n Qf x2 σ (pc + 3) lv st) : V p l e R s m args below meth c D cA ad A nL k n Qf (if a1 < 0 then x else x2) σ pc lv (.int a1 :: st) := by
  intro a ha H locs ls hP hS hl
  obtain ⟨hx, hb, hml, hown, hts, hK, hD, hkn, hr, hlk, hN⟩ := E
  exact lv_if_lt hx hb hd ht (fun q => kt q a (by rw [if_pos q] at ha; exact ha) H locs ls hP hS hl) (fun q => kf q a (by rw [if_neg q] at ha; exact ha) H locs ls hP hS hl)
theorem V.icmp_lt (E : Cx p R s m args meth c D cA ad A k n cc nL own ret) {a1 a2 : Int32} {off : Int} {tgt : Nat} (hd : decode cc pc = .ok (.if_icmp .lt off, 3)) (ht : (pc : Int) + off = (tgt : Int)) {hg : Decidable (a1 < a2)} (kt : a1 < a2 → V p l e R s m args below meth c D cA ad A nL k n Qf x σ tgt lv st) (kf : ¬ (a1 < a2) → V p l e R s m args below meth c D cA ad A nL k n Qf x2 σ (pc + 3) lv st) : V p l e R s m args below meth c D cA ad A nL k n Qf (if a1 < a2 then x else x2) σ pc lv (.int a2 :: .int a1 :: st) := by
  intro a ha H locs ls hP hS hl
  obtain ⟨hx, hb, hml, hown, hts, hK, hD, hkn, hr, hlk, hN⟩ := E
  exact lv_icmp_lt hx hb hd ht (fun q => kt q a (by rw [if_pos q] at ha; exact ha) H locs ls hP hS hl) (fun q => kf q a (by rw [if_neg q] at ha; exact ha) H locs ls hP hS hl)
theorem V.if_ge (E : Cx p R s m args meth c D cA ad A k n cc nL own ret) {a1 : Int32} {off : Int} {tgt : Nat} (hd : decode cc pc = .ok (.ifCond .ge off, 3)) (ht : (pc : Int) + off = (tgt : Int)) {hg : Decidable (0 ≤ a1)} (kt : 0 ≤ a1 → V p l e R s m args below meth c D cA ad A nL k n Qf x σ tgt lv st) (kf : ¬ (0 ≤ a1) → V p l e R s m args below meth c D cA ad A nL k n Qf x2 σ (pc + 3) lv st) : V p l e R s m args below meth c D cA ad A nL k n Qf (if 0 ≤ a1 then x else x2) σ pc lv (.int a1 :: st) := by
  intro a ha H locs ls hP hS hl
  obtain ⟨hx, hb, hml, hown, hts, hK, hD, hkn, hr, hlk, hN⟩ := E
  exact lv_if_ge hx hb hd ht (fun q => kt q a (by rw [if_pos q] at ha; exact ha) H locs ls hP hS hl) (fun q => kf q a (by rw [if_neg q] at ha; exact ha) H locs ls hP hS hl)
theorem V.icmp_ge (E : Cx p R s m args meth c D cA ad A k n cc nL own ret) {a1 a2 : Int32} {off : Int} {tgt : Nat} (hd : decode cc pc = .ok (.if_icmp .ge off, 3)) (ht : (pc : Int) + off = (tgt : Int)) {hg : Decidable (a2 ≤ a1)} (kt : a2 ≤ a1 → V p l e R s m args below meth c D cA ad A nL k n Qf x σ tgt lv st) (kf : ¬ (a2 ≤ a1) → V p l e R s m args below meth c D cA ad A nL k n Qf x2 σ (pc + 3) lv st) : V p l e R s m args below meth c D cA ad A nL k n Qf (if a2 ≤ a1 then x else x2) σ pc lv (.int a2 :: .int a1 :: st) := by
  intro a ha H locs ls hP hS hl
  obtain ⟨hx, hb, hml, hown, hts, hK, hD, hkn, hr, hlk, hN⟩ := E
  exact lv_icmp_ge hx hb hd ht (fun q => kt q a (by rw [if_pos q] at ha; exact ha) H locs ls hP hS hl) (fun q => kf q a (by rw [if_neg q] at ha; exact ha) H locs ls hP hS hl)
theorem V.if_gt (E : Cx p R s m args meth c D cA ad A k n cc nL own ret) {a1 : Int32} {off : Int} {tgt : Nat} (hd : decode cc pc = .ok (.ifCond .gt off, 3)) (ht : (pc : Int) + off = (tgt : Int)) {hg : Decidable (0 < a1)} (kt : 0 < a1 → V p l e R s m args below meth c D cA ad A nL k n Qf x σ tgt lv st) (kf : ¬ (0 < a1) → V p l e R s m args below meth c D cA ad A nL k n Qf x2 σ (pc + 3) lv st) : V p l e R s m args below meth c D cA ad A nL k n Qf (if 0 < a1 then x else x2) σ pc lv (.int a1 :: st) := by
  intro a ha H locs ls hP hS hl
  obtain ⟨hx, hb, hml, hown, hts, hK, hD, hkn, hr, hlk, hN⟩ := E
  exact lv_if_gt hx hb hd ht (fun q => kt q a (by rw [if_pos q] at ha; exact ha) H locs ls hP hS hl) (fun q => kf q a (by rw [if_neg q] at ha; exact ha) H locs ls hP hS hl)
theorem V.icmp_gt (E : Cx p R s m args meth c D cA ad A k n cc nL own ret) {a1 a2 : Int32} {off : Int} {tgt : Nat} (hd : decode cc pc = .ok (.if_icmp .gt off, 3)) (ht : (pc : Int) + off = (tgt : Int)) {hg : Decidable (a2 < a1)} (kt : a2 < a1 → V p l e R s m args below meth c D cA ad A nL k n Qf x σ tgt lv st) (kf : ¬ (a2 < a1) → V p l e R s m args below meth c D cA ad A nL k n Qf x2 σ (pc + 3) lv st) : V p l e R s m args below meth c D cA ad A nL k n Qf (if a2 < a1 then x else x2) σ pc lv (.int a2 :: .int a1 :: st) := by
  intro a ha H locs ls hP hS hl
  obtain ⟨hx, hb, hml, hown, hts, hK, hD, hkn, hr, hlk, hN⟩ := E
  exact lv_icmp_gt hx hb hd ht (fun q => kt q a (by rw [if_pos q] at ha; exact ha) H locs ls hP hS hl) (fun q => kf q a (by rw [if_neg q] at ha; exact ha) H locs ls hP hS hl)
theorem V.if_le (E : Cx p R s m args meth c D cA ad A k n cc nL own ret) {a1 : Int32} {off : Int} {tgt : Nat} (hd : decode cc pc = .ok (.ifCond .le off, 3)) (ht : (pc : Int) + off = (tgt : Int)) {hg : Decidable (a1 ≤ 0)} (kt : a1 ≤ 0 → V p l e R s m args below meth c D cA ad A nL k n Qf x σ tgt lv st) (kf : ¬ (a1 ≤ 0) → V p l e R s m args below meth c D cA ad A nL k n Qf x2 σ (pc + 3) lv st) : V p l e R s m args below meth c D cA ad A nL k n Qf (if a1 ≤ 0 then x else x2) σ pc lv (.int a1 :: st) := by
  intro a ha H locs ls hP hS hl
  obtain ⟨hx, hb, hml, hown, hts, hK, hD, hkn, hr, hlk, hN⟩ := E
  exact lv_if_le hx hb hd ht (fun q => kt q a (by rw [if_pos q] at ha; exact ha) H locs ls hP hS hl) (fun q => kf q a (by rw [if_neg q] at ha; exact ha) H locs ls hP hS hl)
theorem V.icmp_le (E : Cx p R s m args meth c D cA ad A k n cc nL own ret) {a1 a2 : Int32} {off : Int} {tgt : Nat} (hd : decode cc pc = .ok (.if_icmp .le off, 3)) (ht : (pc : Int) + off = (tgt : Int)) {hg : Decidable (a1 ≤ a2)} (kt : a1 ≤ a2 → V p l e R s m args below meth c D cA ad A nL k n Qf x σ tgt lv st) (kf : ¬ (a1 ≤ a2) → V p l e R s m args below meth c D cA ad A nL k n Qf x2 σ (pc + 3) lv st) : V p l e R s m args below meth c D cA ad A nL k n Qf (if a1 ≤ a2 then x else x2) σ pc lv (.int a2 :: .int a1 :: st) := by
  intro a ha H locs ls hP hS hl
  obtain ⟨hx, hb, hml, hown, hts, hK, hD, hkn, hr, hlk, hN⟩ := E
  exact lv_icmp_le hx hb hd ht (fun q => kt q a (by rw [if_pos q] at ha; exact ha) H locs ls hP hS hl) (fun q => kf q a (by rw [if_neg q] at ha; exact ha) H locs ls hP hS hl)
theorem V.tableIn (E : Cx p R s m args meth c D cA ad A k n cc nL own ret) {dflt lo hi : Int} {offs : Array Int} {len : Nat} {a1 : Int32} {off : Int} {tgt : Nat} (hd : decode cc pc = .ok (.tableswitch dflt lo hi offs, len)) (h1 : ¬ a1.toInt < lo) (h2 : ¬ hi < a1.toInt) (ho : offs[(a1.toInt - lo).toNat]? = some off) (ht : (pc : Int) + off = (tgt : Int)) (kk : V p l e R s m args below meth c D cA ad A nL k n Qf x σ tgt lv st) : V p l e R s m args below meth c D cA ad A nL k n Qf x σ pc lv (.int a1 :: st) := by
  intro a ha H locs ls hP hS hl
  obtain ⟨hx, hb, hml, hown, hts, hK, hD, hkn, hr, hlk, hN⟩ := E
  exact lv_tableIn hx hb hd h1 h2 ho ht (kk a ha H locs ls hP hS hl)
theorem V.tableOut (E : Cx p R s m args meth c D cA ad A k n cc nL own ret) {dflt lo hi : Int} {offs : Array Int} {len : Nat} {a1 : Int32} {tgt : Nat} (hd : decode cc pc = .ok (.tableswitch dflt lo hi offs, len)) (h : a1.toInt < lo ∨ hi < a1.toInt) (ht : (pc : Int) + dflt = (tgt : Int)) (kk : V p l e R s m args below meth c D cA ad A nL k n Qf x σ tgt lv st) : V p l e R s m args below meth c D cA ad A nL k n Qf x σ pc lv (.int a1 :: st) := by
  intro a ha H locs ls hP hS hl
  obtain ⟨hx, hb, hml, hown, hts, hK, hD, hkn, hr, hlk, hN⟩ := E
  exact lv_tableOut hx hb hd h ht (kk a ha H locs ls hP hS hl)
theorem V.lookup (E : Cx p R s m args meth c D cA ad A k n cc nL own ret) {dflt : Int} {ps : Array (Int × Int)} {len : Nat} {a1 : Int32} {off : Int} {tgt : Nat} (hd : decode cc pc = .ok (.lookupswitch dflt ps, len)) (hp : (ps.toList.zip (ps.toList.drop 1)).all (fun (a, next) => a.1 < next.1) = true) (ho : Op.lookupswitch.offset ps.toList dflt a1.toInt = off) (ht : (pc : Int) + off = (tgt : Int)) (kk : V p l e R s m args below meth c D cA ad A nL k n Qf x σ tgt lv st) : V p l e R s m args below meth c D cA ad A nL k n Qf x σ pc lv (.int a1 :: st) := by
  intro a ha H locs ls hP hS hl
  obtain ⟨hx, hb, hml, hown, hts, hK, hD, hkn, hr, hlk, hN⟩ := E
  exact lv_lookup hx hb hd hp ho ht (kk a ha H locs ls hP hS hl)
theorem V.case {g : Prop} {hg : Decidable g} (kt : g → V p l e R s m args below meth c D cA ad A nL k n Qf x σ pc lv st) (kf : ¬ g → V p l e R s m args below meth c D cA ad A nL k n Qf x2 σ pc lv st) : V p l e R s m args below meth c D cA ad A nL k n Qf (if g then x else x2) σ pc lv st := by
  by_cases q : g
  · rw [if_pos q]; exact kt q
  · rw [if_neg q]; exact kf q
theorem V.getI (E : Cx p R s m args meth c D cA ad A k n cc nL own ret) {o ci j idx : Nat} {fs : List Nat} (hd : decode cc pc = .ok (.getfield idx, 3)) (hf : FL own idx ci j) (ho : lay o = (4, ci, fs)) (hj : fs[j]? = some 0) (kk : V p l e R s m args below meth c D cA ad A nL k n Qf x σ (pc + 3) lv (.int (σ o j) :: st)) : V p l e R s m args below meth c D cA ad A nL k n Qf x σ pc lv (.ref (ad o) :: st) := by
  intro a ha H locs ls hP hS hl
  obtain ⟨hx, hb, hml, hown, hts, hK, hD, hkn, hr, hlk, hN⟩ := E
  obtain ⟨C, T, N, h1, h2, h3, h4⟩ := hf
  exact va_get (D := D) (ci := ci) (v := .int (σ o j)) (C := C) (T := T) (N := N) hx hb hts h4 hown hK hP o (wl_of ho (by decide)) h1 j h2 (hts _ h3) (fun _ h => h) (by have := fld_int (ad := ad) (g := σ o) fs 0 j hj; rw [Nat.zero_add] at this; exact this) hd (kk a ha H locs ls hP hS hl)
theorem V.getR (E : Cx p R s m args meth c D cA ad A k n cc nL own ret) {o ci j idx r : Nat} {fs : List Nat} (hd : decode cc pc = .ok (.getfield idx, 3)) (hf : FL own idx ci j) (ho : lay o = (4, ci, fs)) (hj : fs[j]? = some (r + 1)) (kk : V p l e R s m args below meth c D cA ad A nL k n Qf x σ (pc + 3) lv (.ref (ad r) :: st)) : V p l e R s m args below meth c D cA ad A nL k n Qf x σ pc lv (.ref (ad o) :: st) := by
  intro a ha H locs ls hP hS hl
  obtain ⟨hx, hb, hml, hown, hts, hK, hD, hkn, hr, hlk, hN⟩ := E
  obtain ⟨C, T, N, h1, h2, h3, h4⟩ := hf
  exact va_get (D := D) (ci := ci) (v := .ref (ad r)) (C := C) (T := T) (N := N) hx hb hts h4 hown hK hP o (wl_of ho (by decide)) h1 j h2 (hts _ h3) (fun _ h => h) (fld_ref (ad := ad) (g := σ o) fs 0 j hj) hd (kk a ha H locs ls hP hS hl)
theorem V.putI (E : Cx p R s m args meth c D cA ad A k n cc nL own ret) {o ci j idx : Nat} {fs : List Nat} {b : Int32} (hd : decode cc pc = .ok (.putfield idx, 3)) (hf : FL own idx ci j) (hp : FP ci j) (ho : lay o = (4, ci, fs)) (hj : fs[j]? = some 0) (kk : V p l e R s m args below meth c D cA ad A nL k n Qf x (wr σ o j b) (pc + 3) lv st) : V p l e R s m args below meth c D cA ad A nL k n Qf x σ pc lv (.int b :: .ref (ad o) :: st) := by
  intro a ha H locs ls hP hS hl
  obtain ⟨hx, hb, hml, hown, hts, hK, hD, hkn, hr, hlk, hN⟩ := E
  obtain ⟨C, T, N, h1, h2, h3, h4⟩ := hf
  obtain ⟨C2, T2, N2, ty, g1, g2, g3, g4, g5⟩ := hp
  rw [h1] at g1
  cases g1
  refine va_put (D := D) (ci := ci) (v := .int b) (ty := .int) (C := C) (T := T) (N := N) hx hb hts h4 ty g2 g3 hown hK hP (hD σ) hS o (wl_of ho (by decide)) h1 j h2 (hts _ h3) (fun _ h => h) g4 g5 rfl rfl (by rw [fld_len]; exact (List.getElem?_eq_some_iff.mp hj).1) hd (fun H1 locs1 hP1 _ hS1 => ?_)
  rw [fld_set fs 0 j hj, Nat.zero_add] at hP1
  have e : (wl cA ad σ).set o (ad o, .inr (ci, fld ad (up (σ o) j b) 0 fs)) = wl cA ad (wr σ o j b) := wl_set (lay_lt (by rw [ho]; exact lay_n9)) (by rw [cel_of ho]; show celk _ _ (up σ o _ o) _ _ _ = _; rw [up_s]; rfl) (fun i hi => up_n hi)
  rw [e] at hP1
  exact kk a ha H1 locs1 ls hP1 hS1 hl
theorem V.ialoadC (E : Cx p R s m args meth c D cA ad A k n cc nL own ret) {o z : Nat} {i : Int32} (hd : decode cc pc = .ok (.iaload, 1)) (ho : lay o = (0, z, [])) (hi : vp_in i z) (kk : V p l e R s m args below meth c D cA ad A nL k n Qf x σ (pc + 1) lv (.int (σ o i.toNatClampNeg) :: st)) : V p l e R s m args below meth c D cA ad A nL k n Qf x σ pc lv (.int i :: .ref (ad o) :: st) := by
  intro a ha H locs ls hP hS hl
  obtain ⟨hx, hb, hml, hown, hts, hK, hD, hkn, hr, hlk, hN⟩ := E
  exact va_iald hx hb hK hP o 0 (wl_of ho (by decide)) rfl hi hd (kk a ha H locs ls hP hS hl)
theorem V.baloadC (E : Cx p R s m args meth c D cA ad A k n cc nL own ret) {o z : Nat} {i : Int32} (hd : decode cc pc = .ok (.baload, 1)) (ho : lay o = (1, z, [])) (hi : vp_in i z) (kk : V p l e R s m args below meth c D cA ad A nL k n Qf x σ (pc + 1) lv (.int (σ o i.toNatClampNeg) :: st)) : V p l e R s m args below meth c D cA ad A nL k n Qf x σ pc lv (.int i :: .ref (ad o) :: st) := by
  intro a ha H locs ls hP hS hl
  obtain ⟨hx, hb, hml, hown, hts, hK, hD, hkn, hr, hlk, hN⟩ := E
  exact va_zald hx hb hK hP o 1 (wl_of ho (by decide)) rfl hi hd (kk a ha H locs ls hP hS hl)
theorem V.aaload (E : Cx p R s m args meth c D cA ad A k n cc nL own ret) {o z b q : Nat} {i : Int32} (hd : decode cc pc = .ok (.aaload, 1)) (ho : lay o = (2, z, [b, q])) (hi : vp_in i z) (kk : V p l e R s m args below meth c D cA ad A nL k n Qf x σ (pc + 1) lv (.ref (ad (b + q * i.toNatClampNeg)) :: st)) : V p l e R s m args below meth c D cA ad A nL k n Qf x σ pc lv (.int i :: .ref (ad o) :: st) := by
  intro a ha H locs ls hP hS hl
  obtain ⟨hx, hb, hml, hown, hts, hK, hD, hkn, hr, hlk, hN⟩ := E
  have hlt : i.toNatClampNeg < z := Nat.not_le.mp fun q => hi (Or.inr q)
  refine va_aldq hx hb hK hP o 2 (wl_of ho (by decide)) rfl hi hd ?_
  rw [show va_rf (rfa ad z ([b, q].getD 0 0) ([b, q].getD 1 0) i.toNatClampNeg) = .ref (ad (b + q * i.toNatClampNeg)) by unfold rfa; rw [if_pos hlt]; rfl]
  exact kk a ha H locs ls hP hS hl
theorem V.aaload3 (E : Cx p R s m args meth c D cA ad A k n cc nL own ret) {o z b q : Nat} {i : Int32} (hd : decode cc pc = .ok (.aaload, 1)) (ho : lay o = (3, z, [b, q])) (hi : vp_in i z) (kk : V p l e R s m args below meth c D cA ad A nL k n Qf x σ (pc + 1) lv (.ref (ad (b + q * i.toNatClampNeg)) :: st)) : V p l e R s m args below meth c D cA ad A nL k n Qf x σ pc lv (.int i :: .ref (ad o) :: st) := by
  intro a ha H locs ls hP hS hl
  obtain ⟨hx, hb, hml, hown, hts, hK, hD, hkn, hr, hlk, hN⟩ := E
  have hlt : i.toNatClampNeg < z := Nat.not_le.mp fun q => hi (Or.inr q)
  refine W.aald (v := va_rf (rfa ad z b q i.toNatClampNeg)) (ty := .array .int) hx hb (hP o _ (wl_of ho (by decide))) ((hK.2 3 _ rfl).1 z (fun j => va_rf (rfa ad z b q j))) rfl (fun q => by cases q) (by show ¬ (i < 0 ∨ (arrV _ _ _).slots.size ≤ _); rw [arrV_size]; exact hi) (by show (arrV _ _ _).slots[_]? = _; rw [arrV_read _ _ hlt]; rfl) rfl rfl hd ?_
  rw [show va_rf (rfa ad z b q i.toNatClampNeg) = .ref (ad (b + q * i.toNatClampNeg)) by unfold rfa; rw [if_pos hlt]; rfl]
  exact kk a ha H locs ls hP hS hl
theorem V.iastoreC (E : Cx p R s m args meth c D cA ad A k n cc nL own ret) {o z : Nat} {i b : Int32} (hd : decode cc pc = .ok (.iastore, 1)) (ho : lay o = (0, z, [])) (hi : vp_in i z) (kk : V p l e R s m args below meth c D cA ad A nL k n Qf x (wr σ o i.toNatClampNeg b) (pc + 1) lv st) : V p l e R s m args below meth c D cA ad A nL k n Qf x σ pc lv (.int b :: .int i :: .ref (ad o) :: st) := by
  intro a ha H locs ls hP hS hl
  obtain ⟨hx, hb, hml, hown, hts, hK, hD, hkn, hr, hlk, hN⟩ := E
  refine va_iast hx hb hK hP (hD σ) hS o 0 (wl_of ho (by decide)) rfl hi hd (fun H1 locs1 hP1 _ hS1 => ?_)
  have e : (wl cA ad σ).set o (ad o, .inl (cA 0, z, .inl (upd (σ o) i.toNatClampNeg b))) = wl cA ad (wr σ o i.toNatClampNeg b) := wl_set (lay_lt (by rw [ho]; exact lay_n9)) (by rw [cel_of ho]; show celk _ _ (up σ o _ o) _ _ _ = _; rw [up_s]; rfl) (fun i hi => up_n hi)
  rw [e] at hP1
  exact kk a ha H1 locs1 ls hP1 hS1 hl
theorem V.bastoreC (E : Cx p R s m args meth c D cA ad A k n cc nL own ret) {o z : Nat} {i b : Int32} (hd : decode cc pc = .ok (.bastore, 1)) (ho : lay o = (1, z, [])) (hi : vp_in i z) (hb1 : vp_nar .boolean b = b) (kk : V p l e R s m args below meth c D cA ad A nL k n Qf x (wr σ o i.toNatClampNeg b) (pc + 1) lv st) : V p l e R s m args below meth c D cA ad A nL k n Qf x σ pc lv (.int b :: .int i :: .ref (ad o) :: st) := by
  intro a ha H locs ls hP hS hl
  obtain ⟨hx, hb, hml, hown, hts, hK, hD, hkn, hr, hlk, hN⟩ := E
  refine va_zast hx hb hK hP (hD σ) hS o 1 (wl_of ho (by decide)) rfl hi hd (fun H1 locs1 hP1 _ hS1 => ?_)
  rw [hb1] at hP1
  have e : (wl cA ad σ).set o (ad o, .inl (cA 1, z, .inl (upd (σ o) i.toNatClampNeg b))) = wl cA ad (wr σ o i.toNatClampNeg b) := wl_set (lay_lt (by rw [ho]; exact lay_n9)) (by rw [cel_of ho]; show celk _ _ (up σ o _ o) _ _ _ = _; rw [up_s]; rfl) (fun i hi => up_n hi)
  rw [e] at hP1
  exact kk a ha H1 locs1 ls hP1 hS1 hl
theorem V.alen (E : Cx p R s m args meth c D cA ad A k n cc nL own ret) {o z : Nat} {b : Int32} (hd : decode cc pc = .ok (.arraylength, 1)) (ho : lay o = (0, z, [])) (hv : Int32.ofNat z = b) (kk : V p l e R s m args below meth c D cA ad A nL k n Qf x σ (pc + 1) lv (.int b :: st)) : V p l e R s m args below meth c D cA ad A nL k n Qf x σ pc lv (.ref (ad o) :: st) := by
  intro a ha H locs ls hP hS hl
  obtain ⟨hx, hb, hml, hown, hts, hK, hD, hkn, hr, hlk, hN⟩ := E
  exact va_alen hx hb hK hP o 0 (wl_of ho (by decide)) (ty := .int) rfl hv hd (kk a ha H locs ls hP hS hl)
theorem V.mmax (E : Cx p R s m args meth c D cA ad A k n cc nL own ret) {idx : Nat} {a1 a2 : Int32} (hd : decode cc pc = .ok (.invokestatic idx, 3)) (hw : Cond.methodLink own idx Lib.Math.max.name ∈ GW ∧ Cond.static Lib.Math.max.name ∈ GW ∧ Cond.initialized "java/lang/Math" ∈ GW ∧ Cond.code Lib.Math.max.name Lib.Math.max.code 2 (some .int) ∈ GW) (hR : 1 ≤ R.frames ∧ (st.map fun v => v.category).sum + 13 ≤ R.locals) (kk : V p l e R s m args below meth c D cA ad A nL k n Qf x σ (pc + 3) lv (.int (imax a1 a2) :: st)) : V p l e R s m args below meth c D cA ad A nL k n Qf x σ pc lv (.int a2 :: .int a1 :: st) := by
  intro a ha H locs ls hP hS hl
  obtain ⟨hx, hb, hml, hown, hts, hK, hD, hkn, hr, hlk, hN⟩ := E
  exact va_mmax hx hb (hml.trans hl.1.symm) hown (hts _ hw.1) (hts _ hw.2.1) (hts _ hw.2.2.1) (hts _ hw.2.2.2) hR.1 hR.2 hkn.1 hkn.2 hd (kk a ha H locs ls hP hS hl)
theorem V.mmin (E : Cx p R s m args meth c D cA ad A k n cc nL own ret) {idx : Nat} {a1 a2 : Int32} (hd : decode cc pc = .ok (.invokestatic idx, 3)) (hw : Cond.methodLink own idx Lib.Math.min.name ∈ GW ∧ Cond.static Lib.Math.min.name ∈ GW ∧ Cond.initialized "java/lang/Math" ∈ GW ∧ Cond.code Lib.Math.min.name Lib.Math.min.code 2 (some .int) ∈ GW) (hR : 1 ≤ R.frames ∧ (st.map fun v => v.category).sum + 13 ≤ R.locals) (kk : V p l e R s m args below meth c D cA ad A nL k n Qf x σ (pc + 3) lv (.int (imin a1 a2) :: st)) : V p l e R s m args below meth c D cA ad A nL k n Qf x σ pc lv (.int a2 :: .int a1 :: st) := by
  intro a ha H locs ls hP hS hl
  obtain ⟨hx, hb, hml, hown, hts, hK, hD, hkn, hr, hlk, hN⟩ := E
  exact va_mmin hx hb (hml.trans hl.1.symm) hown (hts _ hw.1) (hts _ hw.2.1) (hts _ hw.2.2.1) (hts _ hw.2.2.2) hR.1 hR.2 hkn.1 hkn.2 hd (kk a ha H locs ls hP hS hl)
theorem V.acopy (E : Cx p R s m args meth c D cA ad A k n cc nL own ret) {idx o1 o2 z1 z2 : Nat} {sp dp nn : Int32} (hd : decode cc pc = .ok (.invokestatic idx, 3)) (hw : Cond.methodLink own idx arraycopyName ∈ GW ∧ Cond.native arraycopyName ∈ GW ∧ Cond.static arraycopyName ∈ GW ∧ Cond.initialized "java/lang/System" ∈ GW) (h1 : lay o1 = (0, z1, [])) (h2 : lay o2 = (0, z2, [])) (hg : ¬ sp < 0 ∧ ¬ dp < 0 ∧ ¬ nn < 0 ∧ sp.toNatClampNeg + nn.toNatClampNeg ≤ z1 ∧ dp.toNatClampNeg + nn.toNatClampNeg ≤ z2) (hR : 1 ≤ R.frames ∧ (st.map fun v => v.category).sum + (nativeFrameWords "java/lang/System" "arraycopy" 5 + 11) ≤ R.locals) (kk : V p l e R s m args below meth c D cA ad A nL k n Qf x (up σ o2 (va_cpy (σ o1) (σ o2) sp.toNatClampNeg dp.toNatClampNeg nn.toNatClampNeg)) (pc + 3) lv st) : V p l e R s m args below meth c D cA ad A nL k n Qf x σ pc lv (.int nn :: .int dp :: .ref (ad o2) :: .int sp :: .ref (ad o1) :: st) := by
  intro a ha H locs ls hP hS hl
  obtain ⟨hx, hb, hml, hown, hts, hK, hD, hkn, hr, hlk, hN⟩ := E
  refine va_copyi hx hb (hml.trans hl.1.symm) hown (hts _ hw.1) (hts _ hw.2.1) (hts _ hw.2.2.1) (hts _ hw.2.2.2) hK hP (hD σ) hS o1 o2 0 0 (ty := .int) (wl_of h1 (by decide)) (wl_of h2 (by decide)) rfl rfl rfl hg.1 hg.2.1 hg.2.2.1 hg.2.2.2.1 hg.2.2.2.2 (fun _ _ => rfl) hR.1 hR.2 hd (fun H1 locs1 hP1 _ hS1 => ?_)
  have e : (wl cA ad σ).set o2 (ad o2, .inl (cA 0, z2, .inl (va_cpy (σ o1) (σ o2) sp.toNatClampNeg dp.toNatClampNeg nn.toNatClampNeg))) = wl cA ad (up σ o2 (va_cpy (σ o1) (σ o2) sp.toNatClampNeg dp.toNatClampNeg nn.toNatClampNeg)) := wl_set (lay_lt (by rw [h2]; exact lay_n9)) (by rw [cel_of h2]; show celk _ _ (up σ o2 _ o2) _ _ _ = _; rw [up_s]; rfl) (fun i hi => up_n hi)
  rw [e] at hP1
  exact kk a ha H1 locs1 ls hP1 hS1 hl
theorem V.iret (E : Cx p R s m args meth c D cA ad A k n cc nL own (some .int)) {cv : X → Option Value × Hp} {b0 : X} {b : Int32} (hd : decode cc pc = .ok (.ireturn, 1)) (hv : cv b0 = (some (.int b), σ)) : V p l e R s m args below meth c D cA ad A nL k n (fun a : X => MQ below (QC D cA ad A (cv a)) args s k n A) (some b0) σ pc lv [.int b] := by
  intro a ha H locs ls hP hS hl
  obtain ⟨hx, hb, hml, hown, hts, hK, hD, hkn, hr, hlk, hN⟩ := E
  cases ha
  show W p l e R s m args below meth c H locs k n (MQ below (QC D cA ad A (cv b0)) args s k n A) _
  rw [hv]
  exact W.iret hx hb hr (fun t ht hW => ⟨rfl, by rw [ht]; exact hP, hS.F ht⟩) hS.2.2 hd hlk
theorem V.zret (E : Cx p R s m args meth c D cA ad A k n cc nL own (some .boolean)) {cv : X → Option Value × Hp} {b0 : X} {b : Int32} (hd : decode cc pc = .ok (.ireturn, 1)) (hn : narrow .boolean (.int b) = .int b) (hv : cv b0 = (some (.int b), σ)) : V p l e R s m args below meth c D cA ad A nL k n (fun a : X => MQ below (QC D cA ad A (cv a)) args s k n A) (some b0) σ pc lv [.int b] := by
  intro a ha H locs ls hP hS hl
  obtain ⟨hx, hb, hml, hown, hts, hK, hD, hkn, hr, hlk, hN⟩ := E
  cases ha
  show W p l e R s m args below meth c H locs k n (MQ below (QC D cA ad A (cv b0)) args s k n A) _
  rw [hv]
  exact W.zret (v := b) hx hb hr hn (fun t ht hW => ⟨rfl, by rw [ht]; exact hP, hS.F ht⟩) hS.2.2 hd hlk
theorem V.vret (E : Cx p R s m args meth c D cA ad A k n cc nL own Option.none) {cv : X → Option Value × Hp} {b0 : X} (hd : decode cc pc = .ok (.return_, 1)) (hv : cv b0 = (Option.none, σ)) : V p l e R s m args below meth c D cA ad A nL k n (fun a : X => MQ below (QC D cA ad A (cv a)) args s k n A) (some b0) σ pc lv [] := by
  intro a ha H locs ls hP hS hl
  obtain ⟨hx, hb, hml, hown, hts, hK, hD, hkn, hr, hlk, hN⟩ := E
  cases ha
  show W p l e R s m args below meth c H locs k n (MQ below (QC D cA ad A (cv b0)) args s k n A) _
  rw [hv]
  exact W.vret hx hb hr (fun t ht hW => ⟨rfl, by rw [ht]; exact hP, hS.F ht⟩) hS.2.2 hd hlk
theorem V.aret {C : String} (E : Cx p R s m args meth c D cA ad A k n cc nL own (some (.object C))) {cv : X → Option Value × Hp} {b0 : X} {b : Nat} (hd : decode cc pc = .ok (.areturn, 1)) (hv : cv b0 = (some (.ref b), σ)) : V p l e R s m args below meth c D cA ad A nL k n (fun a : X => MQ below (QC D cA ad A (cv a)) args s k n A) (some b0) σ pc lv [.ref b] := by
  intro a ha H locs ls hP hS hl
  obtain ⟨hx, hb, hml, hown, hts, hK, hD, hkn, hr, hlk, hN⟩ := E
  cases ha
  show W p l e R s m args below meth c H locs k n (MQ below (QC D cA ad A (cv b0)) args s k n A) _
  rw [hv]
  exact W.aret (v := .ref b) hx hb hr (Or.inl ⟨_, rfl⟩) (Or.inr ⟨_, rfl⟩) (fun t ht hW => ⟨rfl, by rw [ht]; exact hP, hS.F ht⟩) hS.2.2 hd hlk
theorem V.lstore_n (E : Cx p R s m args meth c D cA ad A k n cc nL own ret) {q : Fin 4} {i : Nat} {b : Int64} {lv2 : List (Nat × Value)} (hd : decode cc pc = .ok (.lstore_n q, 1)) (hi : (q : Nat) = i) (hn : i + 1 < nL) (hl2 : (i, Value.long b) :: lv.filter (fun q => !(q.1 == i) && (!(q.1 == i + 1) && !(q.1 + 1 == i && q.2.category == 2))) = lv2) (kk : V p l e R s m args below meth c D cA ad A nL k n Qf x σ (pc + 1) lv2 st) : V p l e R s m args below meth c D cA ad A nL k n Qf x σ pc lv (.long b :: st) := by
  intro a ha H locs ls hP hS hl
  obtain ⟨hx, hb, hml, hown, hts, hK, hD, hkn, hr, hlk, hN⟩ := E
  exact lv_lstore_n hx hb hd hi hl hn hl2 (fun ls hl => kk a ha H locs ls hP hS hl)
theorem V.lstore (E : Cx p R s m args meth c D cA ad A k n cc nL own ret) {i : Nat} {b : Int64} {lv2 : List (Nat × Value)} (hd : decode cc pc = .ok (.lstore i, 2)) (hn : i + 1 < nL) (hl2 : (i, Value.long b) :: lv.filter (fun q => !(q.1 == i) && (!(q.1 == i + 1) && !(q.1 + 1 == i && q.2.category == 2))) = lv2) (kk : V p l e R s m args below meth c D cA ad A nL k n Qf x σ (pc + 2) lv2 st) : V p l e R s m args below meth c D cA ad A nL k n Qf x σ pc lv (.long b :: st) := by
  intro a ha H locs ls hP hS hl
  obtain ⟨hx, hb, hml, hown, hts, hK, hD, hkn, hr, hlk, hN⟩ := E
  exact lv_lstore hx hb hd hl hn hl2 (fun ls hl => kk a ha H locs ls hP hS hl)
theorem gw_word {w : Cond} (h : w ∈ GW) (hts : ∀ w ∈ GW, w.before args s = true) : ∀ (a' : Array Value) (U : State), s.WarmedH U.vm → w.before a' U = true := fun a' U hW => word_at hW (good_of_word (gw_good w h)) (hts w h)
/-- behind a call -/
theorem V.back {Y : Type} {cw : Y → Option Value × Hp} {kx : Y → Option X} {rest : List Value} {Pa : Array Value} {a : X} {H : Heap} {locs : List Loc} {ls : Array Slot} {b : Y} (hS : va_S A s.heap H locs) (hl : lv_has ls nL lv) (hb : kx b = some a)
    (hr : va_Run p l e R s m args below meth c H locs k n 0 0 (F0 m pc ls st) rest (QC D cA ad A (cw b) Pa) A)
    (kk : ∀ b, V p l e R s m args below meth c D cA ad A nL k n Qf (kx b) (cw b).2 (pc + 3) lv ((cw b).1.toList ++ rest)) : W p l e R s m args below meth c H locs k n (Qf a) (F0 m pc ls st) := by
  intro T hT X0
  obtain ⟨v, st₀, t, T', L, h0, X', hL, e1, e2, ⟨hv, hP1, hz, hk⟩, stp⟩ := hr T hT X0
  have hv2 : v = (cw b).1 := by injection hv
  subst hv2
  rw [h0] at hz hk
  obtain ⟨t2, a1, b1⟩ := kk b a hb T'.heap (locs ++ L) ls (by rw [e1]; exact hP1)
    ⟨Nat.le_trans hS.1 (by rw [e1]; exact hz), fun q h1 h2 => by rw [e1, hk q (Nat.lt_of_lt_of_le h1 hS.1) h2]; exact hS.2.1 q h1 h2, fun q hq => by
      rcases List.mem_append.mp hq with h | h
      · exact hS.2.2 q h
      · exact hL q h⟩ hl T' rfl X'
  exact ⟨t2, stp t2 a1, b1⟩
theorem blind {as : List Value} {σ : Hp} : FrameBlind (va_Pc as (fun U => va_P D vwCl (wl cA ad σ) U.heap ∧ va_K D vwCl (tysOf cA) U ∧ NWs U)) := fun a U g mk q => ⟨q.1, q.2.1, va_K.moved (u := U) (U := U.calling g mk a) (Vm.Alike.refl U.vm) q.2.2.1, NWs.same (u := U) (U := U.calling g mk a) rfl q.2.2.2⟩
theorem V.callV (E : Cx p R s m args meth c D cA ad A k n cc nL own ret) {Y : Type} {f : Option Y} {cw : Y → Option Value × Hp} {kx : Y → Option X} {y : MethodName} {cc2 : ByteArray} {nL2 idx nA fr lo o ci : Nat} {fs : List Nat} {ret2 : Option FieldType} {as rest : List Value} (hd : decode cc pc = .ok (.invokevirtual idx, 3)) (hM : MLV own idx y cc2 nL2 ret2 nA) (ho : lay o = (4, ci, fs)) (hC : ∃ T N, vwCl[ci]? = some (y.cls, T, N)) (hR : fr + 1 ≤ R.frames ∧ 8 + (nL2 + 11) + lo ≤ R.locals) (hn : as.length = nA) (hst : st = as.reverse ++ .ref (ad o) :: rest) (hcat : (rest.map fun v => v.category).sum ≤ 8)
    (hc : ∀ b, f = some b → CM l D cA ad A y cc2 nL2 ret2 fr lo (.ref (ad o) :: as) σ (cw b))
    (kk : ∀ b, V p l e R s m args below meth c D cA ad A nL k n Qf (kx b) (cw b).2 (pc + 3) lv ((cw b).1.toList ++ rest)) : V p l e R s m args below meth c D cA ad A nL k n Qf (f.bind kx) σ pc lv st := by
  intro a ha H locs ls hP hS hl
  obtain ⟨b, hf, hb0⟩ := Option.bind_eq_some_iff.mp ha
  obtain ⟨hx, hb, hml, hown, hts, hK, hD, hkn, hr, hlk, hN⟩ := id E
  obtain ⟨m1, m2, m3, m4, m5, m6, m7⟩ := hM
  obtain ⟨T9, N9, hci⟩ := hC
  have cw0 : CallW R s args own y.cls idx y cc2 nL2 ret2 (.code y cc2 nL2 ret2 :: GW) ({ frames := fr, cells := 0, slots := 0, locals := lo }) 0 0 nA := by
    refine ⟨⟨rfl, rfl, hR.1, hR.2, fun w hw => ?_, List.mem_cons_self, hts _ m5, hts _ m4, m6, fun sig h => ?_, hts _ m1⟩, hts _ m2, hts _ m3⟩
    · rcases List.mem_cons.mp hw with rfl | h
      · exact gw_word m5 hts
      · exact gw_word h hts
    · rw [h] at m7
      exact (Option.some.inj m7).symm
  exact V.back hS hl hb0 (va_runV (As := as) (rest := rest) ⟨hx, hb, hml, hown, hts⟩ (hc b hf) cw0 ⟨blind, va_recv hK hP hci (wl_of ho (by decide)), fun U hU hW => ⟨rfl, by rw [hU]; exact hP, va_K.moved hW.alike hK, NWs.warm hW hN⟩⟩ rfl hn hl.1 hst (by show 2 * 0 + _ ≤ 8; omega) hd ⟨hkn.1, hkn.2⟩) kk
theorem V.callS (E : Cx p R s m args meth c D cA ad A k n cc nL own ret) {Y : Type} {f : Option Y} {cw : Y → Option Value × Hp} {kx : Y → Option X} {y : MethodName} {cc2 : ByteArray} {nL2 idx nA fr lo : Nat} {ret2 : Option FieldType} {as rest : List Value} (hd : decode cc pc = .ok (.invokestatic idx, 3)) (hM : MLS own idx y cc2 nL2 ret2 nA) (hR : fr + 1 ≤ R.frames ∧ 8 + (nL2 + 11) + lo ≤ R.locals) (hn : as.length = nA) (hst : st = as.reverse ++ rest) (hcat : (rest.map fun v => v.category).sum ≤ 8)
    (hc : ∀ b, f = some b → CM l D cA ad A y cc2 nL2 ret2 fr lo as σ (cw b))
    (kk : ∀ b, V p l e R s m args below meth c D cA ad A nL k n Qf (kx b) (cw b).2 (pc + 3) lv ((cw b).1.toList ++ rest)) : V p l e R s m args below meth c D cA ad A nL k n Qf (f.bind kx) σ pc lv st := by
  intro a ha H locs ls hP hS hl
  obtain ⟨b, hf, hb0⟩ := Option.bind_eq_some_iff.mp ha
  obtain ⟨hx, hb, hml, hown, hts, hK, hD, hkn, hr, hlk, hN⟩ := id E
  obtain ⟨m1, m2, m4, m5, m6, m7⟩ := hM
  have cw0 : CallB R s args own idx y cc2 nL2 ret2 (.code y cc2 nL2 ret2 :: GW) ({ frames := fr, cells := 0, slots := 0, locals := lo }) 0 0 nA ∧ (Cond.static y).before args s = true := by
    refine ⟨⟨rfl, rfl, hR.1, hR.2, fun w hw => ?_, List.mem_cons_self, hts _ m5, hts _ m4, m6, fun sig h => ?_, hts _ m1⟩, hts _ m2⟩
    · rcases List.mem_cons.mp hw with rfl | h
      · exact gw_word m5 hts
      · exact gw_word h hts
    · rw [h] at m7
      exact (Option.some.inj m7).symm
  exact V.back hS hl hb0 (va_runS (As := as) (rest := rest) ⟨hx, hb, hml, hown, hts⟩ (hc b hf) cw0 ⟨blind, fun U hU hW => ⟨rfl, by rw [hU]; exact hP, va_K.moved hW.alike hK, NWs.warm hW hN⟩⟩ rfl hn hl.1 hst (by show 2 * 0 + _ ≤ 8; omega) hd ⟨hkn.1, hkn.2⟩) kk
/-- a method's contract out of its walk -/
theorem CM.of {cv : X → Option Value × Hp} {b : X} {y : MethodName} {cls : String} {fr lo : Nat} {as : List Value} (hG : ∀ σ, va_D A (wl cA ad σ)) (hxb : x = some b) (hcls : y.cls = cls) (hy : plainName y.cls = true) (hN : (lg_sl as).length ≤ nL)
    (body : ∀ (p : Program) (e : Env) (s : State) (m : MethodId) (args : Array Value) (below : List Frame) (meth : Method) (c : Code), Cx p ({ frames := fr, cells := 0, slots := 0, locals := lo }) s m args meth c D cA ad A 0 0 cc nL cls ret →
      V p l e ({ frames := fr, cells := 0, slots := 0, locals := lo }) s m args below meth c D cA ad A nL 0 0 (fun a : X => MQ below (QC D cA ad A (cv a)) args s 0 0 A) x σ 0 (lv_args 0 as) []) : CM l D cA ad A y cc nL ret fr lo as σ (cv b) := by
  refine Met.ofW (cc := cc) (maxL := nL) (ret := ret) hy rfl ?_
  intro p e s m args below meth c s₁ B hml hv
  obtain ⟨rfl, hP, hK, hNW⟩ := hv
  have hts := atoms_spec (ws := .code y cc nL ret :: GW) B.pre
  have hown : s.vm.findClass cls = some m.cls := by rw [← hcls]; exact findClass_of_methodNamed B.named
  have E : Cx p ({ frames := fr, cells := 0, slots := 0, locals := lo }) s m as.toArray meth c D cA ad A 0 0 cc nL cls ret := ⟨B.exec, B.bytes, hml, hown, fun w hw => hts w (List.mem_cons_of_mem _ hw), hK, hG, ⟨Nat.le_refl _, Nat.le_refl _⟩, B.returns, B.notSynchronized, hNW⟩
  have hl := lv_entry as (n := nL) hN
  rw [lg_entry_eq]
  exact body p e s m as.toArray below meth c E b hxb s.heap [] _ hP va_S.rf hl
theorem V.callSN (E : Cx p R s m args meth c D cA ad A k n cc nL own ret) {Y : Type} {f : Option Y} {cw : Y → Option Value × Hp} {kx : Y → Option X} {y : MethodName} {cc2 : ByteArray} {nL2 idx nA fr lo : Nat} {ret2 : Option FieldType} {as rest : List Value} (hd : decode cc pc = .ok (.invokestatic idx, 3)) (hl0 : va_Nw (.methodLinkNest own idx y RX8) s) (hM : Cond.static y ∈ GW ∧ Cond.initialized y.cls ∈ GW ∧ Cond.code y cc2 nL2 ret2 ∈ GW ∧ (y.cls ≠ "java/lang/invoke/MethodHandle" ∧ y.cls ≠ "java/lang/invoke/VarHandle") ∧ (parseMethodDescriptor y.desc).map (fun d => d.parameters.length) = some nA) (hR : fr + 1 ≤ R.frames ∧ 8 + (nL2 + 11) + lo ≤ R.locals) (hn : as.length = nA) (hst : st = as.reverse ++ rest) (hcat : (rest.map fun v => v.category).sum ≤ 8)
    (hc : ∀ b, f = some b → CM l D cA ad A y cc2 nL2 ret2 fr lo as σ (cw b))
    (kk : ∀ b, V p l e R s m args below meth c D cA ad A nL k n Qf (kx b) (cw b).2 (pc + 3) lv ((cw b).1.toList ++ rest)) : V p l e R s m args below meth c D cA ad A nL k n Qf (f.bind kx) σ pc lv st := by
  intro a ha H locs ls hP hS hl
  obtain ⟨b, hf, hb0⟩ := Option.bind_eq_some_iff.mp ha
  obtain ⟨hx, hb, hml, hown, hts, hK, hD, hkn, hr, hlk, hN⟩ := id E
  obtain ⟨m2, m4, m5, m6, m7⟩ := hM
  have cw0 : va_CN R s args own idx y RX8 cc2 nL2 ret2 (.code y cc2 nL2 ret2 :: GW) ({ frames := fr, cells := 0, slots := 0, locals := lo }) 0 0 nA ∧ (Cond.static y).before args s = true ∧ True := by
    refine ⟨⟨⟨rfl, rfl, hR.1, hR.2, fun w hw => ?_, List.mem_cons_self⟩, hts _ m5, hts _ m4, m6, fun sig h => ?_, va_Nw.use rfl hl0⟩, hts _ m2, trivial⟩
    · rcases List.mem_cons.mp hw with rfl | h
      · exact gw_word m5 hts
      · exact gw_word h hts
    · rw [h] at m7
      exact (Option.some.inj m7).symm
  exact V.back hS hl hb0 (va_runSN (As := as) (rest := rest) ⟨hx, hb, hml, hown, hts⟩ (hc b hf) cw0 ⟨blind, fun U hU hW => ⟨rfl, by rw [hU]; exact hP, va_K.moved hW.alike hK, NWs.warm hW hN⟩⟩ rfl hn hl.1 hst (by show 2 * 0 + _ ≤ 8; omega) hd ⟨hkn.1, hkn.2⟩) kk
theorem V.callV_i (E : Cx p R s m args meth c D cA ad A k n cc nL own ret) {f : Option Int32} {kx : Int32 → Option X} {y : MethodName} {cc2 : ByteArray} {nL2 idx nA fr lo o ci : Nat} {fs : List Nat} {ret2 : Option FieldType} {as rest : List Value} (hd : decode cc pc = .ok (.invokevirtual idx, 3)) (hM : MLV own idx y cc2 nL2 ret2 nA) (ho : lay o = (4, ci, fs)) (hC : ∃ T N, vwCl[ci]? = some (y.cls, T, N)) (hR : fr + 1 ≤ R.frames ∧ 8 + (nL2 + 11) + lo ≤ R.locals) (hn : as.length = nA) (hst : st = as.reverse ++ .ref (ad o) :: rest) (hcat : (rest.map fun v => v.category).sum ≤ 8) (hc : ∀ b, f = some b → CM l D cA ad A y cc2 nL2 ret2 fr lo (.ref (ad o) :: as) σ ((fun r : Int32 => (some (.int r), σ)) b)) (kk : ∀ r : Int32, V p l e R s m args below meth c D cA ad A nL k n Qf (kx r) σ (pc + 3) lv (.int r :: rest)) : V p l e R s m args below meth c D cA ad A nL k n Qf (f.bind kx) σ pc lv st := V.callV (cw := (fun r : Int32 => (some (.int r), σ))) E hd hM ho hC hR hn hst hcat hc kk
theorem V.callV_q (E : Cx p R s m args meth c D cA ad A k n cc nL own ret) {f : Option (Int32 × Hp)} {kx : Int32 → Hp → Option X} {y : MethodName} {cc2 : ByteArray} {nL2 idx nA fr lo o ci : Nat} {fs : List Nat} {ret2 : Option FieldType} {as rest : List Value} (hd : decode cc pc = .ok (.invokevirtual idx, 3)) (hM : MLV own idx y cc2 nL2 ret2 nA) (ho : lay o = (4, ci, fs)) (hC : ∃ T N, vwCl[ci]? = some (y.cls, T, N)) (hR : fr + 1 ≤ R.frames ∧ 8 + (nL2 + 11) + lo ≤ R.locals) (hn : as.length = nA) (hst : st = as.reverse ++ .ref (ad o) :: rest) (hcat : (rest.map fun v => v.category).sum ≤ 8) (hc : ∀ b, f = some b → CM l D cA ad A y cc2 nL2 ret2 fr lo (.ref (ad o) :: as) σ ((fun q : Int32 × Hp => (some (.int q.1), q.2)) b)) (kk : ∀ (r : Int32) (σ : Hp), V p l e R s m args below meth c D cA ad A nL k n Qf (kx r σ) σ (pc + 3) lv (.int r :: rest)) : V p l e R s m args below meth c D cA ad A nL k n Qf (bq f kx) σ pc lv st := V.callV (kx := fun q => kx q.1 q.2) (cw := (fun q : Int32 × Hp => (some (.int q.1), q.2))) E hd hM ho hC hR hn hst hcat hc (fun b => kk b.1 b.2)
theorem V.callV_v (E : Cx p R s m args meth c D cA ad A k n cc nL own ret) {f : Option Hp} {kx : Hp → Option X} {y : MethodName} {cc2 : ByteArray} {nL2 idx nA fr lo o ci : Nat} {fs : List Nat} {ret2 : Option FieldType} {as rest : List Value} (hd : decode cc pc = .ok (.invokevirtual idx, 3)) (hM : MLV own idx y cc2 nL2 ret2 nA) (ho : lay o = (4, ci, fs)) (hC : ∃ T N, vwCl[ci]? = some (y.cls, T, N)) (hR : fr + 1 ≤ R.frames ∧ 8 + (nL2 + 11) + lo ≤ R.locals) (hn : as.length = nA) (hst : st = as.reverse ++ .ref (ad o) :: rest) (hcat : (rest.map fun v => v.category).sum ≤ 8) (hc : ∀ b, f = some b → CM l D cA ad A y cc2 nL2 ret2 fr lo (.ref (ad o) :: as) σ ((fun q : Hp => (Option.none, q)) b)) (kk : ∀ σ : Hp, V p l e R s m args below meth c D cA ad A nL k n Qf (kx σ) σ (pc + 3) lv rest) : V p l e R s m args below meth c D cA ad A nL k n Qf (f.bind kx) σ pc lv st := V.callV (cw := (fun q : Hp => (Option.none, q))) E hd hM ho hC hR hn hst hcat hc kk
theorem V.callV_r (E : Cx p R s m args meth c D cA ad A k n cc nL own ret) {f : Option Hp} {kx : Hp → Option X} {y : MethodName} {cc2 : ByteArray} {ra nL2 idx nA fr lo o ci : Nat} {fs : List Nat} {ret2 : Option FieldType} {as rest : List Value} (hd : decode cc pc = .ok (.invokevirtual idx, 3)) (hM : MLV own idx y cc2 nL2 ret2 nA) (ho : lay o = (4, ci, fs)) (hC : ∃ T N, vwCl[ci]? = some (y.cls, T, N)) (hR : fr + 1 ≤ R.frames ∧ 8 + (nL2 + 11) + lo ≤ R.locals) (hn : as.length = nA) (hst : st = as.reverse ++ .ref (ad o) :: rest) (hcat : (rest.map fun v => v.category).sum ≤ 8) (hc : ∀ b, f = some b → CM l D cA ad A y cc2 nL2 ret2 fr lo (.ref (ad o) :: as) σ ((fun q : Hp => (some (.ref ra), q)) b)) (kk : ∀ σ : Hp, V p l e R s m args below meth c D cA ad A nL k n Qf (kx σ) σ (pc + 3) lv (.ref ra :: rest)) : V p l e R s m args below meth c D cA ad A nL k n Qf (f.bind kx) σ pc lv st := V.callV (cw := (fun q : Hp => (some (.ref ra), q))) E hd hM ho hC hR hn hst hcat hc kk
theorem V.callS_i (E : Cx p R s m args meth c D cA ad A k n cc nL own ret) {f : Option Int32} {kx : Int32 → Option X} {y : MethodName} {cc2 : ByteArray} {nL2 idx nA fr lo : Nat} {ret2 : Option FieldType} {as rest : List Value} (hd : decode cc pc = .ok (.invokestatic idx, 3)) (hM : MLS own idx y cc2 nL2 ret2 nA) (hR : fr + 1 ≤ R.frames ∧ 8 + (nL2 + 11) + lo ≤ R.locals) (hn : as.length = nA) (hst : st = as.reverse ++ rest) (hcat : (rest.map fun v => v.category).sum ≤ 8) (hc : ∀ b, f = some b → CM l D cA ad A y cc2 nL2 ret2 fr lo as σ ((fun r : Int32 => (some (.int r), σ)) b)) (kk : ∀ r : Int32, V p l e R s m args below meth c D cA ad A nL k n Qf (kx r) σ (pc + 3) lv (.int r :: rest)) : V p l e R s m args below meth c D cA ad A nL k n Qf (f.bind kx) σ pc lv st := V.callS (cw := (fun r : Int32 => (some (.int r), σ))) E hd hM hR hn hst hcat hc kk
theorem V.callS_q (E : Cx p R s m args meth c D cA ad A k n cc nL own ret) {f : Option (Int32 × Hp)} {kx : Int32 → Hp → Option X} {y : MethodName} {cc2 : ByteArray} {nL2 idx nA fr lo : Nat} {ret2 : Option FieldType} {as rest : List Value} (hd : decode cc pc = .ok (.invokestatic idx, 3)) (hM : MLS own idx y cc2 nL2 ret2 nA) (hR : fr + 1 ≤ R.frames ∧ 8 + (nL2 + 11) + lo ≤ R.locals) (hn : as.length = nA) (hst : st = as.reverse ++ rest) (hcat : (rest.map fun v => v.category).sum ≤ 8) (hc : ∀ b, f = some b → CM l D cA ad A y cc2 nL2 ret2 fr lo as σ ((fun q : Int32 × Hp => (some (.int q.1), q.2)) b)) (kk : ∀ (r : Int32) (σ : Hp), V p l e R s m args below meth c D cA ad A nL k n Qf (kx r σ) σ (pc + 3) lv (.int r :: rest)) : V p l e R s m args below meth c D cA ad A nL k n Qf (bq f kx) σ pc lv st := V.callS (kx := fun q => kx q.1 q.2) (cw := (fun q : Int32 × Hp => (some (.int q.1), q.2))) E hd hM hR hn hst hcat hc (fun b => kk b.1 b.2)
theorem V.callS_v (E : Cx p R s m args meth c D cA ad A k n cc nL own ret) {f : Option Hp} {kx : Hp → Option X} {y : MethodName} {cc2 : ByteArray} {nL2 idx nA fr lo : Nat} {ret2 : Option FieldType} {as rest : List Value} (hd : decode cc pc = .ok (.invokestatic idx, 3)) (hM : MLS own idx y cc2 nL2 ret2 nA) (hR : fr + 1 ≤ R.frames ∧ 8 + (nL2 + 11) + lo ≤ R.locals) (hn : as.length = nA) (hst : st = as.reverse ++ rest) (hcat : (rest.map fun v => v.category).sum ≤ 8) (hc : ∀ b, f = some b → CM l D cA ad A y cc2 nL2 ret2 fr lo as σ ((fun q : Hp => (Option.none, q)) b)) (kk : ∀ σ : Hp, V p l e R s m args below meth c D cA ad A nL k n Qf (kx σ) σ (pc + 3) lv rest) : V p l e R s m args below meth c D cA ad A nL k n Qf (f.bind kx) σ pc lv st := V.callS (cw := (fun q : Hp => (Option.none, q))) E hd hM hR hn hst hcat hc kk
theorem V.callS_r (E : Cx p R s m args meth c D cA ad A k n cc nL own ret) {f : Option Hp} {kx : Hp → Option X} {y : MethodName} {cc2 : ByteArray} {ra nL2 idx nA fr lo : Nat} {ret2 : Option FieldType} {as rest : List Value} (hd : decode cc pc = .ok (.invokestatic idx, 3)) (hM : MLS own idx y cc2 nL2 ret2 nA) (hR : fr + 1 ≤ R.frames ∧ 8 + (nL2 + 11) + lo ≤ R.locals) (hn : as.length = nA) (hst : st = as.reverse ++ rest) (hcat : (rest.map fun v => v.category).sum ≤ 8) (hc : ∀ b, f = some b → CM l D cA ad A y cc2 nL2 ret2 fr lo as σ ((fun q : Hp => (some (.ref ra), q)) b)) (kk : ∀ σ : Hp, V p l e R s m args below meth c D cA ad A nL k n Qf (kx σ) σ (pc + 3) lv (.ref ra :: rest)) : V p l e R s m args below meth c D cA ad A nL k n Qf (f.bind kx) σ pc lv st := V.callS (cw := (fun q : Hp => (some (.ref ra), q))) E hd hM hR hn hst hcat hc kk
theorem V.callSN_i (E : Cx p R s m args meth c D cA ad A k n cc nL own ret) {f : Option Int32} {kx : Int32 → Option X} {y : MethodName} {cc2 : ByteArray} {nL2 idx nA fr lo : Nat} {ret2 : Option FieldType} {as rest : List Value} (hd : decode cc pc = .ok (.invokestatic idx, 3)) (hl0 : va_Nw (.methodLinkNest own idx y RX8) s) (hM : Cond.static y ∈ GW ∧ Cond.initialized y.cls ∈ GW ∧ Cond.code y cc2 nL2 ret2 ∈ GW ∧ (y.cls ≠ "java/lang/invoke/MethodHandle" ∧ y.cls ≠ "java/lang/invoke/VarHandle") ∧ (parseMethodDescriptor y.desc).map (fun d => d.parameters.length) = some nA) (hR : fr + 1 ≤ R.frames ∧ 8 + (nL2 + 11) + lo ≤ R.locals) (hn : as.length = nA) (hst : st = as.reverse ++ rest) (hcat : (rest.map fun v => v.category).sum ≤ 8) (hc : ∀ b, f = some b → CM l D cA ad A y cc2 nL2 ret2 fr lo as σ ((fun r : Int32 => (some (.int r), σ)) b)) (kk : ∀ r : Int32, V p l e R s m args below meth c D cA ad A nL k n Qf (kx r) σ (pc + 3) lv (.int r :: rest)) : V p l e R s m args below meth c D cA ad A nL k n Qf (f.bind kx) σ pc lv st := V.callSN (cw := (fun r : Int32 => (some (.int r), σ))) E hd hl0 hM hR hn hst hcat hc kk
theorem V.callSN_q (E : Cx p R s m args meth c D cA ad A k n cc nL own ret) {f : Option (Int32 × Hp)} {kx : Int32 → Hp → Option X} {y : MethodName} {cc2 : ByteArray} {nL2 idx nA fr lo : Nat} {ret2 : Option FieldType} {as rest : List Value} (hd : decode cc pc = .ok (.invokestatic idx, 3)) (hl0 : va_Nw (.methodLinkNest own idx y RX8) s) (hM : Cond.static y ∈ GW ∧ Cond.initialized y.cls ∈ GW ∧ Cond.code y cc2 nL2 ret2 ∈ GW ∧ (y.cls ≠ "java/lang/invoke/MethodHandle" ∧ y.cls ≠ "java/lang/invoke/VarHandle") ∧ (parseMethodDescriptor y.desc).map (fun d => d.parameters.length) = some nA) (hR : fr + 1 ≤ R.frames ∧ 8 + (nL2 + 11) + lo ≤ R.locals) (hn : as.length = nA) (hst : st = as.reverse ++ rest) (hcat : (rest.map fun v => v.category).sum ≤ 8) (hc : ∀ b, f = some b → CM l D cA ad A y cc2 nL2 ret2 fr lo as σ ((fun q : Int32 × Hp => (some (.int q.1), q.2)) b)) (kk : ∀ (r : Int32) (σ : Hp), V p l e R s m args below meth c D cA ad A nL k n Qf (kx r σ) σ (pc + 3) lv (.int r :: rest)) : V p l e R s m args below meth c D cA ad A nL k n Qf (bq f kx) σ pc lv st := V.callSN (kx := fun q => kx q.1 q.2) (cw := (fun q : Int32 × Hp => (some (.int q.1), q.2))) E hd hl0 hM hR hn hst hcat hc (fun b => kk b.1 b.2)
theorem V.callSN_v (E : Cx p R s m args meth c D cA ad A k n cc nL own ret) {f : Option Hp} {kx : Hp → Option X} {y : MethodName} {cc2 : ByteArray} {nL2 idx nA fr lo : Nat} {ret2 : Option FieldType} {as rest : List Value} (hd : decode cc pc = .ok (.invokestatic idx, 3)) (hl0 : va_Nw (.methodLinkNest own idx y RX8) s) (hM : Cond.static y ∈ GW ∧ Cond.initialized y.cls ∈ GW ∧ Cond.code y cc2 nL2 ret2 ∈ GW ∧ (y.cls ≠ "java/lang/invoke/MethodHandle" ∧ y.cls ≠ "java/lang/invoke/VarHandle") ∧ (parseMethodDescriptor y.desc).map (fun d => d.parameters.length) = some nA) (hR : fr + 1 ≤ R.frames ∧ 8 + (nL2 + 11) + lo ≤ R.locals) (hn : as.length = nA) (hst : st = as.reverse ++ rest) (hcat : (rest.map fun v => v.category).sum ≤ 8) (hc : ∀ b, f = some b → CM l D cA ad A y cc2 nL2 ret2 fr lo as σ ((fun q : Hp => (Option.none, q)) b)) (kk : ∀ σ : Hp, V p l e R s m args below meth c D cA ad A nL k n Qf (kx σ) σ (pc + 3) lv rest) : V p l e R s m args below meth c D cA ad A nL k n Qf (f.bind kx) σ pc lv st := V.callSN (cw := (fun q : Hp => (Option.none, q))) E hd hl0 hM hR hn hst hcat hc kk
theorem V.callSN_r (E : Cx p R s m args meth c D cA ad A k n cc nL own ret) {f : Option Hp} {kx : Hp → Option X} {y : MethodName} {cc2 : ByteArray} {ra nL2 idx nA fr lo : Nat} {ret2 : Option FieldType} {as rest : List Value} (hd : decode cc pc = .ok (.invokestatic idx, 3)) (hl0 : va_Nw (.methodLinkNest own idx y RX8) s) (hM : Cond.static y ∈ GW ∧ Cond.initialized y.cls ∈ GW ∧ Cond.code y cc2 nL2 ret2 ∈ GW ∧ (y.cls ≠ "java/lang/invoke/MethodHandle" ∧ y.cls ≠ "java/lang/invoke/VarHandle") ∧ (parseMethodDescriptor y.desc).map (fun d => d.parameters.length) = some nA) (hR : fr + 1 ≤ R.frames ∧ 8 + (nL2 + 11) + lo ≤ R.locals) (hn : as.length = nA) (hst : st = as.reverse ++ rest) (hcat : (rest.map fun v => v.category).sum ≤ 8) (hc : ∀ b, f = some b → CM l D cA ad A y cc2 nL2 ret2 fr lo as σ ((fun q : Hp => (some (.ref ra), q)) b)) (kk : ∀ σ : Hp, V p l e R s m args below meth c D cA ad A nL k n Qf (kx σ) σ (pc + 3) lv (.ref ra :: rest)) : V p l e R s m args below meth c D cA ad A nL k n Qf (f.bind kx) σ pc lv st := V.callSN (cw := (fun q : Hp => (some (.ref ra), q))) E hd hl0 hM hR hn hst hcat hc kk
theorem V.sld (E : Cx p R s m args meth c D cA ad A k n cc nL own ret) {b L : Nat} {xs : Nat → Int32} (hX : va_X b L xs s s.heap) (hbl : b < s.heap.size) (hbA : ¬ A b) {i : Int32} (hd : decode cc pc = .ok (.iaload, 1)) (hi : vp_in i L) (kk : V p l e R s m args below meth c D cA ad A nL k n Qf x σ (pc + 1) lv (.int (xs i.toNatClampNeg) :: st)) : V p l e R s m args below meth c D cA ad A nL k n Qf x σ pc lv (.int i :: .ref b :: st) := by
  intro a ha H locs ls hP hS hl
  obtain ⟨hx, hb, hml, hown, hts, hK, hD, hkn, hr, hlk, hN⟩ := E
  exact va_sld hx hb hX hbl hbA hS hi hd (kk a ha H locs ls hP hS hl)
theorem V.slen (E : Cx p R s m args meth c D cA ad A k n cc nL own ret) {b L : Nat} {xs : Nat → Int32} (hX : va_X b L xs s s.heap) (hbl : b < s.heap.size) (hbA : ¬ A b) (hd : decode cc pc = .ok (.arraylength, 1)) (kk : V p l e R s m args below meth c D cA ad A nL k n Qf x σ (pc + 1) lv (.int (Int32.ofNat L) :: st)) : V p l e R s m args below meth c D cA ad A nL k n Qf x σ pc lv (.ref b :: st) := by
  intro a ha H locs ls hP hS hl
  obtain ⟨hx, hb, hml, hown, hts, hK, hD, hkn, hr, hlk, hN⟩ := E
  exact va_slen hx hb hX hbl hbA hS hd (kk a ha H locs ls hP hS hl)
/-- cuts: a tail that several roads come to; a world with a name -/
def letJ {α β : Type} (t : α) (b : α → β) : β := b t
def letS {β : Type} (σ : Hp) (b : Hp → β) : β := b σ
theorem V.letS {b : Hp → Option X} (kk : ∀ τ : Hp, V p l e R s m args below meth c D cA ad A nL k n Qf (b τ) τ pc lv st) : V p l e R s m args below meth c D cA ad A nL k n Qf (letS σ b) σ pc lv st := kk σ
theorem V.letJ {α : Type} {t : α} {b : α → Option X} {G : α → Prop} (ht : G t) (kk : ∀ j : α, G j → V p l e R s m args below meth c D cA ad A nL k n Qf (b j) σ pc lv st) : V p l e R s m args below meth c D cA ad A nL k n Qf (letJ t b) σ pc lv st := kk t ht
def inb (i : Int32) (z : Nat) : Bool := decide (¬ (i < 0 ∨ z ≤ i.toNatClampNeg))
theorem inb_vp {i : Int32} {z : Nat} (h : inb i z = true) : vp_in i z := by
  unfold vp_in
  simpa only [inb, decide_eq_true_eq] using h
theorem inb_lt {i : Int32} {z : Nat} (h : inb i z = true) : i.toNatClampNeg < z := Nat.not_le.mp fun q => (inb_vp h) (Or.inr q)
def isb (r : Int32) : Bool := decide (r = 0) || decide (r = 1)
theorem isb_n {r : Int32} (h : isb r = true) : narrow .boolean (.int r) = .int r := by
  simp only [isb, Bool.or_eq_true, decide_eq_true_eq] at h
  rcases h with rfl | rfl <;> rfl
theorem isb_v {r : Int32} (h : isb r = true) : vp_nar .boolean r = r := by
  simp only [isb, Bool.or_eq_true, decide_eq_true_eq] at h
  rcases h with rfl | rfl <;> rfl
def acg (sp dp nn : Int32) (z1 z2 : Nat) : Bool := decide (¬ sp < 0 ∧ ¬ dp < 0 ∧ ¬ nn < 0 ∧ sp.toNatClampNeg + nn.toNatClampNeg ≤ z1 ∧ dp.toNatClampNeg + nn.toNatClampNeg ≤ z2)
theorem acg_of {sp dp nn : Int32} {z1 z2 : Nat} (h : acg sp dp nn z1 z2 = true) : ¬ sp < 0 ∧ ¬ dp < 0 ∧ ¬ nn < 0 ∧ sp.toNatClampNeg + nn.toNatClampNeg ≤ z1 ∧ dp.toNatClampNeg + nn.toNatClampNeg ≤ z2 := of_decide_eq_true h
def FU : Nat := 4000
theorem V.ifz {g : Prop} {hg : Decidable g} (kf : ¬ g → V p l e R s m args below meth c D cA ad A nL k n Qf x σ pc lv st) : V p l e R s m args below meth c D cA ad A nL k n Qf (if g then Option.none else x) σ pc lv st := by
  by_cases q : g
  · rw [if_pos q]; exact V.none
  · rw [if_neg q]; exact kf q
theorem tsw_ne {x : Int32} {i : Int} (h : ¬ x = Int32.ofInt i) (h1 : -2 ^ 31 ≤ i) (h2 : i < 2 ^ 31) : ¬ x.toInt = i := fun q => h (by rw [← q, Int32.ofInt_toInt])
theorem V.iinc1 (E : Cx p R s m args meth c D cA ad A k n cc nL own ret) {i : Nat} {b : Int32} {lv2 : List (Nat × Value)} (hd : decode cc pc = .ok (.iinc i 1, 3)) (j : Nat) (hj : lv[j]? = some (i, .int b)) (hn : i < nL) (hl2 : (i, Value.int (b + 1)) :: lv.filter (fun q => !(q.1 == i) && !(q.1 + 1 == i && q.2.category == 2)) = lv2) (kk : V p l e R s m args below meth c D cA ad A nL k n Qf x σ (pc + 3) lv2 st) : V p l e R s m args below meth c D cA ad A nL k n Qf x σ pc lv st := V.iinc E hd j hj rfl hn hl2 kk
theorem lay_rows : ∀ k, k < 8 → lay (3 + 1 * k) = (0, 40, []) := by decide +kernel
def isV (v : Nat) : Prop := lay v = (4, 7, [v + 2, v + 3, v + 4, v + 5, v + 6, 0, 0, 0]) ∧ lay (v + 1) = (0, 6, []) ∧ lay (v + 2) = (0, 6, []) ∧ lay (v + 3) = (0, 6, []) ∧ lay (v + 4) = (0, 6, []) ∧ lay (v + 5) = (0, 36, [])
theorem isV_16 : isV 16 := by unfold isV; decide +kernel
theorem isV_22 : isV 22 := by unfold isV; decide +kernel
theorem isV_180 : isV 180 := by unfold isV; decide +kernel
theorem isV_acts : ∀ k, k < 24 → isV (33 + 6 * k) := by unfold isV; decide +kernel
theorem isV_img : ∀ k, k < 2 → isV (191 + 6 * k) := by unfold isV; decide +kernel
theorem Cx.nest1 (E : Cx p R s m args meth c D cA ad A k n cc nL own ret) : va_Nw (.methodLinkNest RX2 59 yX8_isOfKind RX8) s := E.2.2.2.2.2.2.2.2.2.2.1
theorem Cx.nest2 (E : Cx p R s m args meth c D cA ad A k n cc nL own ret) : va_Nw (.methodLinkNest RX2 63 yX8_price RX8) s := E.2.2.2.2.2.2.2.2.2.2.2.1
theorem Cx.nest3 (E : Cx p R s m args meth c D cA ad A k n cc nL own ret) : va_Nw (.methodLinkNest RX3 88 yX8_power RX8) s := E.2.2.2.2.2.2.2.2.2.2.2.2.1
theorem Cx.nest4 (E : Cx p R s m args meth c D cA ad A k n cc nL own ret) : va_Nw (.methodLinkNest RX1 24 yX8_isOfKind RX8) s := E.2.2.2.2.2.2.2.2.2.2.2.2.2
abbrev RM (fr lo : Nat) : Room := { frames := fr, cells := 0, slots := 0, locals := lo }
end VV

