/-! 03g.shapes: printed by wip/whole/prog/codes.py -/
theorem sk_1 (L : Nat) : mcSk L 1 = some (.inr 9) := rfl
theorem sk_2 (L : Nat) : mcSk L 2 = some (.inl (4, 4)) := rfl
theorem sk_3 (L : Nat) : mcSk L 3 = some (.inr 0) := rfl
theorem sk_4 (L : Nat) : mcSk L 4 = some (.inl (0, 300)) := rfl
theorem sk_5 (L : Nat) : mcSk L 5 = some (.inl (0, 300)) := rfl
theorem sk_6 (L : Nat) : mcSk L 6 = some (.inl (0, 300)) := rfl
theorem sk_7 (L : Nat) : mcSk L 7 = some (.inl (0, 300)) := rfl
theorem sk_8 (L : Nat) : mcSk L 8 = some (.inl (0, 300)) := rfl
theorem sk_9 (L : Nat) : mcSk L 9 = some (.inl (0, 6000)) := rfl
theorem sk_10 (L : Nat) : mcSk L 10 = some (.inr 6) := rfl
theorem sk_11 (L : Nat) : mcSk L 11 = some (.inr 5) := rfl
theorem sk_12 (L : Nat) : mcSk L 12 = some (.inr 4) := rfl
theorem sk_13 (L : Nat) : mcSk L 13 = some (.inr 1) := rfl
theorem sk_14 (L : Nat) : mcSk L 14 = some (.inl (0, 32)) := rfl
theorem sk_15 (L : Nat) : mcSk L 15 = some (.inl (0, 32)) := rfl
theorem sk_16 (L : Nat) : mcSk L 16 = some (.inl (0, 32)) := rfl
theorem sk_17 (L : Nat) : mcSk L 17 = some (.inl (0, 32)) := rfl
theorem sk_18 (L : Nat) : mcSk L 18 = some (.inl (0, 2048)) := rfl
theorem sk_19 (L : Nat) : mcSk L 19 = some (.inr 2) := rfl
theorem sk_20 (L : Nat) : mcSk L 20 = some (.inl (1, 128)) := rfl
theorem sk_21 (L : Nat) : mcSk L 21 = some (.inl (1, 128)) := rfl
theorem sk_22 (L : Nat) : mcSk L 22 = some (.inl (1, 128)) := rfl
theorem sk_23 (L : Nat) : mcSk L 23 = some (.inl (1, 128)) := rfl
theorem sk_24 (L : Nat) : mcSk L 24 = some (.inl (0, 4)) := rfl
theorem sk_25 (L : Nat) : mcSk L 25 = some (.inl (0, 32)) := rfl
theorem sk_26 (L : Nat) : mcSk L 26 = some (.inl (0, 4)) := rfl
theorem sk_27 (L : Nat) : mcSk L 27 = some (.inl (0, 12)) := rfl
theorem sk_28 (L : Nat) : mcSk L 28 = some (.inl (5, 12)) := rfl
theorem sk_29 (L : Nat) : mcSk L 29 = some (.inr 3) := rfl
theorem sk_30 (L : Nat) : mcSk L 30 = some (.inl (0, 4)) := rfl
theorem sk_31 (L : Nat) : mcSk L 31 = some (.inl (0, 4)) := rfl
theorem sk_32 (L : Nat) : mcSk L 32 = some (.inr 3) := rfl
theorem sk_33 (L : Nat) : mcSk L 33 = some (.inl (0, 4)) := rfl
theorem sk_34 (L : Nat) : mcSk L 34 = some (.inl (0, 4)) := rfl
theorem sk_35 (L : Nat) : mcSk L 35 = some (.inr 3) := rfl
theorem sk_36 (L : Nat) : mcSk L 36 = some (.inl (0, 4)) := rfl
theorem sk_37 (L : Nat) : mcSk L 37 = some (.inl (0, 4)) := rfl
theorem sk_38 (L : Nat) : mcSk L 38 = some (.inr 3) := rfl
theorem sk_39 (L : Nat) : mcSk L 39 = some (.inl (0, 4)) := rfl
theorem sk_40 (L : Nat) : mcSk L 40 = some (.inl (0, 4)) := rfl
theorem sk_41 (L : Nat) : mcSk L 41 = some (.inr 3) := rfl
theorem sk_42 (L : Nat) : mcSk L 42 = some (.inl (0, 4)) := rfl
theorem sk_43 (L : Nat) : mcSk L 43 = some (.inl (0, 4)) := rfl
theorem sk_44 (L : Nat) : mcSk L 44 = some (.inr 3) := rfl
theorem sk_45 (L : Nat) : mcSk L 45 = some (.inl (0, 4)) := rfl
theorem sk_46 (L : Nat) : mcSk L 46 = some (.inl (0, 4)) := rfl
theorem sk_47 (L : Nat) : mcSk L 47 = some (.inr 3) := rfl
theorem sk_48 (L : Nat) : mcSk L 48 = some (.inl (0, 4)) := rfl
theorem sk_49 (L : Nat) : mcSk L 49 = some (.inl (0, 4)) := rfl
theorem sk_50 (L : Nat) : mcSk L 50 = some (.inr 3) := rfl
theorem sk_51 (L : Nat) : mcSk L 51 = some (.inl (0, 4)) := rfl
theorem sk_52 (L : Nat) : mcSk L 52 = some (.inl (0, 4)) := rfl
theorem sk_53 (L : Nat) : mcSk L 53 = some (.inr 3) := rfl
theorem sk_54 (L : Nat) : mcSk L 54 = some (.inl (0, 4)) := rfl
theorem sk_55 (L : Nat) : mcSk L 55 = some (.inl (0, 4)) := rfl
theorem sk_56 (L : Nat) : mcSk L 56 = some (.inr 3) := rfl
theorem sk_57 (L : Nat) : mcSk L 57 = some (.inl (0, 4)) := rfl
theorem sk_58 (L : Nat) : mcSk L 58 = some (.inl (0, 4)) := rfl
theorem sk_59 (L : Nat) : mcSk L 59 = some (.inr 3) := rfl
theorem sk_60 (L : Nat) : mcSk L 60 = some (.inl (0, 4)) := rfl
theorem sk_61 (L : Nat) : mcSk L 61 = some (.inl (0, 4)) := rfl
theorem sk_62 (L : Nat) : mcSk L 62 = some (.inr 3) := rfl
theorem sk_63 (L : Nat) : mcSk L 63 = some (.inl (0, 4)) := rfl
theorem sk_64 (L : Nat) : mcSk L 64 = some (.inl (0, 4)) := rfl
theorem sk_65 (L : Nat) : mcSk L 65 = some (.inr 4) := rfl
theorem sk_66 (L : Nat) : mcSk L 66 = some (.inr 1) := rfl
theorem sk_67 (L : Nat) : mcSk L 67 = some (.inl (0, 32)) := rfl
theorem sk_68 (L : Nat) : mcSk L 68 = some (.inl (0, 32)) := rfl
theorem sk_69 (L : Nat) : mcSk L 69 = some (.inl (0, 32)) := rfl
theorem sk_70 (L : Nat) : mcSk L 70 = some (.inl (0, 32)) := rfl
theorem sk_71 (L : Nat) : mcSk L 71 = some (.inl (0, 2048)) := rfl
theorem sk_72 (L : Nat) : mcSk L 72 = some (.inr 2) := rfl
theorem sk_73 (L : Nat) : mcSk L 73 = some (.inl (1, 128)) := rfl
theorem sk_74 (L : Nat) : mcSk L 74 = some (.inl (1, 128)) := rfl
theorem sk_75 (L : Nat) : mcSk L 75 = some (.inl (1, 128)) := rfl
theorem sk_76 (L : Nat) : mcSk L 76 = some (.inl (1, 128)) := rfl
theorem sk_77 (L : Nat) : mcSk L 77 = some (.inl (0, 4)) := rfl
theorem sk_78 (L : Nat) : mcSk L 78 = some (.inl (0, 32)) := rfl
theorem sk_79 (L : Nat) : mcSk L 79 = some (.inl (0, 4)) := rfl
theorem sk_80 (L : Nat) : mcSk L 80 = some (.inl (0, 12)) := rfl
theorem sk_81 (L : Nat) : mcSk L 81 = some (.inl (5, 12)) := rfl
theorem sk_82 (L : Nat) : mcSk L 82 = some (.inr 3) := rfl
theorem sk_83 (L : Nat) : mcSk L 83 = some (.inl (0, 4)) := rfl
theorem sk_84 (L : Nat) : mcSk L 84 = some (.inl (0, 4)) := rfl
theorem sk_85 (L : Nat) : mcSk L 85 = some (.inr 3) := rfl
theorem sk_86 (L : Nat) : mcSk L 86 = some (.inl (0, 4)) := rfl
theorem sk_87 (L : Nat) : mcSk L 87 = some (.inl (0, 4)) := rfl
theorem sk_88 (L : Nat) : mcSk L 88 = some (.inr 3) := rfl
theorem sk_89 (L : Nat) : mcSk L 89 = some (.inl (0, 4)) := rfl
theorem sk_90 (L : Nat) : mcSk L 90 = some (.inl (0, 4)) := rfl
theorem sk_91 (L : Nat) : mcSk L 91 = some (.inr 3) := rfl
theorem sk_92 (L : Nat) : mcSk L 92 = some (.inl (0, 4)) := rfl
theorem sk_93 (L : Nat) : mcSk L 93 = some (.inl (0, 4)) := rfl
theorem sk_94 (L : Nat) : mcSk L 94 = some (.inr 3) := rfl
theorem sk_95 (L : Nat) : mcSk L 95 = some (.inl (0, 4)) := rfl
theorem sk_96 (L : Nat) : mcSk L 96 = some (.inl (0, 4)) := rfl
theorem sk_97 (L : Nat) : mcSk L 97 = some (.inr 3) := rfl
theorem sk_98 (L : Nat) : mcSk L 98 = some (.inl (0, 4)) := rfl
theorem sk_99 (L : Nat) : mcSk L 99 = some (.inl (0, 4)) := rfl
theorem sk_100 (L : Nat) : mcSk L 100 = some (.inr 3) := rfl
theorem sk_101 (L : Nat) : mcSk L 101 = some (.inl (0, 4)) := rfl
theorem sk_102 (L : Nat) : mcSk L 102 = some (.inl (0, 4)) := rfl
theorem sk_103 (L : Nat) : mcSk L 103 = some (.inr 3) := rfl
theorem sk_104 (L : Nat) : mcSk L 104 = some (.inl (0, 4)) := rfl
theorem sk_105 (L : Nat) : mcSk L 105 = some (.inl (0, 4)) := rfl
theorem sk_106 (L : Nat) : mcSk L 106 = some (.inr 3) := rfl
theorem sk_107 (L : Nat) : mcSk L 107 = some (.inl (0, 4)) := rfl
theorem sk_108 (L : Nat) : mcSk L 108 = some (.inl (0, 4)) := rfl
theorem sk_109 (L : Nat) : mcSk L 109 = some (.inr 3) := rfl
theorem sk_110 (L : Nat) : mcSk L 110 = some (.inl (0, 4)) := rfl
theorem sk_111 (L : Nat) : mcSk L 111 = some (.inl (0, 4)) := rfl
theorem sk_112 (L : Nat) : mcSk L 112 = some (.inr 3) := rfl
theorem sk_113 (L : Nat) : mcSk L 113 = some (.inl (0, 4)) := rfl
theorem sk_114 (L : Nat) : mcSk L 114 = some (.inl (0, 4)) := rfl
theorem sk_115 (L : Nat) : mcSk L 115 = some (.inr 3) := rfl
theorem sk_116 (L : Nat) : mcSk L 116 = some (.inl (0, 4)) := rfl
theorem sk_117 (L : Nat) : mcSk L 117 = some (.inl (0, 4)) := rfl
theorem sk_118 (L : Nat) : mcSk L 118 = some (.inr 8) := rfl
theorem sk_119 (L : Nat) : mcSk L 119 = some (.inl (6, 3)) := rfl
theorem sk_120 (L : Nat) : mcSk L 120 = some (.inr 7) := rfl
theorem sk_121 (L : Nat) : mcSk L 121 = some (.inl (0, 20)) := rfl
theorem sk_122 (L : Nat) : mcSk L 122 = some (.inr 3) := rfl
theorem sk_123 (L : Nat) : mcSk L 123 = some (.inl (0, 4)) := rfl
theorem sk_124 (L : Nat) : mcSk L 124 = some (.inl (0, 4)) := rfl
theorem sk_125 (L : Nat) : mcSk L 125 = some (.inr 7) := rfl
theorem sk_126 (L : Nat) : mcSk L 126 = some (.inl (0, 20)) := rfl
theorem sk_127 (L : Nat) : mcSk L 127 = some (.inr 3) := rfl
theorem sk_128 (L : Nat) : mcSk L 128 = some (.inl (0, 4)) := rfl
theorem sk_129 (L : Nat) : mcSk L 129 = some (.inl (0, 4)) := rfl
theorem sk_130 (L : Nat) : mcSk L 130 = some (.inr 7) := rfl
theorem sk_131 (L : Nat) : mcSk L 131 = some (.inl (0, 20)) := rfl
theorem sk_132 (L : Nat) : mcSk L 132 = some (.inr 3) := rfl
theorem sk_133 (L : Nat) : mcSk L 133 = some (.inl (0, 4)) := rfl
theorem sk_134 (L : Nat) : mcSk L 134 = some (.inl (0, 4)) := rfl
theorem sk_135 (L : Nat) : mcSk L 135 = some (.inr 8) := rfl
theorem sk_136 (L : Nat) : mcSk L 136 = some (.inl (6, 3)) := rfl
theorem sk_137 (L : Nat) : mcSk L 137 = some (.inr 7) := rfl
theorem sk_138 (L : Nat) : mcSk L 138 = some (.inl (0, 20)) := rfl
theorem sk_139 (L : Nat) : mcSk L 139 = some (.inr 3) := rfl
theorem sk_140 (L : Nat) : mcSk L 140 = some (.inl (0, 4)) := rfl
theorem sk_141 (L : Nat) : mcSk L 141 = some (.inl (0, 4)) := rfl
theorem sk_142 (L : Nat) : mcSk L 142 = some (.inr 7) := rfl
theorem sk_143 (L : Nat) : mcSk L 143 = some (.inl (0, 20)) := rfl
theorem sk_144 (L : Nat) : mcSk L 144 = some (.inr 3) := rfl
theorem sk_145 (L : Nat) : mcSk L 145 = some (.inl (0, 4)) := rfl
theorem sk_146 (L : Nat) : mcSk L 146 = some (.inl (0, 4)) := rfl
theorem sk_147 (L : Nat) : mcSk L 147 = some (.inr 7) := rfl
theorem sk_148 (L : Nat) : mcSk L 148 = some (.inl (0, 20)) := rfl
theorem sk_149 (L : Nat) : mcSk L 149 = some (.inr 3) := rfl
theorem sk_150 (L : Nat) : mcSk L 150 = some (.inl (0, 4)) := rfl
theorem sk_151 (L : Nat) : mcSk L 151 = some (.inl (0, 4)) := rfl
theorem sk_152 (L : Nat) : mcSk L 152 = some (.inr 8) := rfl
theorem sk_153 (L : Nat) : mcSk L 153 = some (.inl (6, 3)) := rfl
theorem sk_154 (L : Nat) : mcSk L 154 = some (.inr 7) := rfl
theorem sk_155 (L : Nat) : mcSk L 155 = some (.inl (0, 20)) := rfl
theorem sk_156 (L : Nat) : mcSk L 156 = some (.inr 3) := rfl
theorem sk_157 (L : Nat) : mcSk L 157 = some (.inl (0, 4)) := rfl
theorem sk_158 (L : Nat) : mcSk L 158 = some (.inl (0, 4)) := rfl
theorem sk_159 (L : Nat) : mcSk L 159 = some (.inr 7) := rfl
theorem sk_160 (L : Nat) : mcSk L 160 = some (.inl (0, 20)) := rfl
theorem sk_161 (L : Nat) : mcSk L 161 = some (.inr 3) := rfl
theorem sk_162 (L : Nat) : mcSk L 162 = some (.inl (0, 4)) := rfl
theorem sk_163 (L : Nat) : mcSk L 163 = some (.inl (0, 4)) := rfl
theorem sk_164 (L : Nat) : mcSk L 164 = some (.inr 7) := rfl
theorem sk_165 (L : Nat) : mcSk L 165 = some (.inl (0, 20)) := rfl
theorem sk_166 (L : Nat) : mcSk L 166 = some (.inr 3) := rfl
theorem sk_167 (L : Nat) : mcSk L 167 = some (.inl (0, 4)) := rfl
theorem sk_168 (L : Nat) : mcSk L 168 = some (.inl (0, 4)) := rfl
theorem sk_169 (L : Nat) : mcSk L 169 = some (.inr 8) := rfl
theorem sk_170 (L : Nat) : mcSk L 170 = some (.inl (6, 3)) := rfl
theorem sk_171 (L : Nat) : mcSk L 171 = some (.inr 7) := rfl
theorem sk_172 (L : Nat) : mcSk L 172 = some (.inl (0, 20)) := rfl
theorem sk_173 (L : Nat) : mcSk L 173 = some (.inr 3) := rfl
theorem sk_174 (L : Nat) : mcSk L 174 = some (.inl (0, 4)) := rfl
theorem sk_175 (L : Nat) : mcSk L 175 = some (.inl (0, 4)) := rfl
theorem sk_176 (L : Nat) : mcSk L 176 = some (.inr 7) := rfl
theorem sk_177 (L : Nat) : mcSk L 177 = some (.inl (0, 20)) := rfl
theorem sk_178 (L : Nat) : mcSk L 178 = some (.inr 3) := rfl
theorem sk_179 (L : Nat) : mcSk L 179 = some (.inl (0, 4)) := rfl
theorem sk_180 (L : Nat) : mcSk L 180 = some (.inl (0, 4)) := rfl
theorem sk_181 (L : Nat) : mcSk L 181 = some (.inr 7) := rfl
theorem sk_182 (L : Nat) : mcSk L 182 = some (.inl (0, 20)) := rfl
theorem sk_183 (L : Nat) : mcSk L 183 = some (.inr 3) := rfl
theorem sk_184 (L : Nat) : mcSk L 184 = some (.inl (0, 4)) := rfl
theorem sk_185 (L : Nat) : mcSk L 185 = some (.inl (0, 4)) := rfl
theorem sk_186 (L : Nat) : mcSk L 186 = some (.inr 10) := rfl
theorem sk_187 (L : Nat) : mcSk L 187 = some (.inl (0, 4)) := rfl
theorem sk_188 (L : Nat) : mcSk L 188 = some (.inl (0, 12)) := rfl
theorem sk_189 (L : Nat) : mcSk L 189 = some (.inl (0, 240)) := rfl
theorem sk_190 (L : Nat) : mcSk L 190 = some (.inl (0, 12)) := rfl
theorem sk_191 (L : Nat) : mcSk L 191 = some (.inl (2, 12)) := rfl
theorem sk_192 (L : Nat) : mcSk L 192 = some (.inl (0, 12)) := rfl
theorem sk_193 (L : Nat) : mcSk L 193 = some (.inl (0, 48)) := rfl
theorem sk_194 (L : Nat) : mcSk L 194 = some (.inl (0, 48)) := rfl
theorem sk_195 (L : Nat) : mcSk L 195 = some (.inl (0, 1500)) := rfl
theorem sk_196 (L : Nat) : mcSk L 196 = some (.inl (0, 6000)) := rfl
theorem sk_197 (L : Nat) : mcSk L 197 = some (.inl (0, 2400)) := rfl
theorem sk_198 (L : Nat) : mcSk L 198 = some (.inl (0, 2400)) := rfl
theorem sk_199 (L : Nat) : mcSk L 199 = some (.inl (3, 8192)) := rfl
theorem sk_200 (L : Nat) : mcSk L 200 = some (.inl (3, 8192)) := rfl
theorem sk_201 (L : Nat) : mcSk L 201 = some (.inl (0, 4)) := rfl
theorem sk_202 (L : Nat) : mcSk L 202 = some (.inl (0, 4)) := rfl
theorem sk_203 (L : Nat) : mcSk L 203 = some (.inl (1, 1)) := rfl
theorem sk_0 (L : Nat) : mcSk L 0 = some (.inl (0, L)) := rfl
theorem rc_1_0 : mcRho 1 0 = some 2 := rfl
theorem rc_1_1 : mcRho 1 1 = some 3 := rfl
theorem rc_1_2 : mcRho 1 2 = some 10 := rfl
theorem rc_3_0 : mcRho 3 0 = some 4 := rfl
theorem rc_3_1 : mcRho 3 1 = some 5 := rfl
theorem rc_3_2 : mcRho 3 2 = some 6 := rfl
theorem rc_3_3 : mcRho 3 3 = some 7 := rfl
theorem rc_3_4 : mcRho 3 4 = some 8 := rfl
theorem rc_3_5 : mcRho 3 5 = some 9 := rfl
theorem rc_10_0 : mcRho 10 0 = some 11 := rfl
theorem rc_10_1 : mcRho 10 1 = some 12 := rfl
theorem rc_10_2 : mcRho 10 2 = some 65 := rfl
theorem rc_11_0 : mcRho 11 0 = some 12 := rfl
theorem rc_11_1 : mcRho 11 1 = some 13 := rfl
theorem rc_11_2 : mcRho 11 2 = some 19 := rfl
theorem rc_12_0 : mcRho 12 0 = some 13 := rfl
theorem rc_12_1 : mcRho 12 1 = some 19 := rfl
theorem rc_12_2 : mcRho 12 2 = some 25 := rfl
theorem rc_12_3 : mcRho 12 3 = some 26 := rfl
theorem rc_12_4 : mcRho 12 4 = some 27 := rfl
theorem rc_12_5 : mcRho 12 5 = some 28 := rfl
theorem rc_13_0 : mcRho 13 0 = some 14 := rfl
theorem rc_13_1 : mcRho 13 1 = some 15 := rfl
theorem rc_13_2 : mcRho 13 2 = some 16 := rfl
theorem rc_13_3 : mcRho 13 3 = some 17 := rfl
theorem rc_13_4 : mcRho 13 4 = some 18 := rfl
theorem rc_19_0 : mcRho 19 0 = some 20 := rfl
theorem rc_19_1 : mcRho 19 1 = some 21 := rfl
theorem rc_19_2 : mcRho 19 2 = some 22 := rfl
theorem rc_19_3 : mcRho 19 3 = some 23 := rfl
theorem rc_19_4 : mcRho 19 4 = some 24 := rfl
theorem rc_29_0 : mcRho 29 0 = some 30 := rfl
theorem rc_29_1 : mcRho 29 1 = some 31 := rfl
theorem rc_32_0 : mcRho 32 0 = some 33 := rfl
theorem rc_32_1 : mcRho 32 1 = some 34 := rfl
theorem rc_35_0 : mcRho 35 0 = some 36 := rfl
theorem rc_35_1 : mcRho 35 1 = some 37 := rfl
theorem rc_38_0 : mcRho 38 0 = some 39 := rfl
theorem rc_38_1 : mcRho 38 1 = some 40 := rfl
theorem rc_41_0 : mcRho 41 0 = some 42 := rfl
theorem rc_41_1 : mcRho 41 1 = some 43 := rfl
theorem rc_44_0 : mcRho 44 0 = some 45 := rfl
theorem rc_44_1 : mcRho 44 1 = some 46 := rfl
theorem rc_47_0 : mcRho 47 0 = some 48 := rfl
theorem rc_47_1 : mcRho 47 1 = some 49 := rfl
theorem rc_50_0 : mcRho 50 0 = some 51 := rfl
theorem rc_50_1 : mcRho 50 1 = some 52 := rfl
theorem rc_53_0 : mcRho 53 0 = some 54 := rfl
theorem rc_53_1 : mcRho 53 1 = some 55 := rfl
theorem rc_56_0 : mcRho 56 0 = some 57 := rfl
theorem rc_56_1 : mcRho 56 1 = some 58 := rfl
theorem rc_59_0 : mcRho 59 0 = some 60 := rfl
theorem rc_59_1 : mcRho 59 1 = some 61 := rfl
theorem rc_62_0 : mcRho 62 0 = some 63 := rfl
theorem rc_62_1 : mcRho 62 1 = some 64 := rfl
theorem rc_65_0 : mcRho 65 0 = some 66 := rfl
theorem rc_65_1 : mcRho 65 1 = some 72 := rfl
theorem rc_65_2 : mcRho 65 2 = some 78 := rfl
theorem rc_65_3 : mcRho 65 3 = some 79 := rfl
theorem rc_65_4 : mcRho 65 4 = some 80 := rfl
theorem rc_65_5 : mcRho 65 5 = some 81 := rfl
theorem rc_66_0 : mcRho 66 0 = some 67 := rfl
theorem rc_66_1 : mcRho 66 1 = some 68 := rfl
theorem rc_66_2 : mcRho 66 2 = some 69 := rfl
theorem rc_66_3 : mcRho 66 3 = some 70 := rfl
theorem rc_66_4 : mcRho 66 4 = some 71 := rfl
theorem rc_72_0 : mcRho 72 0 = some 73 := rfl
theorem rc_72_1 : mcRho 72 1 = some 74 := rfl
theorem rc_72_2 : mcRho 72 2 = some 75 := rfl
theorem rc_72_3 : mcRho 72 3 = some 76 := rfl
theorem rc_72_4 : mcRho 72 4 = some 77 := rfl
theorem rc_82_0 : mcRho 82 0 = some 83 := rfl
theorem rc_82_1 : mcRho 82 1 = some 84 := rfl
theorem rc_85_0 : mcRho 85 0 = some 86 := rfl
theorem rc_85_1 : mcRho 85 1 = some 87 := rfl
theorem rc_88_0 : mcRho 88 0 = some 89 := rfl
theorem rc_88_1 : mcRho 88 1 = some 90 := rfl
theorem rc_91_0 : mcRho 91 0 = some 92 := rfl
theorem rc_91_1 : mcRho 91 1 = some 93 := rfl
theorem rc_94_0 : mcRho 94 0 = some 95 := rfl
theorem rc_94_1 : mcRho 94 1 = some 96 := rfl
theorem rc_97_0 : mcRho 97 0 = some 98 := rfl
theorem rc_97_1 : mcRho 97 1 = some 99 := rfl
theorem rc_100_0 : mcRho 100 0 = some 101 := rfl
theorem rc_100_1 : mcRho 100 1 = some 102 := rfl
theorem rc_103_0 : mcRho 103 0 = some 104 := rfl
theorem rc_103_1 : mcRho 103 1 = some 105 := rfl
theorem rc_106_0 : mcRho 106 0 = some 107 := rfl
theorem rc_106_1 : mcRho 106 1 = some 108 := rfl
theorem rc_109_0 : mcRho 109 0 = some 110 := rfl
theorem rc_109_1 : mcRho 109 1 = some 111 := rfl
theorem rc_112_0 : mcRho 112 0 = some 113 := rfl
theorem rc_112_1 : mcRho 112 1 = some 114 := rfl
theorem rc_115_0 : mcRho 115 0 = some 116 := rfl
theorem rc_115_1 : mcRho 115 1 = some 117 := rfl
theorem rc_118_0 : mcRho 118 0 = some 119 := rfl
theorem rc_120_0 : mcRho 120 0 = some 121 := rfl
theorem rc_120_1 : mcRho 120 1 = some 122 := rfl
theorem rc_122_0 : mcRho 122 0 = some 123 := rfl
theorem rc_122_1 : mcRho 122 1 = some 124 := rfl
theorem rc_125_0 : mcRho 125 0 = some 126 := rfl
theorem rc_125_1 : mcRho 125 1 = some 127 := rfl
theorem rc_127_0 : mcRho 127 0 = some 128 := rfl
theorem rc_127_1 : mcRho 127 1 = some 129 := rfl
theorem rc_130_0 : mcRho 130 0 = some 131 := rfl
theorem rc_130_1 : mcRho 130 1 = some 132 := rfl
theorem rc_132_0 : mcRho 132 0 = some 133 := rfl
theorem rc_132_1 : mcRho 132 1 = some 134 := rfl
theorem rc_135_0 : mcRho 135 0 = some 136 := rfl
theorem rc_137_0 : mcRho 137 0 = some 138 := rfl
theorem rc_137_1 : mcRho 137 1 = some 139 := rfl
theorem rc_139_0 : mcRho 139 0 = some 140 := rfl
theorem rc_139_1 : mcRho 139 1 = some 141 := rfl
theorem rc_142_0 : mcRho 142 0 = some 143 := rfl
theorem rc_142_1 : mcRho 142 1 = some 144 := rfl
theorem rc_144_0 : mcRho 144 0 = some 145 := rfl
theorem rc_144_1 : mcRho 144 1 = some 146 := rfl
theorem rc_147_0 : mcRho 147 0 = some 148 := rfl
theorem rc_147_1 : mcRho 147 1 = some 149 := rfl
theorem rc_149_0 : mcRho 149 0 = some 150 := rfl
theorem rc_149_1 : mcRho 149 1 = some 151 := rfl
theorem rc_152_0 : mcRho 152 0 = some 153 := rfl
theorem rc_154_0 : mcRho 154 0 = some 155 := rfl
theorem rc_154_1 : mcRho 154 1 = some 156 := rfl
theorem rc_156_0 : mcRho 156 0 = some 157 := rfl
theorem rc_156_1 : mcRho 156 1 = some 158 := rfl
theorem rc_159_0 : mcRho 159 0 = some 160 := rfl
theorem rc_159_1 : mcRho 159 1 = some 161 := rfl
theorem rc_161_0 : mcRho 161 0 = some 162 := rfl
theorem rc_161_1 : mcRho 161 1 = some 163 := rfl
theorem rc_164_0 : mcRho 164 0 = some 165 := rfl
theorem rc_164_1 : mcRho 164 1 = some 166 := rfl
theorem rc_166_0 : mcRho 166 0 = some 167 := rfl
theorem rc_166_1 : mcRho 166 1 = some 168 := rfl
theorem rc_169_0 : mcRho 169 0 = some 170 := rfl
theorem rc_171_0 : mcRho 171 0 = some 172 := rfl
theorem rc_171_1 : mcRho 171 1 = some 173 := rfl
theorem rc_173_0 : mcRho 173 0 = some 174 := rfl
theorem rc_173_1 : mcRho 173 1 = some 175 := rfl
theorem rc_176_0 : mcRho 176 0 = some 177 := rfl
theorem rc_176_1 : mcRho 176 1 = some 178 := rfl
theorem rc_178_0 : mcRho 178 0 = some 179 := rfl
theorem rc_178_1 : mcRho 178 1 = some 180 := rfl
theorem rc_181_0 : mcRho 181 0 = some 182 := rfl
theorem rc_181_1 : mcRho 181 1 = some 183 := rfl
theorem rc_183_0 : mcRho 183 0 = some 184 := rfl
theorem rc_183_1 : mcRho 183 1 = some 185 := rfl
theorem rc_186_1 : mcRho 186 1 = some 187 := rfl
theorem rc_186_2 : mcRho 186 2 = some 188 := rfl
theorem rc_186_3 : mcRho 186 3 = some 189 := rfl
theorem rc_186_4 : mcRho 186 4 = some 190 := rfl
theorem rc_186_5 : mcRho 186 5 = some 191 := rfl
theorem rc_186_6 : mcRho 186 6 = some 192 := rfl
theorem rc_186_7 : mcRho 186 7 = some 193 := rfl
theorem rc_186_8 : mcRho 186 8 = some 194 := rfl
theorem rc_186_10 : mcRho 186 10 = some 195 := rfl
theorem rc_186_11 : mcRho 186 11 = some 196 := rfl
theorem rc_186_12 : mcRho 186 12 = some 197 := rfl
theorem rc_186_13 : mcRho 186 13 = some 198 := rfl
theorem rc_186_14 : mcRho 186 14 = some 199 := rfl
theorem rc_186_15 : mcRho 186 15 = some 200 := rfl
theorem rc_186_16 : mcRho 186 16 = some 201 := rfl
theorem rc_186_17 : mcRho 186 17 = some 202 := rfl
