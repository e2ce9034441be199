/-! 03.codes c: printed by wip/whole/prog/codes.py -/
theorem kf_Mod_init_0 : mcGet K_Mod_init 0 = (0, false, .aload_n 0, 1, mcX0) := rfl
theorem kf_Mod_init_1 : mcGet K_Mod_init 1 = (1, false, .invokespecial 1, 3, (0, 0, [920, 77, 78, 0], [])) := rfl
theorem kf_Mod_init_4 : mcGet K_Mod_init 4 = (4, false, .aload_n 0, 1, mcX0) := rfl
theorem kf_Mod_init_5 : mcGet K_Mod_init 5 = (5, false, .iconst 4, 1, mcX0) := rfl
theorem kf_Mod_init_6 : mcGet K_Mod_init 6 = (6, false, .newarray .int, 2, (0, 0, [120], [])) := rfl
theorem kf_Mod_init_8 : mcGet K_Mod_init 8 = (8, false, .putfield 7, 3, (10, 1, [922, 1], [])) := rfl
theorem kf_Mod_init_11 : mcGet K_Mod_init 11 = (11, false, .aload_n 0, 1, mcX0) := rfl
theorem kf_Mod_init_12 : mcGet K_Mod_init 12 = (12, false, .bipush 12, 2, mcX0) := rfl
theorem kf_Mod_init_14 : mcGet K_Mod_init 14 = (14, false, .newarray .int, 2, (0, 0, [120], [])) := rfl
theorem kf_Mod_init_16 : mcGet K_Mod_init 16 = (16, false, .putfield 13, 3, (10, 2, [923, 1], [])) := rfl
theorem kf_Mod_init_19 : mcGet K_Mod_init 19 = (19, false, .aload_n 0, 1, mcX0) := rfl
theorem kf_Mod_init_20 : mcGet K_Mod_init 20 = (20, false, .sipush 240, 3, mcX0) := rfl
theorem kf_Mod_init_23 : mcGet K_Mod_init 23 = (23, false, .newarray .int, 2, (0, 0, [120], [])) := rfl
theorem kf_Mod_init_25 : mcGet K_Mod_init 25 = (25, false, .putfield 16, 3, (10, 3, [924, 1], [])) := rfl
theorem kf_Mod_init_28 : mcGet K_Mod_init 28 = (28, false, .aload_n 0, 1, mcX0) := rfl
theorem kf_Mod_init_29 : mcGet K_Mod_init 29 = (29, false, .bipush 12, 2, mcX0) := rfl
theorem kf_Mod_init_31 : mcGet K_Mod_init 31 = (31, false, .newarray .int, 2, (0, 0, [120], [])) := rfl
theorem kf_Mod_init_33 : mcGet K_Mod_init 33 = (33, false, .putfield 19, 3, (10, 4, [925, 1], [])) := rfl
theorem kf_Mod_init_36 : mcGet K_Mod_init 36 = (36, false, .aload_n 0, 1, mcX0) := rfl
theorem kf_Mod_init_37 : mcGet K_Mod_init 37 = (37, false, .bipush 12, 2, mcX0) := rfl
theorem kf_Mod_init_39 : mcGet K_Mod_init 39 = (39, false, .newarray .boolean, 2, (2, 0, [1000], [])) := rfl
theorem kf_Mod_init_41 : mcGet K_Mod_init 41 = (41, false, .putfield 22, 3, (10, 5, [926, 1], [])) := rfl
theorem kf_Mod_init_44 : mcGet K_Mod_init 44 = (44, false, .aload_n 0, 1, mcX0) := rfl
theorem kf_Mod_init_45 : mcGet K_Mod_init 45 = (45, false, .bipush 12, 2, mcX0) := rfl
theorem kf_Mod_init_47 : mcGet K_Mod_init 47 = (47, false, .newarray .int, 2, (0, 0, [120], [])) := rfl
theorem kf_Mod_init_49 : mcGet K_Mod_init 49 = (49, false, .putfield 26, 3, (10, 6, [927, 1], [])) := rfl
theorem kf_Mod_init_52 : mcGet K_Mod_init 52 = (52, false, .aload_n 0, 1, mcX0) := rfl
theorem kf_Mod_init_53 : mcGet K_Mod_init 53 = (53, false, .bipush 48, 2, mcX0) := rfl
theorem kf_Mod_init_55 : mcGet K_Mod_init 55 = (55, false, .newarray .int, 2, (0, 0, [120], [])) := rfl
theorem kf_Mod_init_57 : mcGet K_Mod_init 57 = (57, false, .putfield 29, 3, (10, 7, [928, 1], [])) := rfl
theorem kf_Mod_init_60 : mcGet K_Mod_init 60 = (60, false, .aload_n 0, 1, mcX0) := rfl
theorem kf_Mod_init_61 : mcGet K_Mod_init 61 = (61, false, .bipush 48, 2, mcX0) := rfl
theorem kf_Mod_init_63 : mcGet K_Mod_init 63 = (63, false, .newarray .int, 2, (0, 0, [120], [])) := rfl
theorem kf_Mod_init_65 : mcGet K_Mod_init 65 = (65, false, .putfield 32, 3, (10, 8, [929, 1], [])) := rfl
theorem kf_Mod_init_68 : mcGet K_Mod_init 68 = (68, false, .aload_n 0, 1, mcX0) := rfl
theorem kf_Mod_init_69 : mcGet K_Mod_init 69 = (69, false, .sipush 1500, 3, mcX0) := rfl
theorem kf_Mod_init_72 : mcGet K_Mod_init 72 = (72, false, .newarray .int, 2, (0, 0, [120], [])) := rfl
theorem kf_Mod_init_74 : mcGet K_Mod_init 74 = (74, false, .putfield 35, 3, (10, 10, [931, 1], [])) := rfl
theorem kf_Mod_init_77 : mcGet K_Mod_init 77 = (77, false, .aload_n 0, 1, mcX0) := rfl
theorem kf_Mod_init_78 : mcGet K_Mod_init 78 = (78, false, .sipush 6000, 3, mcX0) := rfl
theorem kf_Mod_init_81 : mcGet K_Mod_init 81 = (81, false, .newarray .int, 2, (0, 0, [120], [])) := rfl
theorem kf_Mod_init_83 : mcGet K_Mod_init 83 = (83, false, .putfield 38, 3, (10, 11, [932, 1], [])) := rfl
theorem kf_Mod_init_86 : mcGet K_Mod_init 86 = (86, false, .aload_n 0, 1, mcX0) := rfl
theorem kf_Mod_init_87 : mcGet K_Mod_init 87 = (87, false, .sipush 2400, 3, mcX0) := rfl
theorem kf_Mod_init_90 : mcGet K_Mod_init 90 = (90, false, .newarray .int, 2, (0, 0, [120], [])) := rfl
theorem kf_Mod_init_92 : mcGet K_Mod_init 92 = (92, false, .putfield 41, 3, (10, 12, [933, 1], [])) := rfl
theorem kf_Mod_init_95 : mcGet K_Mod_init 95 = (95, false, .aload_n 0, 1, mcX0) := rfl
theorem kf_Mod_init_96 : mcGet K_Mod_init 96 = (96, false, .sipush 2400, 3, mcX0) := rfl
theorem kf_Mod_init_99 : mcGet K_Mod_init 99 = (99, false, .newarray .int, 2, (0, 0, [120], [])) := rfl
theorem kf_Mod_init_101 : mcGet K_Mod_init 101 = (101, false, .putfield 44, 3, (10, 13, [934, 1], [])) := rfl
theorem kf_Mod_init_104 : mcGet K_Mod_init 104 = (104, false, .aload_n 0, 1, mcX0) := rfl
theorem kf_Mod_init_105 : mcGet K_Mod_init 105 = (105, false, .sipush 8192, 3, mcX0) := rfl
theorem kf_Mod_init_108 : mcGet K_Mod_init 108 = (108, false, .newarray .byte, 2, (3, 0, [1001], [])) := rfl
theorem kf_Mod_init_110 : mcGet K_Mod_init 110 = (110, false, .putfield 47, 3, (10, 14, [935, 1], [])) := rfl
theorem kf_Mod_init_113 : mcGet K_Mod_init 113 = (113, false, .aload_n 0, 1, mcX0) := rfl
theorem kf_Mod_init_114 : mcGet K_Mod_init 114 = (114, false, .sipush 8192, 3, mcX0) := rfl
theorem kf_Mod_init_117 : mcGet K_Mod_init 117 = (117, false, .newarray .byte, 2, (3, 0, [1001], [])) := rfl
theorem kf_Mod_init_119 : mcGet K_Mod_init 119 = (119, false, .putfield 51, 3, (10, 15, [936, 1], [])) := rfl
theorem kf_Mod_init_122 : mcGet K_Mod_init 122 = (122, false, .aload_n 0, 1, mcX0) := rfl
theorem kf_Mod_init_123 : mcGet K_Mod_init 123 = (123, false, .iconst 4, 1, mcX0) := rfl
theorem kf_Mod_init_124 : mcGet K_Mod_init 124 = (124, false, .newarray .int, 2, (0, 0, [120], [])) := rfl
theorem kf_Mod_init_126 : mcGet K_Mod_init 126 = (126, false, .putfield 54, 3, (10, 16, [937, 1], [])) := rfl
theorem kf_Mod_init_129 : mcGet K_Mod_init 129 = (129, false, .aload_n 0, 1, mcX0) := rfl
theorem kf_Mod_init_130 : mcGet K_Mod_init 130 = (130, false, .iconst 4, 1, mcX0) := rfl
theorem kf_Mod_init_131 : mcGet K_Mod_init 131 = (131, false, .newarray .int, 2, (0, 0, [120], [])) := rfl
theorem kf_Mod_init_133 : mcGet K_Mod_init 133 = (133, false, .putfield 57, 3, (10, 17, [938, 1], [])) := rfl
theorem kf_Mod_init_136 : mcGet K_Mod_init 136 = (136, false, .aload_n 0, 1, mcX0) := rfl
theorem kf_Mod_init_137 : mcGet K_Mod_init 137 = (137, false, .iconst 1, 1, mcX0) := rfl
theorem kf_Mod_init_138 : mcGet K_Mod_init 138 = (138, false, .putfield 60, 3, (10, 19, [940, 2], [])) := rfl
theorem kf_Mod_init_141 : mcGet K_Mod_init 141 = (141, false, .aload_n 0, 1, mcX0) := rfl
theorem kf_Mod_init_142 : mcGet K_Mod_init 142 = (142, false, .iconst (-1), 1, mcX0) := rfl
theorem kf_Mod_init_143 : mcGet K_Mod_init 143 = (143, false, .putfield 64, 3, (10, 20, [941, 0], [])) := rfl
theorem kf_Mod_init_146 : mcGet K_Mod_init 146 = (146, false, .iconst 0, 1, mcX0) := rfl
theorem kf_Mod_init_147 : mcGet K_Mod_init 147 = (147, false, .istore_n 1, 1, mcX0) := rfl
theorem kf_Mod_init_148 : mcGet K_Mod_init 148 = (148, true, .iload_n 1, 1, mcX0) := rfl
theorem kf_Mod_init_149 : mcGet K_Mod_init 149 = (149, false, .bipush 32, 2, mcX0) := rfl
theorem kf_Mod_init_151 : mcGet K_Mod_init 151 = (151, false, .if_icmp .ge 31, 3, (182, 0, [], [])) := rfl
theorem kf_Mod_init_154 : mcGet K_Mod_init 154 = (154, false, .aload_n 0, 1, mcX0) := rfl
theorem kf_Mod_init_155 : mcGet K_Mod_init 155 = (155, false, .getfield 41, 3, (10, 12, [933, 1], [])) := rfl
theorem kf_Mod_init_158 : mcGet K_Mod_init 158 = (158, false, .sipush 220, 3, mcX0) := rfl
theorem kf_Mod_init_161 : mcGet K_Mod_init 161 = (161, false, .iload_n 1, 1, mcX0) := rfl
theorem kf_Mod_init_162 : mcGet K_Mod_init 162 = (162, false, .iadd, 1, mcX0) := rfl
theorem kf_Mod_init_163 : mcGet K_Mod_init 163 = (163, false, .iconst (-1), 1, mcX0) := rfl
theorem kf_Mod_init_164 : mcGet K_Mod_init 164 = (164, false, .iastore, 1, mcX0) := rfl
theorem kf_Mod_init_165 : mcGet K_Mod_init 165 = (165, false, .aload_n 0, 1, mcX0) := rfl
theorem kf_Mod_init_166 : mcGet K_Mod_init 166 = (166, false, .getfield 41, 3, (10, 12, [933, 1], [])) := rfl
theorem kf_Mod_init_169 : mcGet K_Mod_init 169 = (169, false, .sipush 252, 3, mcX0) := rfl
theorem kf_Mod_init_172 : mcGet K_Mod_init 172 = (172, false, .iload_n 1, 1, mcX0) := rfl
theorem kf_Mod_init_173 : mcGet K_Mod_init 173 = (173, false, .iadd, 1, mcX0) := rfl
theorem kf_Mod_init_174 : mcGet K_Mod_init 174 = (174, false, .iconst (-1), 1, mcX0) := rfl
theorem kf_Mod_init_175 : mcGet K_Mod_init 175 = (175, false, .iastore, 1, mcX0) := rfl
theorem kf_Mod_init_176 : mcGet K_Mod_init 176 = (176, false, .iinc 1 1, 3, mcX0) := rfl
theorem kf_Mod_init_179 : mcGet K_Mod_init 179 = (179, false, .goto (-31), 3, (148, 0, [], [])) := rfl
theorem kf_Mod_init_182 : mcGet K_Mod_init 182 = (182, false, .iconst 0, 1, mcX0) := rfl
theorem kf_Mod_init_183 : mcGet K_Mod_init 183 = (183, false, .istore_n 1, 1, mcX0) := rfl
theorem kf_Mod_init_184 : mcGet K_Mod_init 184 = (184, true, .iload_n 1, 1, mcX0) := rfl
theorem kf_Mod_init_185 : mcGet K_Mod_init 185 = (185, false, .bipush 32, 2, mcX0) := rfl
theorem kf_Mod_init_187 : mcGet K_Mod_init 187 = (187, false, .if_icmp .ge 19, 3, (206, 0, [], [])) := rfl
theorem kf_Mod_init_190 : mcGet K_Mod_init 190 = (190, false, .aload_n 0, 1, mcX0) := rfl
theorem kf_Mod_init_191 : mcGet K_Mod_init 191 = (191, false, .getfield 41, 3, (10, 12, [933, 1], [])) := rfl
theorem kf_Mod_init_194 : mcGet K_Mod_init 194 = (194, false, .bipush 124, 2, mcX0) := rfl
theorem kf_Mod_init_196 : mcGet K_Mod_init 196 = (196, false, .iload_n 1, 1, mcX0) := rfl
theorem kf_Mod_init_197 : mcGet K_Mod_init 197 = (197, false, .iadd, 1, mcX0) := rfl
theorem kf_Mod_init_198 : mcGet K_Mod_init 198 = (198, false, .iconst (-1), 1, mcX0) := rfl
theorem kf_Mod_init_199 : mcGet K_Mod_init 199 = (199, false, .iastore, 1, mcX0) := rfl
theorem kf_Mod_init_200 : mcGet K_Mod_init 200 = (200, false, .iinc 1 1, 3, mcX0) := rfl
theorem kf_Mod_init_203 : mcGet K_Mod_init 203 = (203, false, .goto (-19), 3, (184, 0, [], [])) := rfl
theorem kf_Mod_init_206 : mcGet K_Mod_init 206 = (206, false, .aload_n 0, 1, mcX0) := rfl
theorem kf_Mod_init_207 : mcGet K_Mod_init 207 = (207, false, .getfield 41, 3, (10, 12, [933, 1], [])) := rfl
theorem kf_Mod_init_210 : mcGet K_Mod_init 210 = (210, false, .sipush 220, 3, mcX0) := rfl
theorem kf_Mod_init_213 : mcGet K_Mod_init 213 = (213, false, .iconst 1, 1, mcX0) := rfl
theorem kf_Mod_init_214 : mcGet K_Mod_init 214 = (214, false, .iastore, 1, mcX0) := rfl
theorem kf_Mod_init_215 : mcGet K_Mod_init 215 = (215, false, .aload_n 0, 1, mcX0) := rfl
theorem kf_Mod_init_216 : mcGet K_Mod_init 216 = (216, false, .getfield 41, 3, (10, 12, [933, 1], [])) := rfl
theorem kf_Mod_init_219 : mcGet K_Mod_init 219 = (219, false, .sipush 188, 3, mcX0) := rfl
theorem kf_Mod_init_222 : mcGet K_Mod_init 222 = (222, false, .iconst 0, 1, mcX0) := rfl
theorem kf_Mod_init_223 : mcGet K_Mod_init 223 = (223, false, .iastore, 1, mcX0) := rfl
theorem kf_Mod_init_224 : mcGet K_Mod_init 224 = (224, false, .aload_n 0, 1, mcX0) := rfl
theorem kf_Mod_init_225 : mcGet K_Mod_init 225 = (225, false, .iconst 1, 1, mcX0) := rfl
theorem kf_Mod_init_226 : mcGet K_Mod_init 226 = (226, false, .putfield 68, 3, (10, 18, [939, 0], [])) := rfl
theorem kf_Mod_init_229 : mcGet K_Mod_init 229 = (229, false, .return_, 1, mcX0) := rfl
theorem kf_Mod_answer_0 : mcGet K_Mod_answer 0 = (0, false, .aload_n 0, 1, mcX0) := rfl
theorem kf_Mod_answer_1 : mcGet K_Mod_answer 1 = (1, false, .getfield 7, 3, (10, 1, [922, 1], [])) := rfl
theorem kf_Mod_answer_4 : mcGet K_Mod_answer 4 = (4, false, .iload_n 1, 1, mcX0) := rfl
theorem kf_Mod_answer_5 : mcGet K_Mod_answer 5 = (5, false, .iaload, 1, mcX0) := rfl
theorem kf_Mod_answer_6 : mcGet K_Mod_answer 6 = (6, false, .iload_n 3, 1, mcX0) := rfl
theorem kf_Mod_answer_7 : mcGet K_Mod_answer 7 = (7, false, .if_icmp .ne 23, 3, (30, 0, [], [])) := rfl
theorem kf_Mod_answer_10 : mcGet K_Mod_answer 10 = (10, false, .aload_n 0, 1, mcX0) := rfl
theorem kf_Mod_answer_11 : mcGet K_Mod_answer 11 = (11, false, .getfield 22, 3, (10, 5, [926, 1], [])) := rfl
theorem kf_Mod_answer_14 : mcGet K_Mod_answer 14 = (14, false, .iload_n 2, 1, mcX0) := rfl
theorem kf_Mod_answer_15 : mcGet K_Mod_answer 15 = (15, false, .baload, 1, mcX0) := rfl
theorem kf_Mod_answer_16 : mcGet K_Mod_answer 16 = (16, false, .ifCond .eq 14, 3, (30, 0, [], [])) := rfl
theorem kf_Mod_answer_19 : mcGet K_Mod_answer 19 = (19, false, .aload_n 0, 1, mcX0) := rfl
theorem kf_Mod_answer_20 : mcGet K_Mod_answer 20 = (20, false, .getfield 19, 3, (10, 4, [925, 1], [])) := rfl
theorem kf_Mod_answer_23 : mcGet K_Mod_answer 23 = (23, false, .iload_n 2, 1, mcX0) := rfl
theorem kf_Mod_answer_24 : mcGet K_Mod_answer 24 = (24, false, .iaload, 1, mcX0) := rfl
theorem kf_Mod_answer_25 : mcGet K_Mod_answer 25 = (25, false, .iload 4, 2, mcX0) := rfl
theorem kf_Mod_answer_27 : mcGet K_Mod_answer 27 = (27, false, .if_icmp .eq 4, 3, (31, 0, [], [])) := rfl
theorem kf_Mod_answer_30 : mcGet K_Mod_answer 30 = (30, false, .return_, 1, mcX0) := rfl
theorem kf_Mod_answer_31 : mcGet K_Mod_answer 31 = (31, false, .aload_n 0, 1, mcX0) := rfl
theorem kf_Mod_answer_32 : mcGet K_Mod_answer 32 = (32, false, .getfield 22, 3, (10, 5, [926, 1], [])) := rfl
theorem kf_Mod_answer_35 : mcGet K_Mod_answer 35 = (35, false, .iload_n 2, 1, mcX0) := rfl
theorem kf_Mod_answer_36 : mcGet K_Mod_answer 36 = (36, false, .iconst 0, 1, mcX0) := rfl
theorem kf_Mod_answer_37 : mcGet K_Mod_answer 37 = (37, false, .bastore, 1, mcX0) := rfl
theorem kf_Mod_answer_38 : mcGet K_Mod_answer 38 = (38, false, .aload_n 0, 1, mcX0) := rfl
theorem kf_Mod_answer_39 : mcGet K_Mod_answer 39 = (39, false, .getfield 26, 3, (10, 6, [927, 1], [])) := rfl
theorem kf_Mod_answer_42 : mcGet K_Mod_answer 42 = (42, false, .iload_n 2, 1, mcX0) := rfl
theorem kf_Mod_answer_43 : mcGet K_Mod_answer 43 = (43, false, .aload_n 0, 1, mcX0) := rfl
theorem kf_Mod_answer_44 : mcGet K_Mod_answer 44 = (44, false, .getfield 41, 3, (10, 12, [933, 1], [])) := rfl
theorem kf_Mod_answer_47 : mcGet K_Mod_answer 47 = (47, false, .bipush 16, 2, mcX0) := rfl
theorem kf_Mod_answer_49 : mcGet K_Mod_answer 49 = (49, false, .iload_n 2, 1, mcX0) := rfl
theorem kf_Mod_answer_50 : mcGet K_Mod_answer 50 = (50, false, .iadd, 1, mcX0) := rfl
theorem kf_Mod_answer_51 : mcGet K_Mod_answer 51 = (51, false, .iaload, 1, mcX0) := rfl
theorem kf_Mod_answer_52 : mcGet K_Mod_answer 52 = (52, false, .iastore, 1, mcX0) := rfl
theorem kf_Mod_answer_53 : mcGet K_Mod_answer 53 = (53, false, .iconst 0, 1, mcX0) := rfl
theorem kf_Mod_answer_54 : mcGet K_Mod_answer 54 = (54, false, .istore 5, 2, mcX0) := rfl
theorem kf_Mod_answer_56 : mcGet K_Mod_answer 56 = (56, true, .iload 5, 2, mcX0) := rfl
theorem kf_Mod_answer_58 : mcGet K_Mod_answer 58 = (58, false, .aload_n 0, 1, mcX0) := rfl
theorem kf_Mod_answer_59 : mcGet K_Mod_answer 59 = (59, false, .getfield 26, 3, (10, 6, [927, 1], [])) := rfl
theorem kf_Mod_answer_62 : mcGet K_Mod_answer 62 = (62, false, .iload_n 2, 1, mcX0) := rfl
theorem kf_Mod_answer_63 : mcGet K_Mod_answer 63 = (63, false, .iaload, 1, mcX0) := rfl
theorem kf_Mod_answer_64 : mcGet K_Mod_answer 64 = (64, false, .if_icmp .ge 59, 3, (123, 0, [], [])) := rfl
theorem kf_Mod_answer_67 : mcGet K_Mod_answer 67 = (67, false, .aload_n 0, 1, mcX0) := rfl
theorem kf_Mod_answer_68 : mcGet K_Mod_answer 68 = (68, false, .getfield 29, 3, (10, 7, [928, 1], [])) := rfl
theorem kf_Mod_answer_71 : mcGet K_Mod_answer 71 = (71, false, .iconst 4, 1, mcX0) := rfl
theorem kf_Mod_answer_72 : mcGet K_Mod_answer 72 = (72, false, .iload_n 2, 1, mcX0) := rfl
theorem kf_Mod_answer_73 : mcGet K_Mod_answer 73 = (73, false, .imul, 1, mcX0) := rfl
theorem kf_Mod_answer_74 : mcGet K_Mod_answer 74 = (74, false, .iload 5, 2, mcX0) := rfl
theorem kf_Mod_answer_76 : mcGet K_Mod_answer 76 = (76, false, .iadd, 1, mcX0) := rfl
theorem kf_Mod_answer_77 : mcGet K_Mod_answer 77 = (77, false, .aload_n 0, 1, mcX0) := rfl
theorem kf_Mod_answer_78 : mcGet K_Mod_answer 78 = (78, false, .getfield 41, 3, (10, 12, [933, 1], [])) := rfl
theorem kf_Mod_answer_81 : mcGet K_Mod_answer 81 = (81, false, .bipush 28, 2, mcX0) := rfl
theorem kf_Mod_answer_83 : mcGet K_Mod_answer 83 = (83, false, .iconst 4, 1, mcX0) := rfl
theorem kf_Mod_answer_84 : mcGet K_Mod_answer 84 = (84, false, .iload_n 2, 1, mcX0) := rfl
theorem kf_Mod_answer_85 : mcGet K_Mod_answer 85 = (85, false, .imul, 1, mcX0) := rfl
theorem kf_Mod_answer_86 : mcGet K_Mod_answer 86 = (86, false, .iadd, 1, mcX0) := rfl
theorem kf_Mod_answer_87 : mcGet K_Mod_answer 87 = (87, false, .iload 5, 2, mcX0) := rfl
theorem kf_Mod_answer_89 : mcGet K_Mod_answer 89 = (89, false, .iadd, 1, mcX0) := rfl
theorem kf_Mod_answer_90 : mcGet K_Mod_answer 90 = (90, false, .iaload, 1, mcX0) := rfl
theorem kf_Mod_answer_91 : mcGet K_Mod_answer 91 = (91, false, .iastore, 1, mcX0) := rfl
theorem kf_Mod_answer_92 : mcGet K_Mod_answer 92 = (92, false, .aload_n 0, 1, mcX0) := rfl
theorem kf_Mod_answer_93 : mcGet K_Mod_answer 93 = (93, false, .getfield 32, 3, (10, 8, [929, 1], [])) := rfl
theorem kf_Mod_answer_96 : mcGet K_Mod_answer 96 = (96, false, .iconst 4, 1, mcX0) := rfl
theorem kf_Mod_answer_97 : mcGet K_Mod_answer 97 = (97, false, .iload_n 2, 1, mcX0) := rfl
theorem kf_Mod_answer_98 : mcGet K_Mod_answer 98 = (98, false, .imul, 1, mcX0) := rfl
theorem kf_Mod_answer_99 : mcGet K_Mod_answer 99 = (99, false, .iload 5, 2, mcX0) := rfl
theorem kf_Mod_answer_101 : mcGet K_Mod_answer 101 = (101, false, .iadd, 1, mcX0) := rfl
theorem kf_Mod_answer_102 : mcGet K_Mod_answer 102 = (102, false, .aload_n 0, 1, mcX0) := rfl
theorem kf_Mod_answer_103 : mcGet K_Mod_answer 103 = (103, false, .getfield 41, 3, (10, 12, [933, 1], [])) := rfl
theorem kf_Mod_answer_106 : mcGet K_Mod_answer 106 = (106, false, .bipush 76, 2, mcX0) := rfl
theorem kf_Mod_answer_108 : mcGet K_Mod_answer 108 = (108, false, .iconst 4, 1, mcX0) := rfl
theorem kf_Mod_answer_109 : mcGet K_Mod_answer 109 = (109, false, .iload_n 2, 1, mcX0) := rfl
theorem kf_Mod_answer_110 : mcGet K_Mod_answer 110 = (110, false, .imul, 1, mcX0) := rfl
theorem kf_Mod_answer_111 : mcGet K_Mod_answer 111 = (111, false, .iadd, 1, mcX0) := rfl
theorem kf_Mod_answer_112 : mcGet K_Mod_answer 112 = (112, false, .iload 5, 2, mcX0) := rfl
theorem kf_Mod_answer_114 : mcGet K_Mod_answer 114 = (114, false, .iadd, 1, mcX0) := rfl
theorem kf_Mod_answer_115 : mcGet K_Mod_answer 115 = (115, false, .iaload, 1, mcX0) := rfl
theorem kf_Mod_answer_116 : mcGet K_Mod_answer 116 = (116, false, .iastore, 1, mcX0) := rfl
theorem kf_Mod_answer_117 : mcGet K_Mod_answer 117 = (117, false, .iinc 5 1, 3, mcX0) := rfl
theorem kf_Mod_answer_120 : mcGet K_Mod_answer 120 = (120, false, .goto (-64), 3, (56, 0, [], [])) := rfl
theorem kf_Mod_answer_123 : mcGet K_Mod_answer 123 = (123, false, .return_, 1, mcX0) := rfl
theorem kf_Mod_areBytes_0 : mcGet K_Mod_areBytes 0 = (0, false, .iconst 0, 1, mcX0) := rfl
theorem kf_Mod_areBytes_1 : mcGet K_Mod_areBytes 1 = (1, false, .iload_n 0, 1, mcX0) := rfl
theorem kf_Mod_areBytes_2 : mcGet K_Mod_areBytes 2 = (2, false, .if_icmp .gt 18, 3, (20, 0, [], [])) := rfl
theorem kf_Mod_areBytes_5 : mcGet K_Mod_areBytes 5 = (5, false, .iload_n 0, 1, mcX0) := rfl
theorem kf_Mod_areBytes_6 : mcGet K_Mod_areBytes 6 = (6, false, .iload_n 1, 1, mcX0) := rfl
theorem kf_Mod_areBytes_7 : mcGet K_Mod_areBytes 7 = (7, false, .if_icmp .gt 13, 3, (20, 0, [], [])) := rfl
theorem kf_Mod_areBytes_10 : mcGet K_Mod_areBytes 10 = (10, false, .iload_n 1, 1, mcX0) := rfl
theorem kf_Mod_areBytes_11 : mcGet K_Mod_areBytes 11 = (11, false, .bipush 64, 2, mcX0) := rfl
theorem kf_Mod_areBytes_13 : mcGet K_Mod_areBytes 13 = (13, false, .if_icmp .ge 7, 3, (20, 0, [], [])) := rfl
theorem kf_Mod_areBytes_16 : mcGet K_Mod_areBytes 16 = (16, false, .iconst 1, 1, mcX0) := rfl
theorem kf_Mod_areBytes_17 : mcGet K_Mod_areBytes 17 = (17, false, .goto 4, 3, (21, 0, [], [])) := rfl
theorem kf_Mod_areBytes_20 : mcGet K_Mod_areBytes 20 = (20, false, .iconst 0, 1, mcX0) := rfl
theorem kf_Mod_areBytes_21 : mcGet K_Mod_areBytes 21 = (21, false, .ireturn, 1, (1, 0, [], [])) := rfl
theorem kf_Mod_bind_0 : mcGet K_Mod_bind 0 = (0, false, .aload_n 0, 1, mcX0) := rfl
theorem kf_Mod_bind_1 : mcGet K_Mod_bind 1 = (1, false, .getfield 41, 3, (10, 12, [933, 1], [])) := rfl
theorem kf_Mod_bind_4 : mcGet K_Mod_bind 4 = (4, false, .bipush 124, 2, mcX0) := rfl
theorem kf_Mod_bind_6 : mcGet K_Mod_bind 6 = (6, false, .bipush 8, 2, mcX0) := rfl
theorem kf_Mod_bind_8 : mcGet K_Mod_bind 8 = (8, false, .aload_n 0, 1, mcX0) := rfl
theorem kf_Mod_bind_9 : mcGet K_Mod_bind 9 = (9, false, .getfield 107, 3, (10, 24, [945, 0], [])) := rfl
theorem kf_Mod_bind_12 : mcGet K_Mod_bind 12 = (12, false, .imul, 1, mcX0) := rfl
theorem kf_Mod_bind_13 : mcGet K_Mod_bind 13 = (13, false, .iadd, 1, mcX0) := rfl
theorem kf_Mod_bind_14 : mcGet K_Mod_bind 14 = (14, false, .iload_n 1, 1, mcX0) := rfl
theorem kf_Mod_bind_15 : mcGet K_Mod_bind 15 = (15, false, .iadd, 1, mcX0) := rfl
theorem kf_Mod_bind_16 : mcGet K_Mod_bind 16 = (16, false, .iload_n 2, 1, mcX0) := rfl
theorem kf_Mod_bind_17 : mcGet K_Mod_bind 17 = (17, false, .iastore, 1, mcX0) := rfl
theorem kf_Mod_bind_18 : mcGet K_Mod_bind 18 = (18, false, .aload_n 0, 1, mcX0) := rfl
theorem kf_Mod_bind_19 : mcGet K_Mod_bind 19 = (19, false, .getfield 41, 3, (10, 12, [933, 1], [])) := rfl
theorem kf_Mod_bind_22 : mcGet K_Mod_bind 22 = (22, false, .sipush 156, 3, mcX0) := rfl
theorem kf_Mod_bind_25 : mcGet K_Mod_bind 25 = (25, false, .bipush 8, 2, mcX0) := rfl
theorem kf_Mod_bind_27 : mcGet K_Mod_bind 27 = (27, false, .aload_n 0, 1, mcX0) := rfl
theorem kf_Mod_bind_28 : mcGet K_Mod_bind 28 = (28, false, .getfield 107, 3, (10, 24, [945, 0], [])) := rfl
theorem kf_Mod_bind_31 : mcGet K_Mod_bind 31 = (31, false, .imul, 1, mcX0) := rfl
theorem kf_Mod_bind_32 : mcGet K_Mod_bind 32 = (32, false, .iadd, 1, mcX0) := rfl
theorem kf_Mod_bind_33 : mcGet K_Mod_bind 33 = (33, false, .iload_n 1, 1, mcX0) := rfl
theorem kf_Mod_bind_34 : mcGet K_Mod_bind 34 = (34, false, .iadd, 1, mcX0) := rfl
theorem kf_Mod_bind_35 : mcGet K_Mod_bind 35 = (35, false, .aload_n 0, 1, mcX0) := rfl
theorem kf_Mod_bind_36 : mcGet K_Mod_bind 36 = (36, false, .getfield 41, 3, (10, 12, [933, 1], [])) := rfl
theorem kf_Mod_bind_39 : mcGet K_Mod_bind 39 = (39, false, .sipush 188, 3, mcX0) := rfl
theorem kf_Mod_bind_42 : mcGet K_Mod_bind 42 = (42, false, .iload_n 2, 1, mcX0) := rfl
theorem kf_Mod_bind_43 : mcGet K_Mod_bind 43 = (43, false, .iadd, 1, mcX0) := rfl
theorem kf_Mod_bind_44 : mcGet K_Mod_bind 44 = (44, false, .iaload, 1, mcX0) := rfl
theorem kf_Mod_bind_45 : mcGet K_Mod_bind 45 = (45, false, .iastore, 1, mcX0) := rfl
theorem kf_Mod_bind_46 : mcGet K_Mod_bind 46 = (46, false, .return_, 1, mcX0) := rfl
theorem kf_Mod_boot_0 : mcGet K_Mod_boot 0 = (0, false, .aload_n 0, 1, mcX0) := rfl
theorem kf_Mod_boot_1 : mcGet K_Mod_boot 1 = (1, false, .aload_n 0, 1, mcX0) := rfl
theorem kf_Mod_boot_2 : mcGet K_Mod_boot 2 = (2, false, .getfield 60, 3, (10, 19, [940, 2], [])) := rfl
theorem kf_Mod_boot_5 : mcGet K_Mod_boot 5 = (5, false, .iconst 0, 1, mcX0) := rfl
theorem kf_Mod_boot_6 : mcGet K_Mod_boot 6 = (6, false, .invokevirtual 78, 3, (10, 3, [1013, 1015, 63, 1016, 23, 3], [M_Mod_refused])) := rfl
theorem kf_Mod_boot_9 : mcGet K_Mod_boot 9 = (9, false, .ifCond .ne 20, 3, (29, 0, [], [])) := rfl
theorem kf_Mod_boot_12 : mcGet K_Mod_boot 12 = (12, false, .aload_n 0, 1, mcX0) := rfl
theorem kf_Mod_boot_13 : mcGet K_Mod_boot 13 = (13, false, .iconst 1, 1, mcX0) := rfl
theorem kf_Mod_boot_14 : mcGet K_Mod_boot 14 = (14, false, .putfield 60, 3, (10, 19, [940, 2], [])) := rfl
theorem kf_Mod_boot_17 : mcGet K_Mod_boot 17 = (17, false, .aload_n 0, 1, mcX0) := rfl
theorem kf_Mod_boot_18 : mcGet K_Mod_boot 18 = (18, false, .aload_n 0, 1, mcX0) := rfl
theorem kf_Mod_boot_19 : mcGet K_Mod_boot 19 = (19, false, .getfield 93, 3, (10, 22, [943, 0], [])) := rfl
theorem kf_Mod_boot_22 : mcGet K_Mod_boot 22 = (22, false, .sipush 30000, 3, mcX0) := rfl
theorem kf_Mod_boot_25 : mcGet K_Mod_boot 25 = (25, false, .iadd, 1, mcX0) := rfl
theorem kf_Mod_boot_26 : mcGet K_Mod_boot 26 = (26, false, .putfield 96, 3, (10, 23, [944, 0], [])) := rfl
theorem kf_Mod_boot_29 : mcGet K_Mod_boot 29 = (29, false, .return_, 1, mcX0) := rfl
theorem kf_Mod_carry_0 : mcGet K_Mod_carry 0 = (0, false, .aload_n 0, 1, mcX0) := rfl
theorem kf_Mod_carry_1 : mcGet K_Mod_carry 1 = (1, false, .iload_n 1, 1, mcX0) := rfl
theorem kf_Mod_carry_2 : mcGet K_Mod_carry 2 = (2, false, .ifCond .lt 11, 3, (13, 0, [], [])) := rfl
theorem kf_Mod_carry_5 : mcGet K_Mod_carry 5 = (5, false, .iload_n 1, 1, mcX0) := rfl
theorem kf_Mod_carry_6 : mcGet K_Mod_carry 6 = (6, false, .aload_n 0, 1, mcX0) := rfl
theorem kf_Mod_carry_7 : mcGet K_Mod_carry 7 = (7, false, .getfield 86, 3, (10, 9, [930, 0], [])) := rfl
theorem kf_Mod_carry_10 : mcGet K_Mod_carry 10 = (10, false, .if_icmp .lt 7, 3, (17, 0, [], [])) := rfl
theorem kf_Mod_carry_13 : mcGet K_Mod_carry 13 = (13, false, .iconst 1, 1, mcX0) := rfl
theorem kf_Mod_carry_14 : mcGet K_Mod_carry 14 = (14, false, .goto 4, 3, (18, 0, [], [])) := rfl
theorem kf_Mod_carry_17 : mcGet K_Mod_carry 17 = (17, false, .iconst 0, 1, mcX0) := rfl
theorem kf_Mod_carry_18 : mcGet K_Mod_carry 18 = (18, false, .iconst 0, 1, mcX0) := rfl
theorem kf_Mod_carry_19 : mcGet K_Mod_carry 19 = (19, false, .invokevirtual 78, 3, (10, 3, [1013, 1015, 63, 1016, 23, 3], [M_Mod_refused])) := rfl
theorem kf_Mod_carry_22 : mcGet K_Mod_carry 22 = (22, false, .ifCond .eq 5, 3, (27, 0, [], [])) := rfl
theorem kf_Mod_carry_25 : mcGet K_Mod_carry 25 = (25, false, .iconst 0, 1, mcX0) := rfl
theorem kf_Mod_carry_26 : mcGet K_Mod_carry 26 = (26, false, .ireturn, 1, mcX0) := rfl
theorem kf_Mod_carry_27 : mcGet K_Mod_carry 27 = (27, false, .iconst 5, 1, mcX0) := rfl
theorem kf_Mod_carry_28 : mcGet K_Mod_carry 28 = (28, false, .iload_n 1, 1, mcX0) := rfl
theorem kf_Mod_carry_29 : mcGet K_Mod_carry 29 = (29, false, .imul, 1, mcX0) := rfl
theorem kf_Mod_carry_30 : mcGet K_Mod_carry 30 = (30, false, .istore_n 3, 1, mcX0) := rfl
theorem kf_Mod_carry_31 : mcGet K_Mod_carry 31 = (31, false, .aload_n 0, 1, mcX0) := rfl
theorem kf_Mod_carry_32 : mcGet K_Mod_carry 32 = (32, false, .getfield 35, 3, (10, 10, [931, 1], [])) := rfl
theorem kf_Mod_carry_35 : mcGet K_Mod_carry 35 = (35, false, .iload_n 3, 1, mcX0) := rfl
theorem kf_Mod_carry_36 : mcGet K_Mod_carry 36 = (36, false, .iaload, 1, mcX0) := rfl
theorem kf_Mod_carry_37 : mcGet K_Mod_carry 37 = (37, false, .istore 4, 2, mcX0) := rfl
theorem kf_Mod_carry_39 : mcGet K_Mod_carry 39 = (39, false, .aload_n 0, 1, mcX0) := rfl
theorem kf_Mod_carry_40 : mcGet K_Mod_carry 40 = (40, false, .getfield 35, 3, (10, 10, [931, 1], [])) := rfl
theorem kf_Mod_carry_43 : mcGet K_Mod_carry 43 = (43, false, .iload_n 3, 1, mcX0) := rfl
theorem kf_Mod_carry_44 : mcGet K_Mod_carry 44 = (44, false, .iconst 1, 1, mcX0) := rfl
theorem kf_Mod_carry_45 : mcGet K_Mod_carry 45 = (45, false, .iadd, 1, mcX0) := rfl
theorem kf_Mod_carry_46 : mcGet K_Mod_carry 46 = (46, false, .iaload, 1, mcX0) := rfl
theorem kf_Mod_carry_47 : mcGet K_Mod_carry 47 = (47, false, .istore 5, 2, mcX0) := rfl
theorem kf_Mod_carry_49 : mcGet K_Mod_carry 49 = (49, false, .iconst 3, 1, mcX0) := rfl
theorem kf_Mod_carry_50 : mcGet K_Mod_carry 50 = (50, false, .iload 4, 2, mcX0) := rfl
theorem kf_Mod_carry_52 : mcGet K_Mod_carry 52 = (52, false, .imul, 1, mcX0) := rfl
theorem kf_Mod_carry_53 : mcGet K_Mod_carry 53 = (53, false, .aload_n 0, 1, mcX0) := rfl
theorem kf_Mod_carry_54 : mcGet K_Mod_carry 54 = (54, false, .getfield 35, 3, (10, 10, [931, 1], [])) := rfl
theorem kf_Mod_carry_57 : mcGet K_Mod_carry 57 = (57, false, .iload_n 3, 1, mcX0) := rfl
theorem kf_Mod_carry_58 : mcGet K_Mod_carry 58 = (58, false, .iconst 2, 1, mcX0) := rfl
theorem kf_Mod_carry_59 : mcGet K_Mod_carry 59 = (59, false, .iadd, 1, mcX0) := rfl
theorem kf_Mod_carry_60 : mcGet K_Mod_carry 60 = (60, false, .iaload, 1, mcX0) := rfl
theorem kf_Mod_carry_61 : mcGet K_Mod_carry 61 = (61, false, .iadd, 1, mcX0) := rfl
theorem kf_Mod_carry_62 : mcGet K_Mod_carry 62 = (62, false, .istore 6, 2, mcX0) := rfl
theorem kf_Mod_carry_64 : mcGet K_Mod_carry 64 = (64, false, .aload_n 0, 1, mcX0) := rfl
theorem kf_Mod_carry_65 : mcGet K_Mod_carry 65 = (65, false, .getfield 35, 3, (10, 10, [931, 1], [])) := rfl
theorem kf_Mod_carry_68 : mcGet K_Mod_carry 68 = (68, false, .iload_n 3, 1, mcX0) := rfl
theorem kf_Mod_carry_69 : mcGet K_Mod_carry 69 = (69, false, .iconst 3, 1, mcX0) := rfl
theorem kf_Mod_carry_70 : mcGet K_Mod_carry 70 = (70, false, .iadd, 1, mcX0) := rfl
theorem kf_Mod_carry_71 : mcGet K_Mod_carry 71 = (71, false, .iaload, 1, mcX0) := rfl
theorem kf_Mod_carry_72 : mcGet K_Mod_carry 72 = (72, false, .istore 7, 2, mcX0) := rfl
theorem kf_Mod_carry_74 : mcGet K_Mod_carry 74 = (74, false, .iload 5, 2, mcX0) := rfl
theorem kf_Mod_carry_76 : mcGet K_Mod_carry 76 = (76, false, .aload_n 0, 1, mcX0) := rfl
theorem kf_Mod_carry_77 : mcGet K_Mod_carry 77 = (77, false, .getfield 41, 3, (10, 12, [933, 1], [])) := rfl
theorem kf_Mod_carry_80 : mcGet K_Mod_carry 80 = (80, false, .iconst 0, 1, mcX0) := rfl
theorem kf_Mod_carry_81 : mcGet K_Mod_carry 81 = (81, false, .iload 4, 2, mcX0) := rfl
theorem kf_Mod_carry_83 : mcGet K_Mod_carry 83 = (83, false, .iadd, 1, mcX0) := rfl
theorem kf_Mod_carry_84 : mcGet K_Mod_carry 84 = (84, false, .iaload, 1, mcX0) := rfl
theorem kf_Mod_carry_85 : mcGet K_Mod_carry 85 = (85, false, .if_icmp .le 7, 3, (92, 0, [], [])) := rfl
theorem kf_Mod_carry_88 : mcGet K_Mod_carry 88 = (88, false, .iconst 1, 1, mcX0) := rfl
theorem kf_Mod_carry_89 : mcGet K_Mod_carry 89 = (89, false, .goto 4, 3, (93, 0, [], [])) := rfl
theorem kf_Mod_carry_92 : mcGet K_Mod_carry 92 = (92, false, .iconst 0, 1, mcX0) := rfl
theorem kf_Mod_carry_93 : mcGet K_Mod_carry 93 = (93, false, .istore 8, 2, mcX0) := rfl
theorem kf_Mod_carry_95 : mcGet K_Mod_carry 95 = (95, false, .iload 8, 2, mcX0) := rfl
theorem kf_Mod_carry_97 : mcGet K_Mod_carry 97 = (97, false, .ifCond .eq 7, 3, (104, 0, [], [])) := rfl
theorem kf_Mod_carry_100 : mcGet K_Mod_carry 100 = (100, false, .iconst 0, 1, mcX0) := rfl
theorem kf_Mod_carry_101 : mcGet K_Mod_carry 101 = (101, false, .goto 12, 3, (113, 0, [], [])) := rfl
theorem kf_Mod_carry_104 : mcGet K_Mod_carry 104 = (104, false, .aload_n 0, 1, mcX0) := rfl
theorem kf_Mod_carry_105 : mcGet K_Mod_carry 105 = (105, false, .getfield 41, 3, (10, 12, [933, 1], [])) := rfl
theorem kf_Mod_carry_108 : mcGet K_Mod_carry 108 = (108, false, .iconst 4, 1, mcX0) := rfl
theorem kf_Mod_carry_109 : mcGet K_Mod_carry 109 = (109, false, .iload 6, 2, mcX0) := rfl
theorem kf_Mod_carry_111 : mcGet K_Mod_carry 111 = (111, false, .iadd, 1, mcX0) := rfl
theorem kf_Mod_carry_112 : mcGet K_Mod_carry 112 = (112, false, .iaload, 1, mcX0) := rfl
theorem kf_Mod_carry_113 : mcGet K_Mod_carry 113 = (113, false, .istore 9, 2, mcX0) := rfl
theorem kf_Mod_carry_115 : mcGet K_Mod_carry 115 = (115, false, .aload_n 0, 1, mcX0) := rfl
theorem kf_Mod_carry_116 : mcGet K_Mod_carry 116 = (116, false, .getfield 60, 3, (10, 19, [940, 2], [])) := rfl
theorem kf_Mod_carry_119 : mcGet K_Mod_carry 119 = (119, false, .ifCond .eq 38, 3, (157, 0, [], [])) := rfl
theorem kf_Mod_carry_122 : mcGet K_Mod_carry 122 = (122, false, .iload 5, 2, mcX0) := rfl
theorem kf_Mod_carry_124 : mcGet K_Mod_carry 124 = (124, false, .aload_n 0, 1, mcX0) := rfl
theorem kf_Mod_carry_125 : mcGet K_Mod_carry 125 = (125, false, .getfield 41, 3, (10, 12, [933, 1], [])) := rfl
theorem kf_Mod_carry_128 : mcGet K_Mod_carry 128 = (128, false, .iconst 0, 1, mcX0) := rfl
theorem kf_Mod_carry_129 : mcGet K_Mod_carry 129 = (129, false, .iload 4, 2, mcX0) := rfl
theorem kf_Mod_carry_131 : mcGet K_Mod_carry 131 = (131, false, .iadd, 1, mcX0) := rfl
theorem kf_Mod_carry_132 : mcGet K_Mod_carry 132 = (132, false, .iaload, 1, mcX0) := rfl
theorem kf_Mod_carry_133 : mcGet K_Mod_carry 133 = (133, false, .if_icmp .lt 24, 3, (157, 0, [], [])) := rfl
theorem kf_Mod_carry_136 : mcGet K_Mod_carry 136 = (136, false, .iload 7, 2, mcX0) := rfl
theorem kf_Mod_carry_138 : mcGet K_Mod_carry 138 = (138, false, .iload 9, 2, mcX0) := rfl
theorem kf_Mod_carry_140 : mcGet K_Mod_carry 140 = (140, false, .iconst 1, 1, mcX0) := rfl
theorem kf_Mod_carry_141 : mcGet K_Mod_carry 141 = (141, false, .iadd, 1, mcX0) := rfl
theorem kf_Mod_carry_142 : mcGet K_Mod_carry 142 = (142, false, .if_icmp .eq 17, 3, (159, 0, [], [])) := rfl
theorem kf_Mod_carry_145 : mcGet K_Mod_carry 145 = (145, false, .iload 8, 2, mcX0) := rfl
theorem kf_Mod_carry_147 : mcGet K_Mod_carry 147 = (147, false, .ifCond .ne 10, 3, (157, 0, [], [])) := rfl
theorem kf_Mod_carry_150 : mcGet K_Mod_carry 150 = (150, false, .iload 7, 2, mcX0) := rfl
theorem kf_Mod_carry_152 : mcGet K_Mod_carry 152 = (152, false, .iload 9, 2, mcX0) := rfl
theorem kf_Mod_carry_154 : mcGet K_Mod_carry 154 = (154, false, .if_icmp .eq 5, 3, (159, 0, [], [])) := rfl
theorem kf_Mod_carry_157 : mcGet K_Mod_carry 157 = (157, false, .iconst 0, 1, mcX0) := rfl
theorem kf_Mod_carry_158 : mcGet K_Mod_carry 158 = (158, false, .ireturn, 1, mcX0) := rfl
theorem kf_Mod_carry_159 : mcGet K_Mod_carry 159 = (159, false, .iload 7, 2, mcX0) := rfl
theorem kf_Mod_carry_161 : mcGet K_Mod_carry 161 = (161, false, .iload 9, 2, mcX0) := rfl
theorem kf_Mod_carry_163 : mcGet K_Mod_carry 163 = (163, false, .if_icmp .ne 21, 3, (184, 0, [], [])) := rfl
theorem kf_Mod_carry_166 : mcGet K_Mod_carry 166 = (166, false, .iload_n 2, 1, mcX0) := rfl
theorem kf_Mod_carry_167 : mcGet K_Mod_carry 167 = (167, false, .ifCond .ne 15, 3, (182, 0, [], [])) := rfl
theorem kf_Mod_carry_170 : mcGet K_Mod_carry 170 = (170, false, .aload_n 0, 1, mcX0) := rfl
theorem kf_Mod_carry_171 : mcGet K_Mod_carry 171 = (171, false, .iload 4, 2, mcX0) := rfl
theorem kf_Mod_carry_173 : mcGet K_Mod_carry 173 = (173, false, .iload 6, 2, mcX0) := rfl
theorem kf_Mod_carry_175 : mcGet K_Mod_carry 175 = (175, false, .iload 5, 2, mcX0) := rfl
theorem kf_Mod_carry_177 : mcGet K_Mod_carry 177 = (177, false, .iload 7, 2, mcX0) := rfl
theorem kf_Mod_carry_179 : mcGet K_Mod_carry 179 = (179, false, .invokevirtual 113, 3, (10, 5, [1044, 1046, 63, 1047, 25, 6], [M_Mod_answer])) := rfl
theorem kf_Mod_carry_182 : mcGet K_Mod_carry 182 = (182, false, .iconst 2, 1, mcX0) := rfl
theorem kf_Mod_carry_183 : mcGet K_Mod_carry 183 = (183, false, .ireturn, 1, mcX0) := rfl
theorem kf_Mod_carry_184 : mcGet K_Mod_carry 184 = (184, false, .aload_n 0, 1, mcX0) := rfl
theorem kf_Mod_carry_185 : mcGet K_Mod_carry 185 = (185, false, .invokevirtual 117, 3, (10, 1, [1048, 1050, 63, 1051, 26, 5], [M_Mod_pass])) := rfl
theorem kf_Mod_carry_188 : mcGet K_Mod_carry 188 = (188, false, .aload_n 0, 1, mcX0) := rfl
theorem kf_Mod_carry_189 : mcGet K_Mod_carry 189 = (189, false, .getfield 68, 3, (10, 18, [939, 0], [])) := rfl
theorem kf_Mod_carry_192 : mcGet K_Mod_carry 192 = (192, false, .istore 10, 2, mcX0) := rfl
theorem kf_Mod_carry_194 : mcGet K_Mod_carry 194 = (194, false, .aload_n 0, 1, mcX0) := rfl
theorem kf_Mod_carry_195 : mcGet K_Mod_carry 195 = (195, false, .aload_n 0, 1, mcX0) := rfl
theorem kf_Mod_carry_196 : mcGet K_Mod_carry 196 = (196, false, .getfield 41, 3, (10, 12, [933, 1], [])) := rfl
theorem kf_Mod_carry_199 : mcGet K_Mod_carry 199 = (199, false, .aload_n 0, 1, mcX0) := rfl
theorem kf_Mod_carry_200 : mcGet K_Mod_carry 200 = (200, false, .getfield 44, 3, (10, 13, [934, 1], [])) := rfl
theorem kf_Mod_carry_203 : mcGet K_Mod_carry 203 = (203, false, .aload_n 0, 1, mcX0) := rfl
theorem kf_Mod_carry_204 : mcGet K_Mod_carry 204 = (204, false, .getfield 47, 3, (10, 14, [935, 1], [])) := rfl
theorem kf_Mod_carry_207 : mcGet K_Mod_carry 207 = (207, false, .aload_n 0, 1, mcX0) := rfl
theorem kf_Mod_carry_208 : mcGet K_Mod_carry 208 = (208, false, .getfield 51, 3, (10, 15, [936, 1], [])) := rfl
theorem kf_Mod_carry_211 : mcGet K_Mod_carry 211 = (211, false, .aload_n 0, 1, mcX0) := rfl
theorem kf_Mod_carry_212 : mcGet K_Mod_carry 212 = (212, false, .getfield 54, 3, (10, 16, [937, 1], [])) := rfl
theorem kf_Mod_carry_215 : mcGet K_Mod_carry 215 = (215, false, .aload_n 0, 1, mcX0) := rfl
theorem kf_Mod_carry_216 : mcGet K_Mod_carry 216 = (216, false, .getfield 57, 3, (10, 17, [938, 1], [])) := rfl
theorem kf_Mod_carry_219 : mcGet K_Mod_carry 219 = (219, false, .invokevirtual 120, 3, (10, 7, [1059, 1061, 63, 1062, 28, 8], [M_Mod_save])) := rfl
theorem kf_Mod_carry_222 : mcGet K_Mod_carry 222 = (222, false, .iload 8, 2, mcX0) := rfl
theorem kf_Mod_carry_224 : mcGet K_Mod_carry 224 = (224, false, .ifCond .eq 11, 3, (235, 0, [], [])) := rfl
theorem kf_Mod_carry_227 : mcGet K_Mod_carry 227 = (227, false, .aload_n 0, 1, mcX0) := rfl
theorem kf_Mod_carry_228 : mcGet K_Mod_carry 228 = (228, false, .iload 4, 2, mcX0) := rfl
theorem kf_Mod_carry_230 : mcGet K_Mod_carry 230 = (230, false, .iload 5, 2, mcX0) := rfl
theorem kf_Mod_carry_232 : mcGet K_Mod_carry 232 = (232, false, .invokevirtual 124, 3, (10, 3, [1063, 1065, 63, 1066, 29, 4], [M_Mod_newLife])) := rfl
theorem kf_Mod_carry_235 : mcGet K_Mod_carry 235 = (235, false, .aload_n 0, 1, mcX0) := rfl
theorem kf_Mod_carry_236 : mcGet K_Mod_carry 236 = (236, false, .iload_n 1, 1, mcX0) := rfl
theorem kf_Mod_carry_237 : mcGet K_Mod_carry 237 = (237, false, .iload 4, 2, mcX0) := rfl
theorem kf_Mod_carry_239 : mcGet K_Mod_carry 239 = (239, false, .iload 6, 2, mcX0) := rfl
theorem kf_Mod_carry_241 : mcGet K_Mod_carry 241 = (241, false, .invokevirtual 128, 3, (10, 4, [1067, 1069, 63, 1070, 30, 9], [M_Mod_perform])) := rfl
theorem kf_Mod_carry_244 : mcGet K_Mod_carry 244 = (244, false, .istore 11, 2, mcX0) := rfl
theorem kf_Mod_carry_246 : mcGet K_Mod_carry 246 = (246, false, .aload_n 0, 1, mcX0) := rfl
theorem kf_Mod_carry_247 : mcGet K_Mod_carry 247 = (247, false, .getfield 41, 3, (10, 12, [933, 1], [])) := rfl
theorem kf_Mod_carry_250 : mcGet K_Mod_carry 250 = (250, false, .iconst 4, 1, mcX0) := rfl
theorem kf_Mod_carry_251 : mcGet K_Mod_carry 251 = (251, false, .iload 6, 2, mcX0) := rfl
theorem kf_Mod_carry_253 : mcGet K_Mod_carry 253 = (253, false, .iadd, 1, mcX0) := rfl
theorem kf_Mod_carry_254 : mcGet K_Mod_carry 254 = (254, false, .iload 7, 2, mcX0) := rfl
theorem kf_Mod_carry_256 : mcGet K_Mod_carry 256 = (256, false, .iastore, 1, mcX0) := rfl
theorem kf_Mod_carry_257 : mcGet K_Mod_carry 257 = (257, false, .aload_n 0, 1, mcX0) := rfl
theorem kf_Mod_carry_258 : mcGet K_Mod_carry 258 = (258, false, .getfield 41, 3, (10, 12, [933, 1], [])) := rfl
theorem kf_Mod_carry_261 : mcGet K_Mod_carry 261 = (261, false, .bipush 16, 2, mcX0) := rfl
theorem kf_Mod_carry_263 : mcGet K_Mod_carry 263 = (263, false, .iload 6, 2, mcX0) := rfl
theorem kf_Mod_carry_265 : mcGet K_Mod_carry 265 = (265, false, .iadd, 1, mcX0) := rfl
theorem kf_Mod_carry_266 : mcGet K_Mod_carry 266 = (266, false, .iload 11, 2, mcX0) := rfl
theorem kf_Mod_carry_268 : mcGet K_Mod_carry 268 = (268, false, .iastore, 1, mcX0) := rfl
theorem kf_Mod_carry_269 : mcGet K_Mod_carry 269 = (269, false, .aload_n 0, 1, mcX0) := rfl
theorem kf_Mod_carry_270 : mcGet K_Mod_carry 270 = (270, false, .getfield 131, 3, (10, 21, [942, 2], [])) := rfl
theorem kf_Mod_carry_273 : mcGet K_Mod_carry 273 = (273, false, .ifCond .eq 75, 3, (348, 0, [], [])) := rfl
theorem kf_Mod_carry_276 : mcGet K_Mod_carry 276 = (276, false, .aload_n 0, 1, mcX0) := rfl
theorem kf_Mod_carry_277 : mcGet K_Mod_carry 277 = (277, false, .getfield 64, 3, (10, 20, [941, 0], [])) := rfl
theorem kf_Mod_carry_280 : mcGet K_Mod_carry 280 = (280, false, .iconst 1, 1, mcX0) := rfl
theorem kf_Mod_carry_281 : mcGet K_Mod_carry 281 = (281, false, .iload 11, 2, mcX0) := rfl
theorem kf_Mod_carry_283 : mcGet K_Mod_carry 283 = (283, false, .iadd, 1, mcX0) := rfl
theorem kf_Mod_carry_284 : mcGet K_Mod_carry 284 = (284, false, .if_icmp .ge 7, 3, (291, 0, [], [])) := rfl
theorem kf_Mod_carry_287 : mcGet K_Mod_carry 287 = (287, false, .iconst 1, 1, mcX0) := rfl
theorem kf_Mod_carry_288 : mcGet K_Mod_carry 288 = (288, false, .goto 4, 3, (292, 0, [], [])) := rfl
theorem kf_Mod_carry_291 : mcGet K_Mod_carry 291 = (291, false, .iconst 0, 1, mcX0) := rfl
theorem kf_Mod_carry_292 : mcGet K_Mod_carry 292 = (292, false, .istore 12, 2, mcX0) := rfl
theorem kf_Mod_carry_294 : mcGet K_Mod_carry 294 = (294, false, .iload 12, 2, mcX0) := rfl
theorem kf_Mod_carry_296 : mcGet K_Mod_carry 296 = (296, false, .ifCond .eq 37, 3, (333, 0, [], [])) := rfl
theorem kf_Mod_carry_299 : mcGet K_Mod_carry 299 = (299, false, .aload_n 0, 1, mcX0) := rfl
theorem kf_Mod_carry_300 : mcGet K_Mod_carry 300 = (300, false, .aload_n 0, 1, mcX0) := rfl
theorem kf_Mod_carry_301 : mcGet K_Mod_carry 301 = (301, false, .getfield 44, 3, (10, 13, [934, 1], [])) := rfl
theorem kf_Mod_carry_304 : mcGet K_Mod_carry 304 = (304, false, .aload_n 0, 1, mcX0) := rfl
theorem kf_Mod_carry_305 : mcGet K_Mod_carry 305 = (305, false, .getfield 41, 3, (10, 12, [933, 1], [])) := rfl
theorem kf_Mod_carry_308 : mcGet K_Mod_carry 308 = (308, false, .aload_n 0, 1, mcX0) := rfl
theorem kf_Mod_carry_309 : mcGet K_Mod_carry 309 = (309, false, .getfield 51, 3, (10, 15, [936, 1], [])) := rfl
theorem kf_Mod_carry_312 : mcGet K_Mod_carry 312 = (312, false, .aload_n 0, 1, mcX0) := rfl
theorem kf_Mod_carry_313 : mcGet K_Mod_carry 313 = (313, false, .getfield 47, 3, (10, 14, [935, 1], [])) := rfl
theorem kf_Mod_carry_316 : mcGet K_Mod_carry 316 = (316, false, .aload_n 0, 1, mcX0) := rfl
theorem kf_Mod_carry_317 : mcGet K_Mod_carry 317 = (317, false, .getfield 57, 3, (10, 17, [938, 1], [])) := rfl
theorem kf_Mod_carry_320 : mcGet K_Mod_carry 320 = (320, false, .aload_n 0, 1, mcX0) := rfl
theorem kf_Mod_carry_321 : mcGet K_Mod_carry 321 = (321, false, .getfield 54, 3, (10, 16, [937, 1], [])) := rfl
theorem kf_Mod_carry_324 : mcGet K_Mod_carry 324 = (324, false, .invokevirtual 120, 3, (10, 7, [1059, 1061, 63, 1062, 28, 8], [M_Mod_save])) := rfl
theorem kf_Mod_carry_327 : mcGet K_Mod_carry 327 = (327, false, .aload_n 0, 1, mcX0) := rfl
theorem kf_Mod_carry_328 : mcGet K_Mod_carry 328 = (328, false, .iload 10, 2, mcX0) := rfl
theorem kf_Mod_carry_330 : mcGet K_Mod_carry 330 = (330, false, .putfield 68, 3, (10, 18, [939, 0], [])) := rfl
theorem kf_Mod_carry_333 : mcGet K_Mod_carry 333 = (333, false, .aload_n 0, 1, mcX0) := rfl
theorem kf_Mod_carry_334 : mcGet K_Mod_carry 334 = (334, false, .invokevirtual 134, 3, (10, 1, [1153, 1155, 63, 1156, 50, 2], [M_Mod_halt])) := rfl
theorem kf_Mod_carry_337 : mcGet K_Mod_carry 337 = (337, false, .iload 12, 2, mcX0) := rfl
theorem kf_Mod_carry_339 : mcGet K_Mod_carry 339 = (339, false, .ifCond .eq 7, 3, (346, 0, [], [])) := rfl
theorem kf_Mod_carry_342 : mcGet K_Mod_carry 342 = (342, false, .iconst 3, 1, mcX0) := rfl
theorem kf_Mod_carry_343 : mcGet K_Mod_carry 343 = (343, false, .goto 4, 3, (347, 0, [], [])) := rfl
theorem kf_Mod_carry_346 : mcGet K_Mod_carry 346 = (346, false, .iconst 1, 1, mcX0) := rfl
theorem kf_Mod_carry_347 : mcGet K_Mod_carry 347 = (347, false, .ireturn, 1, mcX0) := rfl
theorem kf_Mod_carry_348 : mcGet K_Mod_carry 348 = (348, false, .iload_n 2, 1, mcX0) := rfl
theorem kf_Mod_carry_349 : mcGet K_Mod_carry 349 = (349, false, .ifCond .ne 15, 3, (364, 0, [], [])) := rfl
theorem kf_Mod_carry_352 : mcGet K_Mod_carry 352 = (352, false, .aload_n 0, 1, mcX0) := rfl
theorem kf_Mod_carry_353 : mcGet K_Mod_carry 353 = (353, false, .iload 4, 2, mcX0) := rfl
theorem kf_Mod_carry_355 : mcGet K_Mod_carry 355 = (355, false, .iload 6, 2, mcX0) := rfl
theorem kf_Mod_carry_357 : mcGet K_Mod_carry 357 = (357, false, .iload 5, 2, mcX0) := rfl
theorem kf_Mod_carry_359 : mcGet K_Mod_carry 359 = (359, false, .iload 7, 2, mcX0) := rfl
theorem kf_Mod_carry_361 : mcGet K_Mod_carry 361 = (361, false, .invokevirtual 113, 3, (10, 5, [1044, 1046, 63, 1047, 25, 6], [M_Mod_answer])) := rfl
theorem kf_Mod_carry_364 : mcGet K_Mod_carry 364 = (364, false, .iconst 1, 1, mcX0) := rfl
theorem kf_Mod_carry_365 : mcGet K_Mod_carry 365 = (365, false, .ireturn, 1, mcX0) := rfl
theorem kf_Mod_claim_0 : mcGet K_Mod_claim 0 = (0, false, .aload_n 0, 1, mcX0) := rfl
theorem kf_Mod_claim_1 : mcGet K_Mod_claim 1 = (1, false, .iload_n 1, 1, mcX0) := rfl
theorem kf_Mod_claim_2 : mcGet K_Mod_claim 2 = (2, false, .invokevirtual 189, 3, (10, 2, [1090, 1092, 63, 1093, 35, 2], [M_Mod_isDirectory])) := rfl
theorem kf_Mod_claim_5 : mcGet K_Mod_claim 5 = (5, false, .ifCond .eq 5, 3, (10, 0, [], [])) := rfl
theorem kf_Mod_claim_8 : mcGet K_Mod_claim 8 = (8, false, .iconst 4, 1, mcX0) := rfl
theorem kf_Mod_claim_9 : mcGet K_Mod_claim 9 = (9, false, .ireturn, 1, mcX0) := rfl
theorem kf_Mod_claim_10 : mcGet K_Mod_claim 10 = (10, false, .iload_n 2, 1, mcX0) := rfl
theorem kf_Mod_claim_11 : mcGet K_Mod_claim 11 = (11, false, .iload_n 3, 1, mcX0) := rfl
theorem kf_Mod_claim_12 : mcGet K_Mod_claim 12 = (12, false, .invokestatic 202, 3, (0, 2, [1142, 1143, 63, 1144, 0, 2], [M_Mod_areBytes])) := rfl
theorem kf_Mod_claim_15 : mcGet K_Mod_claim 15 = (15, false, .ifCond .eq 15, 3, (30, 0, [], [])) := rfl
theorem kf_Mod_claim_18 : mcGet K_Mod_claim 18 = (18, false, .iload 4, 2, mcX0) := rfl
theorem kf_Mod_claim_20 : mcGet K_Mod_claim 20 = (20, false, .iconst 1, 1, mcX0) := rfl
theorem kf_Mod_claim_21 : mcGet K_Mod_claim 21 = (21, false, .if_icmp .lt 9, 3, (30, 0, [], [])) := rfl
theorem kf_Mod_claim_24 : mcGet K_Mod_claim 24 = (24, false, .iload 4, 2, mcX0) := rfl
theorem kf_Mod_claim_26 : mcGet K_Mod_claim 26 = (26, false, .iconst 2, 1, mcX0) := rfl
theorem kf_Mod_claim_27 : mcGet K_Mod_claim 27 = (27, false, .if_icmp .le 6, 3, (33, 0, [], [])) := rfl
theorem kf_Mod_claim_30 : mcGet K_Mod_claim 30 = (30, false, .bipush 6, 2, mcX0) := rfl
theorem kf_Mod_claim_32 : mcGet K_Mod_claim 32 = (32, false, .ireturn, 1, mcX0) := rfl
theorem kf_Mod_claim_33 : mcGet K_Mod_claim 33 = (33, false, .aload_n 0, 1, mcX0) := rfl
theorem kf_Mod_claim_34 : mcGet K_Mod_claim 34 = (34, false, .invokevirtual 103, 3, (10, 1, [1055, 1057, 63, 1058, 27, 1], [M_Mod_isGrace])) := rfl
theorem kf_Mod_claim_37 : mcGet K_Mod_claim 37 = (37, false, .istore 5, 2, mcX0) := rfl
theorem kf_Mod_claim_39 : mcGet K_Mod_claim 39 = (39, false, .iload_n 2, 1, mcX0) := rfl
theorem kf_Mod_claim_40 : mcGet K_Mod_claim 40 = (40, false, .istore 6, 2, mcX0) := rfl
theorem kf_Mod_claim_42 : mcGet K_Mod_claim 42 = (42, true, .iload 6, 2, mcX0) := rfl
theorem kf_Mod_claim_44 : mcGet K_Mod_claim 44 = (44, false, .iload_n 3, 1, mcX0) := rfl
theorem kf_Mod_claim_45 : mcGet K_Mod_claim 45 = (45, false, .if_icmp .gt 43, 3, (88, 0, [], [])) := rfl
theorem kf_Mod_claim_48 : mcGet K_Mod_claim 48 = (48, false, .iload 5, 2, mcX0) := rfl
theorem kf_Mod_claim_50 : mcGet K_Mod_claim 50 = (50, false, .ifCond .eq 29, 3, (79, 0, [], [])) := rfl
theorem kf_Mod_claim_53 : mcGet K_Mod_claim 53 = (53, false, .aload_n 0, 1, mcX0) := rfl
theorem kf_Mod_claim_54 : mcGet K_Mod_claim 54 = (54, false, .getfield 47, 3, (10, 14, [935, 1], [])) := rfl
theorem kf_Mod_claim_57 : mcGet K_Mod_claim 57 = (57, false, .aload_n 0, 1, mcX0) := rfl
theorem kf_Mod_claim_58 : mcGet K_Mod_claim 58 = (58, false, .getfield 107, 3, (10, 24, [945, 0], [])) := rfl
theorem kf_Mod_claim_61 : mcGet K_Mod_claim 61 = (61, false, .iload_n 1, 1, mcX0) := rfl
theorem kf_Mod_claim_62 : mcGet K_Mod_claim 62 = (62, false, .iload 6, 2, mcX0) := rfl
theorem kf_Mod_claim_64 : mcGet K_Mod_claim 64 = (64, false, .invokestatic 99, 3, (0, 3, [1052, 1053, 63, 1054, 0, 3], [M_Mod_lockAt])) := rfl
theorem kf_Mod_claim_67 : mcGet K_Mod_claim 67 = (67, false, .baload, 1, mcX0) := rfl
theorem kf_Mod_claim_68 : mcGet K_Mod_claim 68 = (68, false, .iconst 4, 1, mcX0) := rfl
theorem kf_Mod_claim_69 : mcGet K_Mod_claim 69 = (69, false, .iload 4, 2, mcX0) := rfl
theorem kf_Mod_claim_71 : mcGet K_Mod_claim 71 = (71, false, .iadd, 1, mcX0) := rfl
theorem kf_Mod_claim_72 : mcGet K_Mod_claim 72 = (72, false, .if_icmp .ne 7, 3, (79, 0, [], [])) := rfl
theorem kf_Mod_claim_75 : mcGet K_Mod_claim 75 = (75, false, .iconst 1, 1, mcX0) := rfl
theorem kf_Mod_claim_76 : mcGet K_Mod_claim 76 = (76, false, .goto 4, 3, (80, 0, [], [])) := rfl
theorem kf_Mod_claim_79 : mcGet K_Mod_claim 79 = (79, false, .iconst 0, 1, mcX0) := rfl
theorem kf_Mod_claim_80 : mcGet K_Mod_claim 80 = (80, false, .istore 5, 2, mcX0) := rfl
theorem kf_Mod_claim_82 : mcGet K_Mod_claim 82 = (82, false, .iinc 6 1, 3, mcX0) := rfl
theorem kf_Mod_claim_85 : mcGet K_Mod_claim 85 = (85, false, .goto (-43), 3, (42, 0, [], [])) := rfl
theorem kf_Mod_claim_88 : mcGet K_Mod_claim 88 = (88, false, .iload 5, 2, mcX0) := rfl
theorem kf_Mod_claim_90 : mcGet K_Mod_claim 90 = (90, false, .ifCond .ne 6, 3, (96, 0, [], [])) := rfl
theorem kf_Mod_claim_93 : mcGet K_Mod_claim 93 = (93, false, .bipush 10, 2, mcX0) := rfl
theorem kf_Mod_claim_95 : mcGet K_Mod_claim 95 = (95, false, .ireturn, 1, mcX0) := rfl
theorem kf_Mod_claim_96 : mcGet K_Mod_claim 96 = (96, false, .iload_n 2, 1, mcX0) := rfl
theorem kf_Mod_claim_97 : mcGet K_Mod_claim 97 = (97, false, .istore 6, 2, mcX0) := rfl
theorem kf_Mod_claim_99 : mcGet K_Mod_claim 99 = (99, true, .iload 6, 2, mcX0) := rfl
theorem kf_Mod_claim_101 : mcGet K_Mod_claim 101 = (101, false, .iload_n 3, 1, mcX0) := rfl
theorem kf_Mod_claim_102 : mcGet K_Mod_claim 102 = (102, false, .if_icmp .gt 27, 3, (129, 0, [], [])) := rfl
theorem kf_Mod_claim_105 : mcGet K_Mod_claim 105 = (105, false, .aload_n 0, 1, mcX0) := rfl
theorem kf_Mod_claim_106 : mcGet K_Mod_claim 106 = (106, false, .getfield 47, 3, (10, 14, [935, 1], [])) := rfl
theorem kf_Mod_claim_109 : mcGet K_Mod_claim 109 = (109, false, .aload_n 0, 1, mcX0) := rfl
theorem kf_Mod_claim_110 : mcGet K_Mod_claim 110 = (110, false, .getfield 107, 3, (10, 24, [945, 0], [])) := rfl
theorem kf_Mod_claim_113 : mcGet K_Mod_claim 113 = (113, false, .iload_n 1, 1, mcX0) := rfl
theorem kf_Mod_claim_114 : mcGet K_Mod_claim 114 = (114, false, .iload 6, 2, mcX0) := rfl
theorem kf_Mod_claim_116 : mcGet K_Mod_claim 116 = (116, false, .invokestatic 99, 3, (0, 3, [1052, 1053, 63, 1054, 0, 3], [M_Mod_lockAt])) := rfl
theorem kf_Mod_claim_119 : mcGet K_Mod_claim 119 = (119, false, .iload 4, 2, mcX0) := rfl
theorem kf_Mod_claim_121 : mcGet K_Mod_claim 121 = (121, false, .i2b, 1, mcX0) := rfl
theorem kf_Mod_claim_122 : mcGet K_Mod_claim 122 = (122, false, .bastore, 1, mcX0) := rfl
theorem kf_Mod_claim_123 : mcGet K_Mod_claim 123 = (123, false, .iinc 6 1, 3, mcX0) := rfl
theorem kf_Mod_claim_126 : mcGet K_Mod_claim 126 = (126, false, .goto (-27), 3, (99, 0, [], [])) := rfl
theorem kf_Mod_claim_129 : mcGet K_Mod_claim 129 = (129, false, .aload_n 0, 1, mcX0) := rfl
theorem kf_Mod_claim_130 : mcGet K_Mod_claim 130 = (130, false, .getfield 54, 3, (10, 16, [937, 1], [])) := rfl
theorem kf_Mod_claim_133 : mcGet K_Mod_claim 133 = (133, false, .aload_n 0, 1, mcX0) := rfl
theorem kf_Mod_claim_134 : mcGet K_Mod_claim 134 = (134, false, .getfield 107, 3, (10, 24, [945, 0], [])) := rfl
theorem kf_Mod_claim_137 : mcGet K_Mod_claim 137 = (137, false, .aload_n 0, 1, mcX0) := rfl
theorem kf_Mod_claim_138 : mcGet K_Mod_claim 138 = (138, false, .getfield 93, 3, (10, 22, [943, 0], [])) := rfl
theorem kf_Mod_claim_141 : mcGet K_Mod_claim 141 = (141, false, .sipush 30000, 3, mcX0) := rfl
theorem kf_Mod_claim_144 : mcGet K_Mod_claim 144 = (144, false, .iadd, 1, mcX0) := rfl
theorem kf_Mod_claim_145 : mcGet K_Mod_claim 145 = (145, false, .iastore, 1, mcX0) := rfl
theorem kf_Mod_claim_146 : mcGet K_Mod_claim 146 = (146, false, .iconst 0, 1, mcX0) := rfl
theorem kf_Mod_claim_147 : mcGet K_Mod_claim 147 = (147, false, .ireturn, 1, mcX0) := rfl
theorem kf_Mod_code_0 : mcGet K_Mod_code 0 = (0, false, .aload_n 0, 1, mcX0) := rfl
theorem kf_Mod_code_1 : mcGet K_Mod_code 1 = (1, false, .iload_n 1, 1, mcX0) := rfl
theorem kf_Mod_code_2 : mcGet K_Mod_code 2 = (2, false, .iload_n 2, 1, mcX0) := rfl
theorem kf_Mod_code_3 : mcGet K_Mod_code 3 = (3, false, .invokestatic 82, 3, (0, 2, [1021, 1022, 63, 1023, 0, 2], [M_Mod_isSlot])) := rfl
theorem kf_Mod_code_6 : mcGet K_Mod_code 6 = (6, false, .ifCond .ne 7, 3, (13, 0, [], [])) := rfl
theorem kf_Mod_code_9 : mcGet K_Mod_code 9 = (9, false, .iconst 1, 1, mcX0) := rfl
theorem kf_Mod_code_10 : mcGet K_Mod_code 10 = (10, false, .goto 4, 3, (14, 0, [], [])) := rfl
theorem kf_Mod_code_13 : mcGet K_Mod_code 13 = (13, false, .iconst 0, 1, mcX0) := rfl
theorem kf_Mod_code_14 : mcGet K_Mod_code 14 = (14, false, .iconst 0, 1, mcX0) := rfl
theorem kf_Mod_code_15 : mcGet K_Mod_code 15 = (15, false, .invokevirtual 78, 3, (10, 3, [1013, 1015, 63, 1016, 23, 3], [M_Mod_refused])) := rfl
theorem kf_Mod_code_18 : mcGet K_Mod_code 18 = (18, false, .ifCond .eq 5, 3, (23, 0, [], [])) := rfl
theorem kf_Mod_code_21 : mcGet K_Mod_code 21 = (21, false, .iconst 0, 1, mcX0) := rfl
theorem kf_Mod_code_22 : mcGet K_Mod_code 22 = (22, false, .ireturn, 1, mcX0) := rfl
theorem kf_Mod_code_23 : mcGet K_Mod_code 23 = (23, false, .iconst 3, 1, mcX0) := rfl
theorem kf_Mod_code_24 : mcGet K_Mod_code 24 = (24, false, .iload_n 1, 1, mcX0) := rfl
theorem kf_Mod_code_25 : mcGet K_Mod_code 25 = (25, false, .imul, 1, mcX0) := rfl
theorem kf_Mod_code_26 : mcGet K_Mod_code 26 = (26, false, .iload_n 2, 1, mcX0) := rfl
theorem kf_Mod_code_27 : mcGet K_Mod_code 27 = (27, false, .iadd, 1, mcX0) := rfl
theorem kf_Mod_code_28 : mcGet K_Mod_code 28 = (28, false, .istore 4, 2, mcX0) := rfl
theorem kf_Mod_code_30 : mcGet K_Mod_code 30 = (30, false, .aload_n 0, 1, mcX0) := rfl
theorem kf_Mod_code_31 : mcGet K_Mod_code 31 = (31, false, .getfield 22, 3, (10, 5, [926, 1], [])) := rfl
theorem kf_Mod_code_34 : mcGet K_Mod_code 34 = (34, false, .iload 4, 2, mcX0) := rfl
theorem kf_Mod_code_36 : mcGet K_Mod_code 36 = (36, false, .baload, 1, mcX0) := rfl
theorem kf_Mod_code_37 : mcGet K_Mod_code 37 = (37, false, .ifCond .eq 8, 3, (45, 0, [], [])) := rfl
theorem kf_Mod_code_40 : mcGet K_Mod_code 40 = (40, false, .bipush (-2), 2, mcX0) := rfl
theorem kf_Mod_code_42 : mcGet K_Mod_code 42 = (42, false, .goto 28, 3, (70, 0, [], [])) := rfl
theorem kf_Mod_code_45 : mcGet K_Mod_code 45 = (45, false, .aload_n 0, 1, mcX0) := rfl
theorem kf_Mod_code_46 : mcGet K_Mod_code 46 = (46, false, .iload_n 1, 1, mcX0) := rfl
theorem kf_Mod_code_47 : mcGet K_Mod_code 47 = (47, false, .iload_n 2, 1, mcX0) := rfl
theorem kf_Mod_code_48 : mcGet K_Mod_code 48 = (48, false, .iload_n 3, 1, mcX0) := rfl
theorem kf_Mod_code_49 : mcGet K_Mod_code 49 = (49, false, .invokevirtual 89, 3, (10, 4, [1032, 1034, 63, 1035, 24, 5], [M_Mod_hasAnswer])) := rfl
theorem kf_Mod_code_52 : mcGet K_Mod_code 52 = (52, false, .ifCond .eq 17, 3, (69, 0, [], [])) := rfl
theorem kf_Mod_code_55 : mcGet K_Mod_code 55 = (55, false, .aload_n 0, 1, mcX0) := rfl
theorem kf_Mod_code_56 : mcGet K_Mod_code 56 = (56, false, .getfield 29, 3, (10, 7, [928, 1], [])) := rfl
theorem kf_Mod_code_59 : mcGet K_Mod_code 59 = (59, false, .iconst 4, 1, mcX0) := rfl
theorem kf_Mod_code_60 : mcGet K_Mod_code 60 = (60, false, .iload 4, 2, mcX0) := rfl
theorem kf_Mod_code_62 : mcGet K_Mod_code 62 = (62, false, .imul, 1, mcX0) := rfl
theorem kf_Mod_code_63 : mcGet K_Mod_code 63 = (63, false, .iload_n 3, 1, mcX0) := rfl
theorem kf_Mod_code_64 : mcGet K_Mod_code 64 = (64, false, .iadd, 1, mcX0) := rfl
theorem kf_Mod_code_65 : mcGet K_Mod_code 65 = (65, false, .iaload, 1, mcX0) := rfl
theorem kf_Mod_code_66 : mcGet K_Mod_code 66 = (66, false, .goto 4, 3, (70, 0, [], [])) := rfl
theorem kf_Mod_code_69 : mcGet K_Mod_code 69 = (69, false, .iconst (-1), 1, mcX0) := rfl
theorem kf_Mod_code_70 : mcGet K_Mod_code 70 = (70, false, .ireturn, 1, mcX0) := rfl
theorem kf_Mod_doStep_0 : mcGet K_Mod_doStep 0 = (0, false, .iload_n 2, 1, mcX0) := rfl
theorem kf_Mod_doStep_1 : mcGet K_Mod_doStep 1 = (1, false, .invokestatic 144, 3, (0, 1, [1075, 1076, 63, 1077, 0, 1], [M_Mod_isHandle])) := rfl
theorem kf_Mod_doStep_4 : mcGet K_Mod_doStep 4 = (4, false, .ifCond .ne 6, 3, (10, 0, [], [])) := rfl
theorem kf_Mod_doStep_7 : mcGet K_Mod_doStep 7 = (7, false, .bipush 6, 2, mcX0) := rfl
theorem kf_Mod_doStep_9 : mcGet K_Mod_doStep 9 = (9, false, .ireturn, 1, mcX0) := rfl
theorem kf_Mod_doStep_10 : mcGet K_Mod_doStep 10 = (10, false, .iload_n 1, 1, mcX0) := rfl
theorem kf_Mod_doStep_11 : mcGet K_Mod_doStep 11 = (11, false, .ifCond .ne 11, 3, (22, 0, [], [])) := rfl
theorem kf_Mod_doStep_14 : mcGet K_Mod_doStep 14 = (14, false, .aload_n 0, 1, mcX0) := rfl
theorem kf_Mod_doStep_15 : mcGet K_Mod_doStep 15 = (15, false, .iload_n 2, 1, mcX0) := rfl
theorem kf_Mod_doStep_16 : mcGet K_Mod_doStep 16 = (16, false, .iconst 0, 1, mcX0) := rfl
theorem kf_Mod_doStep_17 : mcGet K_Mod_doStep 17 = (17, false, .invokevirtual 147, 3, (10, 3, [1078, 1080, 63, 1081, 32, 3], [M_Mod_bind])) := rfl
theorem kf_Mod_doStep_20 : mcGet K_Mod_doStep 20 = (20, false, .iconst 0, 1, mcX0) := rfl
theorem kf_Mod_doStep_21 : mcGet K_Mod_doStep 21 = (21, false, .ireturn, 1, mcX0) := rfl
theorem kf_Mod_doStep_22 : mcGet K_Mod_doStep 22 = (22, false, .iload_n 1, 1, mcX0) := rfl
theorem kf_Mod_doStep_23 : mcGet K_Mod_doStep 23 = (23, false, .bipush 12, 2, mcX0) := rfl
theorem kf_Mod_doStep_25 : mcGet K_Mod_doStep 25 = (25, false, .if_icmp .ne 22, 3, (47, 0, [], [])) := rfl
theorem kf_Mod_doStep_28 : mcGet K_Mod_doStep 28 = (28, false, .aload_n 0, 1, mcX0) := rfl
theorem kf_Mod_doStep_29 : mcGet K_Mod_doStep 29 = (29, false, .getfield 54, 3, (10, 16, [937, 1], [])) := rfl
theorem kf_Mod_doStep_32 : mcGet K_Mod_doStep 32 = (32, false, .aload_n 0, 1, mcX0) := rfl
theorem kf_Mod_doStep_33 : mcGet K_Mod_doStep 33 = (33, false, .getfield 107, 3, (10, 24, [945, 0], [])) := rfl
theorem kf_Mod_doStep_36 : mcGet K_Mod_doStep 36 = (36, false, .aload_n 0, 1, mcX0) := rfl
theorem kf_Mod_doStep_37 : mcGet K_Mod_doStep 37 = (37, false, .getfield 93, 3, (10, 22, [943, 0], [])) := rfl
theorem kf_Mod_doStep_40 : mcGet K_Mod_doStep 40 = (40, false, .sipush 30000, 3, mcX0) := rfl
theorem kf_Mod_doStep_43 : mcGet K_Mod_doStep 43 = (43, false, .iadd, 1, mcX0) := rfl
theorem kf_Mod_doStep_44 : mcGet K_Mod_doStep 44 = (44, false, .iastore, 1, mcX0) := rfl
theorem kf_Mod_doStep_45 : mcGet K_Mod_doStep 45 = (45, false, .iconst 0, 1, mcX0) := rfl
theorem kf_Mod_doStep_46 : mcGet K_Mod_doStep 46 = (46, false, .ireturn, 1, mcX0) := rfl
theorem kf_Mod_doStep_47 : mcGet K_Mod_doStep 47 = (47, false, .aload_n 0, 1, mcX0) := rfl
theorem kf_Mod_doStep_48 : mcGet K_Mod_doStep 48 = (48, false, .aload_n 0, 1, mcX0) := rfl
theorem kf_Mod_doStep_49 : mcGet K_Mod_doStep 49 = (49, false, .getfield 107, 3, (10, 24, [945, 0], [])) := rfl
theorem kf_Mod_doStep_52 : mcGet K_Mod_doStep 52 = (52, false, .iload_n 2, 1, mcX0) := rfl
theorem kf_Mod_doStep_53 : mcGet K_Mod_doStep 53 = (53, false, .invokevirtual 150, 3, (10, 3, [1082, 1084, 63, 1085, 33, 4], [M_Mod_nodeOf])) := rfl
theorem kf_Mod_doStep_56 : mcGet K_Mod_doStep 56 = (56, false, .istore 6, 2, mcX0) := rfl
theorem kf_Mod_doStep_58 : mcGet K_Mod_doStep 58 = (58, false, .iload 6, 2, mcX0) := rfl
theorem kf_Mod_doStep_60 : mcGet K_Mod_doStep 60 = (60, false, .ifCond .ge 5, 3, (65, 0, [], [])) := rfl
theorem kf_Mod_doStep_63 : mcGet K_Mod_doStep 63 = (63, false, .iconst 1, 1, mcX0) := rfl
theorem kf_Mod_doStep_64 : mcGet K_Mod_doStep 64 = (64, false, .ireturn, 1, mcX0) := rfl
theorem kf_Mod_doStep_65 : mcGet K_Mod_doStep 65 = (65, false, .iload_n 1, 1, mcX0) := rfl
theorem kf_Mod_doStep_66 : mcGet K_Mod_doStep 66 = (66, false, .tableswitch 166 1 11 #[58, 68, 78, 87, 99, 107, 107, 128, 136, 144, 156], 58, (232, 0, [124, 134, 144, 153, 165, 173, 173, 194, 202, 210, 222], [])) := rfl
theorem kf_Mod_doStep_124 : mcGet K_Mod_doStep 124 = (124, false, .aload_n 0, 1, mcX0) := rfl
theorem kf_Mod_doStep_125 : mcGet K_Mod_doStep 125 = (125, false, .iload 6, 2, mcX0) := rfl
theorem kf_Mod_doStep_127 : mcGet K_Mod_doStep 127 = (127, false, .iload_n 3, 1, mcX0) := rfl
theorem kf_Mod_doStep_128 : mcGet K_Mod_doStep 128 = (128, false, .iload 4, 2, mcX0) := rfl
theorem kf_Mod_doStep_130 : mcGet K_Mod_doStep 130 = (130, false, .invokevirtual 154, 3, (10, 4, [1086, 1088, 63, 1089, 34, 5], [M_Mod_walk])) := rfl
theorem kf_Mod_doStep_133 : mcGet K_Mod_doStep 133 = (133, false, .ireturn, 1, mcX0) := rfl
theorem kf_Mod_doStep_134 : mcGet K_Mod_doStep 134 = (134, false, .aload_n 0, 1, mcX0) := rfl
theorem kf_Mod_doStep_135 : mcGet K_Mod_doStep 135 = (135, false, .iload 6, 2, mcX0) := rfl
theorem kf_Mod_doStep_137 : mcGet K_Mod_doStep 137 = (137, false, .iload_n 3, 1, mcX0) := rfl
theorem kf_Mod_doStep_138 : mcGet K_Mod_doStep 138 = (138, false, .iload 4, 2, mcX0) := rfl
theorem kf_Mod_doStep_140 : mcGet K_Mod_doStep 140 = (140, false, .invokevirtual 157, 3, (10, 4, [1098, 1100, 63, 1101, 37, 5], [M_Mod_make])) := rfl
theorem kf_Mod_doStep_143 : mcGet K_Mod_doStep 143 = (143, false, .ireturn, 1, mcX0) := rfl
theorem kf_Mod_doStep_144 : mcGet K_Mod_doStep 144 = (144, false, .aload_n 0, 1, mcX0) := rfl
theorem kf_Mod_doStep_145 : mcGet K_Mod_doStep 145 = (145, false, .iload 6, 2, mcX0) := rfl
theorem kf_Mod_doStep_147 : mcGet K_Mod_doStep 147 = (147, false, .iload 4, 2, mcX0) := rfl
theorem kf_Mod_doStep_149 : mcGet K_Mod_doStep 149 = (149, false, .invokevirtual 160, 3, (10, 3, [1102, 1104, 63, 1105, 38, 5], [M_Mod_remove])) := rfl
theorem kf_Mod_doStep_152 : mcGet K_Mod_doStep 152 = (152, false, .ireturn, 1, mcX0) := rfl
theorem kf_Mod_doStep_153 : mcGet K_Mod_doStep 153 = (153, false, .aload_n 0, 1, mcX0) := rfl
theorem kf_Mod_doStep_154 : mcGet K_Mod_doStep 154 = (154, false, .iload 6, 2, mcX0) := rfl
theorem kf_Mod_doStep_156 : mcGet K_Mod_doStep 156 = (156, false, .iload_n 3, 1, mcX0) := rfl
theorem kf_Mod_doStep_157 : mcGet K_Mod_doStep 157 = (157, false, .iload 4, 2, mcX0) := rfl
theorem kf_Mod_doStep_159 : mcGet K_Mod_doStep 159 = (159, false, .iload 5, 2, mcX0) := rfl
theorem kf_Mod_doStep_161 : mcGet K_Mod_doStep 161 = (161, false, .invokevirtual 163, 3, (10, 5, [1110, 1112, 63, 1113, 40, 9], [M_Mod_move])) := rfl
theorem kf_Mod_doStep_164 : mcGet K_Mod_doStep 164 = (164, false, .ireturn, 1, mcX0) := rfl
theorem kf_Mod_doStep_165 : mcGet K_Mod_doStep 165 = (165, false, .aload_n 0, 1, mcX0) := rfl
theorem kf_Mod_doStep_166 : mcGet K_Mod_doStep 166 = (166, false, .iload 6, 2, mcX0) := rfl
theorem kf_Mod_doStep_168 : mcGet K_Mod_doStep 168 = (168, false, .iload_n 3, 1, mcX0) := rfl
theorem kf_Mod_doStep_169 : mcGet K_Mod_doStep 169 = (169, false, .invokevirtual 167, 3, (10, 3, [1114, 1116, 63, 1117, 41, 3], [M_Mod_read])) := rfl
theorem kf_Mod_doStep_172 : mcGet K_Mod_doStep 172 = (172, false, .ireturn, 1, mcX0) := rfl
theorem kf_Mod_doStep_173 : mcGet K_Mod_doStep 173 = (173, false, .aload_n 0, 1, mcX0) := rfl
theorem kf_Mod_doStep_174 : mcGet K_Mod_doStep 174 = (174, false, .iload 6, 2, mcX0) := rfl
theorem kf_Mod_doStep_176 : mcGet K_Mod_doStep 176 = (176, false, .iload_n 3, 1, mcX0) := rfl
theorem kf_Mod_doStep_177 : mcGet K_Mod_doStep 177 = (177, false, .iload 4, 2, mcX0) := rfl
theorem kf_Mod_doStep_179 : mcGet K_Mod_doStep 179 = (179, false, .iload_n 1, 1, mcX0) := rfl
theorem kf_Mod_doStep_180 : mcGet K_Mod_doStep 180 = (180, false, .bipush 7, 2, mcX0) := rfl
theorem kf_Mod_doStep_182 : mcGet K_Mod_doStep 182 = (182, false, .if_icmp .ne 7, 3, (189, 0, [], [])) := rfl
theorem kf_Mod_doStep_185 : mcGet K_Mod_doStep 185 = (185, false, .iconst 1, 1, mcX0) := rfl
theorem kf_Mod_doStep_186 : mcGet K_Mod_doStep 186 = (186, false, .goto 4, 3, (190, 0, [], [])) := rfl
theorem kf_Mod_doStep_189 : mcGet K_Mod_doStep 189 = (189, false, .iconst 0, 1, mcX0) := rfl
theorem kf_Mod_doStep_190 : mcGet K_Mod_doStep 190 = (190, false, .invokevirtual 170, 3, (10, 5, [1126, 1128, 63, 1129, 44, 6], [M_Mod_write])) := rfl
theorem kf_Mod_doStep_193 : mcGet K_Mod_doStep 193 = (193, false, .ireturn, 1, mcX0) := rfl
theorem kf_Mod_doStep_194 : mcGet K_Mod_doStep 194 = (194, false, .aload_n 0, 1, mcX0) := rfl
theorem kf_Mod_doStep_195 : mcGet K_Mod_doStep 195 = (195, false, .iload 6, 2, mcX0) := rfl
theorem kf_Mod_doStep_197 : mcGet K_Mod_doStep 197 = (197, false, .iload_n 3, 1, mcX0) := rfl
theorem kf_Mod_doStep_198 : mcGet K_Mod_doStep 198 = (198, false, .invokevirtual 174, 3, (10, 3, [1130, 1132, 63, 1133, 45, 7], [M_Mod_resize])) := rfl
theorem kf_Mod_doStep_201 : mcGet K_Mod_doStep 201 = (201, false, .ireturn, 1, mcX0) := rfl
theorem kf_Mod_doStep_202 : mcGet K_Mod_doStep 202 = (202, false, .aload_n 0, 1, mcX0) := rfl
theorem kf_Mod_doStep_203 : mcGet K_Mod_doStep 203 = (203, false, .iload 6, 2, mcX0) := rfl
theorem kf_Mod_doStep_205 : mcGet K_Mod_doStep 205 = (205, false, .iload_n 3, 1, mcX0) := rfl
theorem kf_Mod_doStep_206 : mcGet K_Mod_doStep 206 = (206, false, .invokevirtual 177, 3, (10, 3, [1134, 1136, 63, 1137, 46, 6], [M_Mod_list])) := rfl
theorem kf_Mod_doStep_209 : mcGet K_Mod_doStep 209 = (209, false, .ireturn, 1, mcX0) := rfl
theorem kf_Mod_doStep_210 : mcGet K_Mod_doStep 210 = (210, false, .aload_n 0, 1, mcX0) := rfl
theorem kf_Mod_doStep_211 : mcGet K_Mod_doStep 211 = (211, false, .iload 6, 2, mcX0) := rfl
theorem kf_Mod_doStep_213 : mcGet K_Mod_doStep 213 = (213, false, .iload_n 3, 1, mcX0) := rfl
theorem kf_Mod_doStep_214 : mcGet K_Mod_doStep 214 = (214, false, .iload 4, 2, mcX0) := rfl
theorem kf_Mod_doStep_216 : mcGet K_Mod_doStep 216 = (216, false, .iload 5, 2, mcX0) := rfl
theorem kf_Mod_doStep_218 : mcGet K_Mod_doStep 218 = (218, false, .invokevirtual 180, 3, (10, 5, [1138, 1140, 63, 1141, 47, 6], [M_Mod_lockBytes])) := rfl
theorem kf_Mod_doStep_221 : mcGet K_Mod_doStep 221 = (221, false, .ireturn, 1, mcX0) := rfl
theorem kf_Mod_doStep_222 : mcGet K_Mod_doStep 222 = (222, false, .aload_n 0, 1, mcX0) := rfl
theorem kf_Mod_doStep_223 : mcGet K_Mod_doStep 223 = (223, false, .iload 6, 2, mcX0) := rfl
theorem kf_Mod_doStep_225 : mcGet K_Mod_doStep 225 = (225, false, .iload_n 3, 1, mcX0) := rfl
theorem kf_Mod_doStep_226 : mcGet K_Mod_doStep 226 = (226, false, .iload 4, 2, mcX0) := rfl
theorem kf_Mod_doStep_228 : mcGet K_Mod_doStep 228 = (228, false, .invokevirtual 183, 3, (10, 4, [1145, 1147, 63, 1148, 48, 6], [M_Mod_unlock])) := rfl
theorem kf_Mod_doStep_231 : mcGet K_Mod_doStep 231 = (231, false, .ireturn, 1, mcX0) := rfl
theorem kf_Mod_doStep_232 : mcGet K_Mod_doStep 232 = (232, false, .aload_n 0, 1, mcX0) := rfl
theorem kf_Mod_doStep_233 : mcGet K_Mod_doStep 233 = (233, false, .iload 6, 2, mcX0) := rfl
theorem kf_Mod_doStep_235 : mcGet K_Mod_doStep 235 = (235, false, .iload_n 3, 1, mcX0) := rfl
theorem kf_Mod_doStep_236 : mcGet K_Mod_doStep 236 = (236, false, .iload 4, 2, mcX0) := rfl
theorem kf_Mod_doStep_238 : mcGet K_Mod_doStep 238 = (238, false, .iload 5, 2, mcX0) := rfl
theorem kf_Mod_doStep_240 : mcGet K_Mod_doStep 240 = (240, false, .invokevirtual 186, 3, (10, 5, [1149, 1151, 63, 1152, 49, 7], [M_Mod_claim])) := rfl
theorem kf_Mod_doStep_243 : mcGet K_Mod_doStep 243 = (243, false, .ireturn, 1, mcX0) := rfl
theorem kf_Mod_find_0 : mcGet K_Mod_find 0 = (0, false, .iconst 1, 1, mcX0) := rfl
theorem kf_Mod_find_1 : mcGet K_Mod_find 1 = (1, false, .istore_n 3, 1, mcX0) := rfl
theorem kf_Mod_find_2 : mcGet K_Mod_find 2 = (2, true, .iload_n 3, 1, mcX0) := rfl
theorem kf_Mod_find_3 : mcGet K_Mod_find 3 = (3, false, .bipush 32, 2, mcX0) := rfl
theorem kf_Mod_find_5 : mcGet K_Mod_find 5 = (5, false, .if_icmp .ge 52, 3, (57, 0, [], [])) := rfl
theorem kf_Mod_find_8 : mcGet K_Mod_find 8 = (8, false, .aload_n 0, 1, mcX0) := rfl
theorem kf_Mod_find_9 : mcGet K_Mod_find 9 = (9, false, .getfield 41, 3, (10, 12, [933, 1], [])) := rfl
theorem kf_Mod_find_12 : mcGet K_Mod_find 12 = (12, false, .sipush 220, 3, mcX0) := rfl
theorem kf_Mod_find_15 : mcGet K_Mod_find 15 = (15, false, .iload_n 3, 1, mcX0) := rfl
theorem kf_Mod_find_16 : mcGet K_Mod_find 16 = (16, false, .iadd, 1, mcX0) := rfl
theorem kf_Mod_find_17 : mcGet K_Mod_find 17 = (17, false, .iaload, 1, mcX0) := rfl
theorem kf_Mod_find_18 : mcGet K_Mod_find 18 = (18, false, .ifCond .lt 33, 3, (51, 0, [], [])) := rfl
theorem kf_Mod_find_21 : mcGet K_Mod_find 21 = (21, false, .aload_n 0, 1, mcX0) := rfl
theorem kf_Mod_find_22 : mcGet K_Mod_find 22 = (22, false, .getfield 41, 3, (10, 12, [933, 1], [])) := rfl
theorem kf_Mod_find_25 : mcGet K_Mod_find 25 = (25, false, .sipush 252, 3, mcX0) := rfl
theorem kf_Mod_find_28 : mcGet K_Mod_find 28 = (28, false, .iload_n 3, 1, mcX0) := rfl
theorem kf_Mod_find_29 : mcGet K_Mod_find 29 = (29, false, .iadd, 1, mcX0) := rfl
theorem kf_Mod_find_30 : mcGet K_Mod_find 30 = (30, false, .iaload, 1, mcX0) := rfl
theorem kf_Mod_find_31 : mcGet K_Mod_find 31 = (31, false, .iload_n 1, 1, mcX0) := rfl
theorem kf_Mod_find_32 : mcGet K_Mod_find 32 = (32, false, .if_icmp .ne 19, 3, (51, 0, [], [])) := rfl
theorem kf_Mod_find_35 : mcGet K_Mod_find 35 = (35, false, .aload_n 0, 1, mcX0) := rfl
theorem kf_Mod_find_36 : mcGet K_Mod_find 36 = (36, false, .getfield 41, 3, (10, 12, [933, 1], [])) := rfl
theorem kf_Mod_find_39 : mcGet K_Mod_find 39 = (39, false, .sipush 284, 3, mcX0) := rfl
theorem kf_Mod_find_42 : mcGet K_Mod_find 42 = (42, false, .iload_n 3, 1, mcX0) := rfl
theorem kf_Mod_find_43 : mcGet K_Mod_find 43 = (43, false, .iadd, 1, mcX0) := rfl
theorem kf_Mod_find_44 : mcGet K_Mod_find 44 = (44, false, .iaload, 1, mcX0) := rfl
theorem kf_Mod_find_45 : mcGet K_Mod_find 45 = (45, false, .iload_n 2, 1, mcX0) := rfl
theorem kf_Mod_find_46 : mcGet K_Mod_find 46 = (46, false, .if_icmp .ne 5, 3, (51, 0, [], [])) := rfl
theorem kf_Mod_find_49 : mcGet K_Mod_find 49 = (49, false, .iload_n 3, 1, mcX0) := rfl
theorem kf_Mod_find_50 : mcGet K_Mod_find 50 = (50, false, .ireturn, 1, mcX0) := rfl
theorem kf_Mod_find_51 : mcGet K_Mod_find 51 = (51, false, .iinc 3 1, 3, mcX0) := rfl
theorem kf_Mod_find_54 : mcGet K_Mod_find 54 = (54, false, .goto (-52), 3, (2, 0, [], [])) := rfl
theorem kf_Mod_find_57 : mcGet K_Mod_find 57 = (57, false, .iconst (-1), 1, mcX0) := rfl
theorem kf_Mod_find_58 : mcGet K_Mod_find 58 = (58, false, .ireturn, 1, mcX0) := rfl
theorem kf_Mod_free_0 : mcGet K_Mod_free 0 = (0, false, .iconst 0, 1, mcX0) := rfl
theorem kf_Mod_free_1 : mcGet K_Mod_free 1 = (1, false, .istore_n 2, 1, mcX0) := rfl
theorem kf_Mod_free_2 : mcGet K_Mod_free 2 = (2, true, .iload_n 2, 1, mcX0) := rfl
theorem kf_Mod_free_3 : mcGet K_Mod_free 3 = (3, false, .iconst 4, 1, mcX0) := rfl
theorem kf_Mod_free_4 : mcGet K_Mod_free 4 = (4, false, .if_icmp .ge 35, 3, (39, 0, [], [])) := rfl
theorem kf_Mod_free_7 : mcGet K_Mod_free 7 = (7, false, .iconst 0, 1, mcX0) := rfl
theorem kf_Mod_free_8 : mcGet K_Mod_free 8 = (8, false, .istore_n 3, 1, mcX0) := rfl
theorem kf_Mod_free_9 : mcGet K_Mod_free 9 = (9, true, .iload_n 3, 1, mcX0) := rfl
theorem kf_Mod_free_10 : mcGet K_Mod_free 10 = (10, false, .bipush 64, 2, mcX0) := rfl
theorem kf_Mod_free_12 : mcGet K_Mod_free 12 = (12, false, .if_icmp .ge 21, 3, (33, 0, [], [])) := rfl
theorem kf_Mod_free_15 : mcGet K_Mod_free 15 = (15, false, .aload_n 0, 1, mcX0) := rfl
theorem kf_Mod_free_16 : mcGet K_Mod_free 16 = (16, false, .getfield 47, 3, (10, 14, [935, 1], [])) := rfl
theorem kf_Mod_free_19 : mcGet K_Mod_free 19 = (19, false, .iload_n 2, 1, mcX0) := rfl
theorem kf_Mod_free_20 : mcGet K_Mod_free 20 = (20, false, .iload_n 1, 1, mcX0) := rfl
theorem kf_Mod_free_21 : mcGet K_Mod_free 21 = (21, false, .iload_n 3, 1, mcX0) := rfl
theorem kf_Mod_free_22 : mcGet K_Mod_free 22 = (22, false, .invokestatic 99, 3, (0, 3, [1052, 1053, 63, 1054, 0, 3], [M_Mod_lockAt])) := rfl
theorem kf_Mod_free_25 : mcGet K_Mod_free 25 = (25, false, .iconst 0, 1, mcX0) := rfl
theorem kf_Mod_free_26 : mcGet K_Mod_free 26 = (26, false, .bastore, 1, mcX0) := rfl
theorem kf_Mod_free_27 : mcGet K_Mod_free 27 = (27, false, .iinc 3 1, 3, mcX0) := rfl
theorem kf_Mod_free_30 : mcGet K_Mod_free 30 = (30, false, .goto (-21), 3, (9, 0, [], [])) := rfl
theorem kf_Mod_free_33 : mcGet K_Mod_free 33 = (33, false, .iinc 2 1, 3, mcX0) := rfl
theorem kf_Mod_free_36 : mcGet K_Mod_free 36 = (36, false, .goto (-34), 3, (2, 0, [], [])) := rfl
theorem kf_Mod_free_39 : mcGet K_Mod_free 39 = (39, false, .return_, 1, mcX0) := rfl
theorem kf_Mod_halt_0 : mcGet K_Mod_halt 0 = (0, false, .aload_n 0, 1, mcX0) := rfl
theorem kf_Mod_halt_1 : mcGet K_Mod_halt 1 = (1, false, .invokevirtual 117, 3, (10, 1, [1048, 1050, 63, 1051, 26, 5], [M_Mod_pass])) := rfl
theorem kf_Mod_halt_4 : mcGet K_Mod_halt 4 = (4, false, .iconst 0, 1, mcX0) := rfl
theorem kf_Mod_halt_5 : mcGet K_Mod_halt 5 = (5, false, .istore_n 1, 1, mcX0) := rfl
theorem kf_Mod_halt_6 : mcGet K_Mod_halt 6 = (6, true, .iload_n 1, 1, mcX0) := rfl
theorem kf_Mod_halt_7 : mcGet K_Mod_halt 7 = (7, false, .sipush 8192, 3, mcX0) := rfl
theorem kf_Mod_halt_10 : mcGet K_Mod_halt 10 = (10, false, .if_icmp .ge 52, 3, (62, 0, [], [])) := rfl
theorem kf_Mod_halt_13 : mcGet K_Mod_halt 13 = (13, false, .aload_n 0, 1, mcX0) := rfl
theorem kf_Mod_halt_14 : mcGet K_Mod_halt 14 = (14, false, .getfield 47, 3, (10, 14, [935, 1], [])) := rfl
theorem kf_Mod_halt_17 : mcGet K_Mod_halt 17 = (17, false, .iload_n 1, 1, mcX0) := rfl
theorem kf_Mod_halt_18 : mcGet K_Mod_halt 18 = (18, false, .aload_n 0, 1, mcX0) := rfl
theorem kf_Mod_halt_19 : mcGet K_Mod_halt 19 = (19, false, .getfield 47, 3, (10, 14, [935, 1], [])) := rfl
theorem kf_Mod_halt_22 : mcGet K_Mod_halt 22 = (22, false, .iload_n 1, 1, mcX0) := rfl
theorem kf_Mod_halt_23 : mcGet K_Mod_halt 23 = (23, false, .baload, 1, mcX0) := rfl
theorem kf_Mod_halt_24 : mcGet K_Mod_halt 24 = (24, false, .ifCond .eq 13, 3, (37, 0, [], [])) := rfl
theorem kf_Mod_halt_27 : mcGet K_Mod_halt 27 = (27, false, .aload_n 0, 1, mcX0) := rfl
theorem kf_Mod_halt_28 : mcGet K_Mod_halt 28 = (28, false, .getfield 47, 3, (10, 14, [935, 1], [])) := rfl
theorem kf_Mod_halt_31 : mcGet K_Mod_halt 31 = (31, false, .iload_n 1, 1, mcX0) := rfl
theorem kf_Mod_halt_32 : mcGet K_Mod_halt 32 = (32, false, .baload, 1, mcX0) := rfl
theorem kf_Mod_halt_33 : mcGet K_Mod_halt 33 = (33, false, .iconst 4, 1, mcX0) := rfl
theorem kf_Mod_halt_34 : mcGet K_Mod_halt 34 = (34, false, .if_icmp .le 12, 3, (46, 0, [], [])) := rfl
theorem kf_Mod_halt_37 : mcGet K_Mod_halt 37 = (37, false, .aload_n 0, 1, mcX0) := rfl
theorem kf_Mod_halt_38 : mcGet K_Mod_halt 38 = (38, false, .getfield 47, 3, (10, 14, [935, 1], [])) := rfl
theorem kf_Mod_halt_41 : mcGet K_Mod_halt 41 = (41, false, .iload_n 1, 1, mcX0) := rfl
theorem kf_Mod_halt_42 : mcGet K_Mod_halt 42 = (42, false, .baload, 1, mcX0) := rfl
theorem kf_Mod_halt_43 : mcGet K_Mod_halt 43 = (43, false, .goto 11, 3, (54, 0, [], [])) := rfl
theorem kf_Mod_halt_46 : mcGet K_Mod_halt 46 = (46, false, .aload_n 0, 1, mcX0) := rfl
theorem kf_Mod_halt_47 : mcGet K_Mod_halt 47 = (47, false, .getfield 47, 3, (10, 14, [935, 1], [])) := rfl
theorem kf_Mod_halt_50 : mcGet K_Mod_halt 50 = (50, false, .iload_n 1, 1, mcX0) := rfl
theorem kf_Mod_halt_51 : mcGet K_Mod_halt 51 = (51, false, .baload, 1, mcX0) := rfl
theorem kf_Mod_halt_52 : mcGet K_Mod_halt 52 = (52, false, .iconst 4, 1, mcX0) := rfl
theorem kf_Mod_halt_53 : mcGet K_Mod_halt 53 = (53, false, .iadd, 1, mcX0) := rfl
theorem kf_Mod_halt_54 : mcGet K_Mod_halt 54 = (54, false, .i2b, 1, mcX0) := rfl
theorem kf_Mod_halt_55 : mcGet K_Mod_halt 55 = (55, false, .bastore, 1, mcX0) := rfl
theorem kf_Mod_halt_56 : mcGet K_Mod_halt 56 = (56, false, .iinc 1 1, 3, mcX0) := rfl
theorem kf_Mod_halt_59 : mcGet K_Mod_halt 59 = (59, false, .goto (-53), 3, (6, 0, [], [])) := rfl
theorem kf_Mod_halt_62 : mcGet K_Mod_halt 62 = (62, false, .iconst 0, 1, mcX0) := rfl
theorem kf_Mod_halt_63 : mcGet K_Mod_halt 63 = (63, false, .istore_n 1, 1, mcX0) := rfl
theorem kf_Mod_halt_64 : mcGet K_Mod_halt 64 = (64, true, .iload_n 1, 1, mcX0) := rfl
theorem kf_Mod_halt_65 : mcGet K_Mod_halt 65 = (65, false, .iconst 4, 1, mcX0) := rfl
theorem kf_Mod_halt_66 : mcGet K_Mod_halt 66 = (66, false, .if_icmp .ge 16, 3, (82, 0, [], [])) := rfl
theorem kf_Mod_halt_69 : mcGet K_Mod_halt 69 = (69, false, .aload_n 0, 1, mcX0) := rfl
theorem kf_Mod_halt_70 : mcGet K_Mod_halt 70 = (70, false, .getfield 54, 3, (10, 16, [937, 1], [])) := rfl
theorem kf_Mod_halt_73 : mcGet K_Mod_halt 73 = (73, false, .iload_n 1, 1, mcX0) := rfl
theorem kf_Mod_halt_74 : mcGet K_Mod_halt 74 = (74, false, .iconst 0, 1, mcX0) := rfl
theorem kf_Mod_halt_75 : mcGet K_Mod_halt 75 = (75, false, .iastore, 1, mcX0) := rfl
theorem kf_Mod_halt_76 : mcGet K_Mod_halt 76 = (76, false, .iinc 1 1, 3, mcX0) := rfl
theorem kf_Mod_halt_79 : mcGet K_Mod_halt 79 = (79, false, .goto (-15), 3, (64, 0, [], [])) := rfl
theorem kf_Mod_halt_82 : mcGet K_Mod_halt 82 = (82, false, .aload_n 0, 1, mcX0) := rfl
theorem kf_Mod_halt_83 : mcGet K_Mod_halt 83 = (83, false, .iconst 0, 1, mcX0) := rfl
theorem kf_Mod_halt_84 : mcGet K_Mod_halt 84 = (84, false, .putfield 131, 3, (10, 21, [942, 2], [])) := rfl
theorem kf_Mod_halt_87 : mcGet K_Mod_halt 87 = (87, false, .aload_n 0, 1, mcX0) := rfl
theorem kf_Mod_halt_88 : mcGet K_Mod_halt 88 = (88, false, .iconst 0, 1, mcX0) := rfl
theorem kf_Mod_halt_89 : mcGet K_Mod_halt 89 = (89, false, .putfield 60, 3, (10, 19, [940, 2], [])) := rfl
theorem kf_Mod_halt_92 : mcGet K_Mod_halt 92 = (92, false, .return_, 1, mcX0) := rfl
theorem kf_Mod_handle_0 : mcGet K_Mod_handle 0 = (0, false, .aload_n 0, 1, mcX0) := rfl
theorem kf_Mod_handle_1 : mcGet K_Mod_handle 1 = (1, false, .iload_n 1, 1, mcX0) := rfl
theorem kf_Mod_handle_2 : mcGet K_Mod_handle 2 = (2, false, .invokestatic 74, 3, (0, 1, [1010, 1011, 63, 1012, 0, 1], [M_Mod_isClient])) := rfl
theorem kf_Mod_handle_5 : mcGet K_Mod_handle 5 = (5, false, .ifCond .eq 10, 3, (15, 0, [], [])) := rfl
theorem kf_Mod_handle_8 : mcGet K_Mod_handle 8 = (8, false, .iload_n 2, 1, mcX0) := rfl
theorem kf_Mod_handle_9 : mcGet K_Mod_handle 9 = (9, false, .invokestatic 144, 3, (0, 1, [1075, 1076, 63, 1077, 0, 1], [M_Mod_isHandle])) := rfl
theorem kf_Mod_handle_12 : mcGet K_Mod_handle 12 = (12, false, .ifCond .ne 7, 3, (19, 0, [], [])) := rfl
theorem kf_Mod_handle_15 : mcGet K_Mod_handle 15 = (15, false, .iconst 1, 1, mcX0) := rfl
theorem kf_Mod_handle_16 : mcGet K_Mod_handle 16 = (16, false, .goto 4, 3, (20, 0, [], [])) := rfl
theorem kf_Mod_handle_19 : mcGet K_Mod_handle 19 = (19, false, .iconst 0, 1, mcX0) := rfl
theorem kf_Mod_handle_20 : mcGet K_Mod_handle 20 = (20, false, .iconst 0, 1, mcX0) := rfl
theorem kf_Mod_handle_21 : mcGet K_Mod_handle 21 = (21, false, .invokevirtual 78, 3, (10, 3, [1013, 1015, 63, 1016, 23, 3], [M_Mod_refused])) := rfl
theorem kf_Mod_handle_24 : mcGet K_Mod_handle 24 = (24, false, .ifCond .eq 7, 3, (31, 0, [], [])) := rfl
theorem kf_Mod_handle_27 : mcGet K_Mod_handle 27 = (27, false, .iconst 0, 1, mcX0) := rfl
theorem kf_Mod_handle_28 : mcGet K_Mod_handle 28 = (28, false, .goto 9, 3, (37, 0, [], [])) := rfl
theorem kf_Mod_handle_31 : mcGet K_Mod_handle 31 = (31, false, .aload_n 0, 1, mcX0) := rfl
theorem kf_Mod_handle_32 : mcGet K_Mod_handle 32 = (32, false, .iload_n 1, 1, mcX0) := rfl
theorem kf_Mod_handle_33 : mcGet K_Mod_handle 33 = (33, false, .iload_n 2, 1, mcX0) := rfl
theorem kf_Mod_handle_34 : mcGet K_Mod_handle 34 = (34, false, .invokevirtual 150, 3, (10, 3, [1082, 1084, 63, 1085, 33, 4], [M_Mod_nodeOf])) := rfl
theorem kf_Mod_handle_37 : mcGet K_Mod_handle 37 = (37, false, .ireturn, 1, mcX0) := rfl
theorem kf_Mod_hasAnswer_0 : mcGet K_Mod_hasAnswer 0 = (0, false, .iconst 3, 1, mcX0) := rfl
theorem kf_Mod_hasAnswer_1 : mcGet K_Mod_hasAnswer 1 = (1, false, .iload_n 1, 1, mcX0) := rfl
theorem kf_Mod_hasAnswer_2 : mcGet K_Mod_hasAnswer 2 = (2, false, .imul, 1, mcX0) := rfl
theorem kf_Mod_hasAnswer_3 : mcGet K_Mod_hasAnswer 3 = (3, false, .iload_n 2, 1, mcX0) := rfl
theorem kf_Mod_hasAnswer_4 : mcGet K_Mod_hasAnswer 4 = (4, false, .iadd, 1, mcX0) := rfl
theorem kf_Mod_hasAnswer_5 : mcGet K_Mod_hasAnswer 5 = (5, false, .istore 4, 2, mcX0) := rfl
theorem kf_Mod_hasAnswer_7 : mcGet K_Mod_hasAnswer 7 = (7, false, .aload_n 0, 1, mcX0) := rfl
theorem kf_Mod_hasAnswer_8 : mcGet K_Mod_hasAnswer 8 = (8, false, .getfield 22, 3, (10, 5, [926, 1], [])) := rfl
theorem kf_Mod_hasAnswer_11 : mcGet K_Mod_hasAnswer 11 = (11, false, .iload 4, 2, mcX0) := rfl
theorem kf_Mod_hasAnswer_13 : mcGet K_Mod_hasAnswer 13 = (13, false, .baload, 1, mcX0) := rfl
theorem kf_Mod_hasAnswer_14 : mcGet K_Mod_hasAnswer 14 = (14, false, .ifCond .ne 32, 3, (46, 0, [], [])) := rfl
theorem kf_Mod_hasAnswer_17 : mcGet K_Mod_hasAnswer 17 = (17, false, .aload_n 0, 1, mcX0) := rfl
theorem kf_Mod_hasAnswer_18 : mcGet K_Mod_hasAnswer 18 = (18, false, .getfield 13, 3, (10, 2, [923, 1], [])) := rfl
theorem kf_Mod_hasAnswer_21 : mcGet K_Mod_hasAnswer 21 = (21, false, .iload 4, 2, mcX0) := rfl
theorem kf_Mod_hasAnswer_23 : mcGet K_Mod_hasAnswer 23 = (23, false, .iaload, 1, mcX0) := rfl
theorem kf_Mod_hasAnswer_24 : mcGet K_Mod_hasAnswer 24 = (24, false, .ifCond .ne 22, 3, (46, 0, [], [])) := rfl
theorem kf_Mod_hasAnswer_27 : mcGet K_Mod_hasAnswer 27 = (27, false, .iload_n 3, 1, mcX0) := rfl
theorem kf_Mod_hasAnswer_28 : mcGet K_Mod_hasAnswer 28 = (28, false, .ifCond .lt 18, 3, (46, 0, [], [])) := rfl
theorem kf_Mod_hasAnswer_31 : mcGet K_Mod_hasAnswer 31 = (31, false, .iload_n 3, 1, mcX0) := rfl
theorem kf_Mod_hasAnswer_32 : mcGet K_Mod_hasAnswer 32 = (32, false, .aload_n 0, 1, mcX0) := rfl
theorem kf_Mod_hasAnswer_33 : mcGet K_Mod_hasAnswer 33 = (33, false, .getfield 26, 3, (10, 6, [927, 1], [])) := rfl
theorem kf_Mod_hasAnswer_36 : mcGet K_Mod_hasAnswer 36 = (36, false, .iload 4, 2, mcX0) := rfl
theorem kf_Mod_hasAnswer_38 : mcGet K_Mod_hasAnswer 38 = (38, false, .iaload, 1, mcX0) := rfl
theorem kf_Mod_hasAnswer_39 : mcGet K_Mod_hasAnswer 39 = (39, false, .if_icmp .ge 7, 3, (46, 0, [], [])) := rfl
theorem kf_Mod_hasAnswer_42 : mcGet K_Mod_hasAnswer 42 = (42, false, .iconst 1, 1, mcX0) := rfl
theorem kf_Mod_hasAnswer_43 : mcGet K_Mod_hasAnswer 43 = (43, false, .goto 4, 3, (47, 0, [], [])) := rfl
theorem kf_Mod_hasAnswer_46 : mcGet K_Mod_hasAnswer 46 = (46, false, .iconst 0, 1, mcX0) := rfl
theorem kf_Mod_hasAnswer_47 : mcGet K_Mod_hasAnswer 47 = (47, false, .ireturn, 1, (1, 0, [], [])) := rfl
theorem kf_Mod_hasOther_0 : mcGet K_Mod_hasOther 0 = (0, false, .iconst 0, 1, mcX0) := rfl
theorem kf_Mod_hasOther_1 : mcGet K_Mod_hasOther 1 = (1, false, .istore 4, 2, mcX0) := rfl
theorem kf_Mod_hasOther_3 : mcGet K_Mod_hasOther 3 = (3, false, .iconst 0, 1, mcX0) := rfl
theorem kf_Mod_hasOther_4 : mcGet K_Mod_hasOther 4 = (4, false, .istore 5, 2, mcX0) := rfl
theorem kf_Mod_hasOther_6 : mcGet K_Mod_hasOther 6 = (6, true, .iload 5, 2, mcX0) := rfl
theorem kf_Mod_hasOther_8 : mcGet K_Mod_hasOther 8 = (8, false, .iconst 4, 1, mcX0) := rfl
theorem kf_Mod_hasOther_9 : mcGet K_Mod_hasOther 9 = (9, false, .if_icmp .ge 52, 3, (61, 0, [], [])) := rfl
theorem kf_Mod_hasOther_12 : mcGet K_Mod_hasOther 12 = (12, false, .iload 4, 2, mcX0) := rfl
theorem kf_Mod_hasOther_14 : mcGet K_Mod_hasOther 14 = (14, false, .ifCond .ne 34, 3, (48, 0, [], [])) := rfl
theorem kf_Mod_hasOther_17 : mcGet K_Mod_hasOther 17 = (17, false, .iload 5, 2, mcX0) := rfl
theorem kf_Mod_hasOther_19 : mcGet K_Mod_hasOther 19 = (19, false, .aload_n 0, 1, mcX0) := rfl
theorem kf_Mod_hasOther_20 : mcGet K_Mod_hasOther 20 = (20, false, .getfield 107, 3, (10, 24, [945, 0], [])) := rfl
theorem kf_Mod_hasOther_23 : mcGet K_Mod_hasOther 23 = (23, false, .if_icmp .eq 29, 3, (52, 0, [], [])) := rfl
theorem kf_Mod_hasOther_26 : mcGet K_Mod_hasOther 26 = (26, false, .iload_n 2, 1, mcX0) := rfl
theorem kf_Mod_hasOther_27 : mcGet K_Mod_hasOther 27 = (27, false, .ifCond .lt 25, 3, (52, 0, [], [])) := rfl
theorem kf_Mod_hasOther_30 : mcGet K_Mod_hasOther 30 = (30, false, .iload_n 2, 1, mcX0) := rfl
theorem kf_Mod_hasOther_31 : mcGet K_Mod_hasOther 31 = (31, false, .bipush 64, 2, mcX0) := rfl
theorem kf_Mod_hasOther_33 : mcGet K_Mod_hasOther 33 = (33, false, .if_icmp .ge 19, 3, (52, 0, [], [])) := rfl
theorem kf_Mod_hasOther_36 : mcGet K_Mod_hasOther 36 = (36, false, .aload_n 0, 1, mcX0) := rfl
theorem kf_Mod_hasOther_37 : mcGet K_Mod_hasOther 37 = (37, false, .iload 5, 2, mcX0) := rfl
theorem kf_Mod_hasOther_39 : mcGet K_Mod_hasOther 39 = (39, false, .iload_n 1, 1, mcX0) := rfl
theorem kf_Mod_hasOther_40 : mcGet K_Mod_hasOther 40 = (40, false, .iload_n 2, 1, mcX0) := rfl
theorem kf_Mod_hasOther_41 : mcGet K_Mod_hasOther 41 = (41, false, .invokevirtual 110, 3, (10, 4, [1122, 1124, 63, 1125, 43, 4], [M_Mod_sortOf])) := rfl
theorem kf_Mod_hasOther_44 : mcGet K_Mod_hasOther 44 = (44, false, .iload_n 3, 1, mcX0) := rfl
theorem kf_Mod_hasOther_45 : mcGet K_Mod_hasOther 45 = (45, false, .if_icmp .lt 7, 3, (52, 0, [], [])) := rfl
theorem kf_Mod_hasOther_48 : mcGet K_Mod_hasOther 48 = (48, false, .iconst 1, 1, mcX0) := rfl
theorem kf_Mod_hasOther_49 : mcGet K_Mod_hasOther 49 = (49, false, .goto 4, 3, (53, 0, [], [])) := rfl
theorem kf_Mod_hasOther_52 : mcGet K_Mod_hasOther 52 = (52, false, .iconst 0, 1, mcX0) := rfl
theorem kf_Mod_hasOther_53 : mcGet K_Mod_hasOther 53 = (53, false, .istore 4, 2, mcX0) := rfl
theorem kf_Mod_hasOther_55 : mcGet K_Mod_hasOther 55 = (55, false, .iinc 5 1, 3, mcX0) := rfl
theorem kf_Mod_hasOther_58 : mcGet K_Mod_hasOther 58 = (58, false, .goto (-52), 3, (6, 0, [], [])) := rfl
theorem kf_Mod_hasOther_61 : mcGet K_Mod_hasOther 61 = (61, false, .iload 4, 2, mcX0) := rfl
theorem kf_Mod_hasOther_63 : mcGet K_Mod_hasOther 63 = (63, false, .ireturn, 1, (1, 0, [], [])) := rfl
theorem kf_Mod_isClient_0 : mcGet K_Mod_isClient 0 = (0, false, .iload_n 0, 1, mcX0) := rfl
theorem kf_Mod_isClient_1 : mcGet K_Mod_isClient 1 = (1, false, .ifCond .lt 12, 3, (13, 0, [], [])) := rfl
theorem kf_Mod_isClient_4 : mcGet K_Mod_isClient 4 = (4, false, .iload_n 0, 1, mcX0) := rfl
theorem kf_Mod_isClient_5 : mcGet K_Mod_isClient 5 = (5, false, .iconst 4, 1, mcX0) := rfl
theorem kf_Mod_isClient_6 : mcGet K_Mod_isClient 6 = (6, false, .if_icmp .ge 7, 3, (13, 0, [], [])) := rfl
theorem kf_Mod_isClient_9 : mcGet K_Mod_isClient 9 = (9, false, .iconst 1, 1, mcX0) := rfl
theorem kf_Mod_isClient_10 : mcGet K_Mod_isClient 10 = (10, false, .goto 4, 3, (14, 0, [], [])) := rfl
theorem kf_Mod_isClient_13 : mcGet K_Mod_isClient 13 = (13, false, .iconst 0, 1, mcX0) := rfl
theorem kf_Mod_isClient_14 : mcGet K_Mod_isClient 14 = (14, false, .ireturn, 1, (1, 0, [], [])) := rfl
theorem kf_Mod_isDirectory_0 : mcGet K_Mod_isDirectory 0 = (0, false, .aload_n 0, 1, mcX0) := rfl
theorem kf_Mod_isDirectory_1 : mcGet K_Mod_isDirectory 1 = (1, false, .getfield 41, 3, (10, 12, [933, 1], [])) := rfl
theorem kf_Mod_isDirectory_4 : mcGet K_Mod_isDirectory 4 = (4, false, .sipush 220, 3, mcX0) := rfl
theorem kf_Mod_isDirectory_7 : mcGet K_Mod_isDirectory 7 = (7, false, .iload_n 1, 1, mcX0) := rfl
theorem kf_Mod_isDirectory_8 : mcGet K_Mod_isDirectory 8 = (8, false, .iadd, 1, mcX0) := rfl
theorem kf_Mod_isDirectory_9 : mcGet K_Mod_isDirectory 9 = (9, false, .iaload, 1, mcX0) := rfl
theorem kf_Mod_isDirectory_10 : mcGet K_Mod_isDirectory 10 = (10, false, .iconst 1, 1, mcX0) := rfl
theorem kf_Mod_isDirectory_11 : mcGet K_Mod_isDirectory 11 = (11, false, .if_icmp .ne 7, 3, (18, 0, [], [])) := rfl
theorem kf_Mod_isDirectory_14 : mcGet K_Mod_isDirectory 14 = (14, false, .iconst 1, 1, mcX0) := rfl
theorem kf_Mod_isDirectory_15 : mcGet K_Mod_isDirectory 15 = (15, false, .goto 4, 3, (19, 0, [], [])) := rfl
theorem kf_Mod_isDirectory_18 : mcGet K_Mod_isDirectory 18 = (18, false, .iconst 0, 1, mcX0) := rfl
theorem kf_Mod_isDirectory_19 : mcGet K_Mod_isDirectory 19 = (19, false, .ireturn, 1, (1, 0, [], [])) := rfl
theorem kf_Mod_isGrace_0 : mcGet K_Mod_isGrace 0 = (0, false, .aload_n 0, 1, mcX0) := rfl
theorem kf_Mod_isGrace_1 : mcGet K_Mod_isGrace 1 = (1, false, .getfield 93, 3, (10, 22, [943, 0], [])) := rfl
theorem kf_Mod_isGrace_4 : mcGet K_Mod_isGrace 4 = (4, false, .aload_n 0, 1, mcX0) := rfl
theorem kf_Mod_isGrace_5 : mcGet K_Mod_isGrace 5 = (5, false, .getfield 96, 3, (10, 23, [944, 0], [])) := rfl
theorem kf_Mod_isGrace_8 : mcGet K_Mod_isGrace 8 = (8, false, .if_icmp .ge 7, 3, (15, 0, [], [])) := rfl
theorem kf_Mod_isGrace_11 : mcGet K_Mod_isGrace 11 = (11, false, .iconst 1, 1, mcX0) := rfl
theorem kf_Mod_isGrace_12 : mcGet K_Mod_isGrace 12 = (12, false, .goto 4, 3, (16, 0, [], [])) := rfl
theorem kf_Mod_isGrace_15 : mcGet K_Mod_isGrace 15 = (15, false, .iconst 0, 1, mcX0) := rfl
theorem kf_Mod_isGrace_16 : mcGet K_Mod_isGrace 16 = (16, false, .ireturn, 1, (1, 0, [], [])) := rfl
theorem kf_Mod_isHandle_0 : mcGet K_Mod_isHandle 0 = (0, false, .iload_n 0, 1, mcX0) := rfl
theorem kf_Mod_isHandle_1 : mcGet K_Mod_isHandle 1 = (1, false, .ifCond .lt 13, 3, (14, 0, [], [])) := rfl
theorem kf_Mod_isHandle_4 : mcGet K_Mod_isHandle 4 = (4, false, .iload_n 0, 1, mcX0) := rfl
theorem kf_Mod_isHandle_5 : mcGet K_Mod_isHandle 5 = (5, false, .bipush 8, 2, mcX0) := rfl
theorem kf_Mod_isHandle_7 : mcGet K_Mod_isHandle 7 = (7, false, .if_icmp .ge 7, 3, (14, 0, [], [])) := rfl
theorem kf_Mod_isHandle_10 : mcGet K_Mod_isHandle 10 = (10, false, .iconst 1, 1, mcX0) := rfl
theorem kf_Mod_isHandle_11 : mcGet K_Mod_isHandle 11 = (11, false, .goto 4, 3, (15, 0, [], [])) := rfl
theorem kf_Mod_isHandle_14 : mcGet K_Mod_isHandle 14 = (14, false, .iconst 0, 1, mcX0) := rfl
theorem kf_Mod_isHandle_15 : mcGet K_Mod_isHandle 15 = (15, false, .ireturn, 1, (1, 0, [], [])) := rfl
theorem kf_Mod_isSlot_0 : mcGet K_Mod_isSlot 0 = (0, false, .iload_n 0, 1, mcX0) := rfl
theorem kf_Mod_isSlot_1 : mcGet K_Mod_isSlot 1 = (1, false, .invokestatic 74, 3, (0, 1, [1010, 1011, 63, 1012, 0, 1], [M_Mod_isClient])) := rfl
theorem kf_Mod_isSlot_4 : mcGet K_Mod_isSlot 4 = (4, false, .ifCond .eq 16, 3, (20, 0, [], [])) := rfl
theorem kf_Mod_isSlot_7 : mcGet K_Mod_isSlot 7 = (7, false, .iload_n 1, 1, mcX0) := rfl
theorem kf_Mod_isSlot_8 : mcGet K_Mod_isSlot 8 = (8, false, .ifCond .lt 12, 3, (20, 0, [], [])) := rfl
theorem kf_Mod_isSlot_11 : mcGet K_Mod_isSlot 11 = (11, false, .iload_n 1, 1, mcX0) := rfl
theorem kf_Mod_isSlot_12 : mcGet K_Mod_isSlot 12 = (12, false, .iconst 3, 1, mcX0) := rfl
theorem kf_Mod_isSlot_13 : mcGet K_Mod_isSlot 13 = (13, false, .if_icmp .ge 7, 3, (20, 0, [], [])) := rfl
theorem kf_Mod_isSlot_16 : mcGet K_Mod_isSlot 16 = (16, false, .iconst 1, 1, mcX0) := rfl
theorem kf_Mod_isSlot_17 : mcGet K_Mod_isSlot 17 = (17, false, .goto 4, 3, (21, 0, [], [])) := rfl
theorem kf_Mod_isSlot_20 : mcGet K_Mod_isSlot 20 = (20, false, .iconst 0, 1, mcX0) := rfl
theorem kf_Mod_isSlot_21 : mcGet K_Mod_isSlot 21 = (21, false, .ireturn, 1, (1, 0, [], [])) := rfl
theorem kf_Mod_lease_0 : mcGet K_Mod_lease 0 = (0, false, .aload_n 0, 1, mcX0) := rfl
theorem kf_Mod_lease_1 : mcGet K_Mod_lease 1 = (1, false, .iload_n 1, 1, mcX0) := rfl
theorem kf_Mod_lease_2 : mcGet K_Mod_lease 2 = (2, false, .invokestatic 74, 3, (0, 1, [1010, 1011, 63, 1012, 0, 1], [M_Mod_isClient])) := rfl
theorem kf_Mod_lease_5 : mcGet K_Mod_lease 5 = (5, false, .ifCond .ne 7, 3, (12, 0, [], [])) := rfl
theorem kf_Mod_lease_8 : mcGet K_Mod_lease 8 = (8, false, .iconst 1, 1, mcX0) := rfl
theorem kf_Mod_lease_9 : mcGet K_Mod_lease 9 = (9, false, .goto 4, 3, (13, 0, [], [])) := rfl
theorem kf_Mod_lease_12 : mcGet K_Mod_lease 12 = (12, false, .iconst 0, 1, mcX0) := rfl
theorem kf_Mod_lease_13 : mcGet K_Mod_lease 13 = (13, false, .iconst 0, 1, mcX0) := rfl
theorem kf_Mod_lease_14 : mcGet K_Mod_lease 14 = (14, false, .invokevirtual 78, 3, (10, 3, [1013, 1015, 63, 1016, 23, 3], [M_Mod_refused])) := rfl
theorem kf_Mod_lease_17 : mcGet K_Mod_lease 17 = (17, false, .ifCond .ne 10, 3, (27, 0, [], [])) := rfl
theorem kf_Mod_lease_20 : mcGet K_Mod_lease 20 = (20, false, .aload_n 0, 1, mcX0) := rfl
theorem kf_Mod_lease_21 : mcGet K_Mod_lease 21 = (21, false, .getfield 60, 3, (10, 19, [940, 2], [])) := rfl
theorem kf_Mod_lease_24 : mcGet K_Mod_lease 24 = (24, false, .ifCond .ne 5, 3, (29, 0, [], [])) := rfl
theorem kf_Mod_lease_27 : mcGet K_Mod_lease 27 = (27, false, .iconst 0, 1, mcX0) := rfl
theorem kf_Mod_lease_28 : mcGet K_Mod_lease 28 = (28, false, .ireturn, 1, mcX0) := rfl
theorem kf_Mod_lease_29 : mcGet K_Mod_lease 29 = (29, false, .aload_n 0, 1, mcX0) := rfl
theorem kf_Mod_lease_30 : mcGet K_Mod_lease 30 = (30, false, .invokevirtual 117, 3, (10, 1, [1048, 1050, 63, 1051, 26, 5], [M_Mod_pass])) := rfl
theorem kf_Mod_lease_33 : mcGet K_Mod_lease 33 = (33, false, .aload_n 0, 1, mcX0) := rfl
theorem kf_Mod_lease_34 : mcGet K_Mod_lease 34 = (34, false, .getfield 54, 3, (10, 16, [937, 1], [])) := rfl
theorem kf_Mod_lease_37 : mcGet K_Mod_lease 37 = (37, false, .iload_n 1, 1, mcX0) := rfl
theorem kf_Mod_lease_38 : mcGet K_Mod_lease 38 = (38, false, .iaload, 1, mcX0) := rfl
theorem kf_Mod_lease_39 : mcGet K_Mod_lease 39 = (39, false, .ifCond .ne 7, 3, (46, 0, [], [])) := rfl
theorem kf_Mod_lease_42 : mcGet K_Mod_lease 42 = (42, false, .iconst 0, 1, mcX0) := rfl
theorem kf_Mod_lease_43 : mcGet K_Mod_lease 43 = (43, false, .goto 14, 3, (57, 0, [], [])) := rfl
theorem kf_Mod_lease_46 : mcGet K_Mod_lease 46 = (46, false, .aload_n 0, 1, mcX0) := rfl
theorem kf_Mod_lease_47 : mcGet K_Mod_lease 47 = (47, false, .getfield 54, 3, (10, 16, [937, 1], [])) := rfl
theorem kf_Mod_lease_50 : mcGet K_Mod_lease 50 = (50, false, .iload_n 1, 1, mcX0) := rfl
theorem kf_Mod_lease_51 : mcGet K_Mod_lease 51 = (51, false, .iaload, 1, mcX0) := rfl
theorem kf_Mod_lease_52 : mcGet K_Mod_lease 52 = (52, false, .aload_n 0, 1, mcX0) := rfl
theorem kf_Mod_lease_53 : mcGet K_Mod_lease 53 = (53, false, .getfield 93, 3, (10, 22, [943, 0], [])) := rfl
theorem kf_Mod_lease_56 : mcGet K_Mod_lease 56 = (56, false, .isub, 1, mcX0) := rfl
theorem kf_Mod_lease_57 : mcGet K_Mod_lease 57 = (57, false, .ireturn, 1, mcX0) := rfl
theorem kf_Mod_list_0 : mcGet K_Mod_list 0 = (0, false, .aload_n 0, 1, mcX0) := rfl
theorem kf_Mod_list_1 : mcGet K_Mod_list 1 = (1, false, .iload_n 1, 1, mcX0) := rfl
theorem kf_Mod_list_2 : mcGet K_Mod_list 2 = (2, false, .invokevirtual 189, 3, (10, 2, [1090, 1092, 63, 1093, 35, 2], [M_Mod_isDirectory])) := rfl
theorem kf_Mod_list_5 : mcGet K_Mod_list 5 = (5, false, .ifCond .ne 5, 3, (10, 0, [], [])) := rfl
theorem kf_Mod_list_8 : mcGet K_Mod_list 8 = (8, false, .iconst 4, 1, mcX0) := rfl
theorem kf_Mod_list_9 : mcGet K_Mod_list 9 = (9, false, .ireturn, 1, mcX0) := rfl
theorem kf_Mod_list_10 : mcGet K_Mod_list 10 = (10, false, .iconst 1, 1, mcX0) := rfl
theorem kf_Mod_list_11 : mcGet K_Mod_list 11 = (11, false, .istore_n 3, 1, mcX0) := rfl
theorem kf_Mod_list_12 : mcGet K_Mod_list 12 = (12, true, .iload_n 3, 1, mcX0) := rfl
theorem kf_Mod_list_13 : mcGet K_Mod_list 13 = (13, false, .bipush 32, 2, mcX0) := rfl
theorem kf_Mod_list_15 : mcGet K_Mod_list 15 = (15, false, .if_icmp .ge 141, 3, (156, 0, [], [])) := rfl
theorem kf_Mod_list_18 : mcGet K_Mod_list 18 = (18, false, .aload_n 0, 1, mcX0) := rfl
theorem kf_Mod_list_19 : mcGet K_Mod_list 19 = (19, false, .getfield 41, 3, (10, 12, [933, 1], [])) := rfl
theorem kf_Mod_list_22 : mcGet K_Mod_list 22 = (22, false, .sipush 220, 3, mcX0) := rfl
theorem kf_Mod_list_25 : mcGet K_Mod_list 25 = (25, false, .iload_n 3, 1, mcX0) := rfl
theorem kf_Mod_list_26 : mcGet K_Mod_list 26 = (26, false, .iadd, 1, mcX0) := rfl
theorem kf_Mod_list_27 : mcGet K_Mod_list 27 = (27, false, .iaload, 1, mcX0) := rfl
theorem kf_Mod_list_28 : mcGet K_Mod_list 28 = (28, false, .ifCond .lt 122, 3, (150, 0, [], [])) := rfl
theorem kf_Mod_list_31 : mcGet K_Mod_list 31 = (31, false, .aload_n 0, 1, mcX0) := rfl
theorem kf_Mod_list_32 : mcGet K_Mod_list 32 = (32, false, .getfield 41, 3, (10, 12, [933, 1], [])) := rfl
theorem kf_Mod_list_35 : mcGet K_Mod_list 35 = (35, false, .sipush 252, 3, mcX0) := rfl
theorem kf_Mod_list_38 : mcGet K_Mod_list 38 = (38, false, .iload_n 3, 1, mcX0) := rfl
theorem kf_Mod_list_39 : mcGet K_Mod_list 39 = (39, false, .iadd, 1, mcX0) := rfl
theorem kf_Mod_list_40 : mcGet K_Mod_list 40 = (40, false, .iaload, 1, mcX0) := rfl
theorem kf_Mod_list_41 : mcGet K_Mod_list 41 = (41, false, .iload_n 1, 1, mcX0) := rfl
theorem kf_Mod_list_42 : mcGet K_Mod_list 42 = (42, false, .if_icmp .ne 108, 3, (150, 0, [], [])) := rfl
theorem kf_Mod_list_45 : mcGet K_Mod_list 45 = (45, false, .iconst 0, 1, mcX0) := rfl
theorem kf_Mod_list_46 : mcGet K_Mod_list 46 = (46, false, .istore 4, 2, mcX0) := rfl
theorem kf_Mod_list_48 : mcGet K_Mod_list 48 = (48, false, .iconst 1, 1, mcX0) := rfl
theorem kf_Mod_list_49 : mcGet K_Mod_list 49 = (49, false, .istore 5, 2, mcX0) := rfl
theorem kf_Mod_list_51 : mcGet K_Mod_list 51 = (51, true, .iload 5, 2, mcX0) := rfl
theorem kf_Mod_list_53 : mcGet K_Mod_list 53 = (53, false, .bipush 32, 2, mcX0) := rfl
theorem kf_Mod_list_55 : mcGet K_Mod_list 55 = (55, false, .if_icmp .ge 73, 3, (128, 0, [], [])) := rfl
theorem kf_Mod_list_58 : mcGet K_Mod_list 58 = (58, false, .aload_n 0, 1, mcX0) := rfl
theorem kf_Mod_list_59 : mcGet K_Mod_list 59 = (59, false, .getfield 41, 3, (10, 12, [933, 1], [])) := rfl
theorem kf_Mod_list_62 : mcGet K_Mod_list 62 = (62, false, .sipush 220, 3, mcX0) := rfl
theorem kf_Mod_list_65 : mcGet K_Mod_list 65 = (65, false, .iload 5, 2, mcX0) := rfl
theorem kf_Mod_list_67 : mcGet K_Mod_list 67 = (67, false, .iadd, 1, mcX0) := rfl
theorem kf_Mod_list_68 : mcGet K_Mod_list 68 = (68, false, .iaload, 1, mcX0) := rfl
theorem kf_Mod_list_69 : mcGet K_Mod_list 69 = (69, false, .ifCond .lt 49, 3, (118, 0, [], [])) := rfl
theorem kf_Mod_list_72 : mcGet K_Mod_list 72 = (72, false, .aload_n 0, 1, mcX0) := rfl
theorem kf_Mod_list_73 : mcGet K_Mod_list 73 = (73, false, .getfield 41, 3, (10, 12, [933, 1], [])) := rfl
theorem kf_Mod_list_76 : mcGet K_Mod_list 76 = (76, false, .sipush 252, 3, mcX0) := rfl
theorem kf_Mod_list_79 : mcGet K_Mod_list 79 = (79, false, .iload 5, 2, mcX0) := rfl
theorem kf_Mod_list_81 : mcGet K_Mod_list 81 = (81, false, .iadd, 1, mcX0) := rfl
theorem kf_Mod_list_82 : mcGet K_Mod_list 82 = (82, false, .iaload, 1, mcX0) := rfl
theorem kf_Mod_list_83 : mcGet K_Mod_list 83 = (83, false, .iload_n 1, 1, mcX0) := rfl
theorem kf_Mod_list_84 : mcGet K_Mod_list 84 = (84, false, .if_icmp .ne 34, 3, (118, 0, [], [])) := rfl
theorem kf_Mod_list_87 : mcGet K_Mod_list 87 = (87, false, .aload_n 0, 1, mcX0) := rfl
theorem kf_Mod_list_88 : mcGet K_Mod_list 88 = (88, false, .getfield 41, 3, (10, 12, [933, 1], [])) := rfl
theorem kf_Mod_list_91 : mcGet K_Mod_list 91 = (91, false, .sipush 284, 3, mcX0) := rfl
theorem kf_Mod_list_94 : mcGet K_Mod_list 94 = (94, false, .iload 5, 2, mcX0) := rfl
theorem kf_Mod_list_96 : mcGet K_Mod_list 96 = (96, false, .iadd, 1, mcX0) := rfl
theorem kf_Mod_list_97 : mcGet K_Mod_list 97 = (97, false, .iaload, 1, mcX0) := rfl
theorem kf_Mod_list_98 : mcGet K_Mod_list 98 = (98, false, .aload_n 0, 1, mcX0) := rfl
theorem kf_Mod_list_99 : mcGet K_Mod_list 99 = (99, false, .getfield 41, 3, (10, 12, [933, 1], [])) := rfl
theorem kf_Mod_list_102 : mcGet K_Mod_list 102 = (102, false, .sipush 284, 3, mcX0) := rfl
theorem kf_Mod_list_105 : mcGet K_Mod_list 105 = (105, false, .iload_n 3, 1, mcX0) := rfl
theorem kf_Mod_list_106 : mcGet K_Mod_list 106 = (106, false, .iadd, 1, mcX0) := rfl
theorem kf_Mod_list_107 : mcGet K_Mod_list 107 = (107, false, .iaload, 1, mcX0) := rfl
theorem kf_Mod_list_108 : mcGet K_Mod_list 108 = (108, false, .if_icmp .ge 10, 3, (118, 0, [], [])) := rfl
theorem kf_Mod_list_111 : mcGet K_Mod_list 111 = (111, false, .iload 4, 2, mcX0) := rfl
theorem kf_Mod_list_113 : mcGet K_Mod_list 113 = (113, false, .iconst 1, 1, mcX0) := rfl
theorem kf_Mod_list_114 : mcGet K_Mod_list 114 = (114, false, .iadd, 1, mcX0) := rfl
theorem kf_Mod_list_115 : mcGet K_Mod_list 115 = (115, false, .goto 5, 3, (120, 0, [], [])) := rfl
theorem kf_Mod_list_118 : mcGet K_Mod_list 118 = (118, false, .iload 4, 2, mcX0) := rfl
theorem kf_Mod_list_120 : mcGet K_Mod_list 120 = (120, false, .istore 4, 2, mcX0) := rfl
theorem kf_Mod_list_122 : mcGet K_Mod_list 122 = (122, false, .iinc 5 1, 3, mcX0) := rfl
theorem kf_Mod_list_125 : mcGet K_Mod_list 125 = (125, false, .goto (-74), 3, (51, 0, [], [])) := rfl
theorem kf_Mod_list_128 : mcGet K_Mod_list 128 = (128, false, .iload 4, 2, mcX0) := rfl
theorem kf_Mod_list_130 : mcGet K_Mod_list 130 = (130, false, .iload_n 2, 1, mcX0) := rfl
theorem kf_Mod_list_131 : mcGet K_Mod_list 131 = (131, false, .if_icmp .ne 19, 3, (150, 0, [], [])) := rfl
theorem kf_Mod_list_134 : mcGet K_Mod_list 134 = (134, false, .aload_n 0, 1, mcX0) := rfl
theorem kf_Mod_list_135 : mcGet K_Mod_list 135 = (135, false, .aload_n 0, 1, mcX0) := rfl
theorem kf_Mod_list_136 : mcGet K_Mod_list 136 = (136, false, .getfield 41, 3, (10, 12, [933, 1], [])) := rfl
theorem kf_Mod_list_139 : mcGet K_Mod_list 139 = (139, false, .sipush 284, 3, mcX0) := rfl
theorem kf_Mod_list_142 : mcGet K_Mod_list 142 = (142, false, .iload_n 3, 1, mcX0) := rfl
theorem kf_Mod_list_143 : mcGet K_Mod_list 143 = (143, false, .iadd, 1, mcX0) := rfl
theorem kf_Mod_list_144 : mcGet K_Mod_list 144 = (144, false, .iaload, 1, mcX0) := rfl
theorem kf_Mod_list_145 : mcGet K_Mod_list 145 = (145, false, .putfield 137, 3, (10, 25, [946, 0], [])) := rfl
theorem kf_Mod_list_148 : mcGet K_Mod_list 148 = (148, false, .iconst 0, 1, mcX0) := rfl
theorem kf_Mod_list_149 : mcGet K_Mod_list 149 = (149, false, .ireturn, 1, mcX0) := rfl
theorem kf_Mod_list_150 : mcGet K_Mod_list 150 = (150, false, .iinc 3 1, 3, mcX0) := rfl
theorem kf_Mod_list_153 : mcGet K_Mod_list 153 = (153, false, .goto (-141), 3, (12, 0, [], [])) := rfl
theorem kf_Mod_list_156 : mcGet K_Mod_list 156 = (156, false, .iconst 2, 1, mcX0) := rfl
theorem kf_Mod_list_157 : mcGet K_Mod_list 157 = (157, false, .ireturn, 1, mcX0) := rfl
theorem kf_Mod_lock_0 : mcGet K_Mod_lock 0 = (0, false, .aload_n 0, 1, mcX0) := rfl
theorem kf_Mod_lock_1 : mcGet K_Mod_lock 1 = (1, false, .iload_n 1, 1, mcX0) := rfl
theorem kf_Mod_lock_2 : mcGet K_Mod_lock 2 = (2, false, .invokestatic 74, 3, (0, 1, [1010, 1011, 63, 1012, 0, 1], [M_Mod_isClient])) := rfl
theorem kf_Mod_lock_5 : mcGet K_Mod_lock 5 = (5, false, .ifCond .eq 23, 3, (28, 0, [], [])) := rfl
theorem kf_Mod_lock_8 : mcGet K_Mod_lock 8 = (8, false, .iload_n 2, 1, mcX0) := rfl
theorem kf_Mod_lock_9 : mcGet K_Mod_lock 9 = (9, false, .ifCond .lt 19, 3, (28, 0, [], [])) := rfl
theorem kf_Mod_lock_12 : mcGet K_Mod_lock 12 = (12, false, .iload_n 2, 1, mcX0) := rfl
theorem kf_Mod_lock_13 : mcGet K_Mod_lock 13 = (13, false, .bipush 32, 2, mcX0) := rfl
theorem kf_Mod_lock_15 : mcGet K_Mod_lock 15 = (15, false, .if_icmp .ge 13, 3, (28, 0, [], [])) := rfl
theorem kf_Mod_lock_18 : mcGet K_Mod_lock 18 = (18, false, .iload_n 3, 1, mcX0) := rfl
theorem kf_Mod_lock_19 : mcGet K_Mod_lock 19 = (19, false, .ifCond .lt 9, 3, (28, 0, [], [])) := rfl
theorem kf_Mod_lock_22 : mcGet K_Mod_lock 22 = (22, false, .iload_n 3, 1, mcX0) := rfl
theorem kf_Mod_lock_23 : mcGet K_Mod_lock 23 = (23, false, .bipush 64, 2, mcX0) := rfl
theorem kf_Mod_lock_25 : mcGet K_Mod_lock 25 = (25, false, .if_icmp .lt 7, 3, (32, 0, [], [])) := rfl
theorem kf_Mod_lock_28 : mcGet K_Mod_lock 28 = (28, false, .iconst 1, 1, mcX0) := rfl
theorem kf_Mod_lock_29 : mcGet K_Mod_lock 29 = (29, false, .goto 4, 3, (33, 0, [], [])) := rfl
theorem kf_Mod_lock_32 : mcGet K_Mod_lock 32 = (32, false, .iconst 0, 1, mcX0) := rfl
theorem kf_Mod_lock_33 : mcGet K_Mod_lock 33 = (33, false, .iconst 0, 1, mcX0) := rfl
theorem kf_Mod_lock_34 : mcGet K_Mod_lock 34 = (34, false, .invokevirtual 78, 3, (10, 3, [1013, 1015, 63, 1016, 23, 3], [M_Mod_refused])) := rfl
theorem kf_Mod_lock_37 : mcGet K_Mod_lock 37 = (37, false, .ifCond .ne 10, 3, (47, 0, [], [])) := rfl
theorem kf_Mod_lock_40 : mcGet K_Mod_lock 40 = (40, false, .aload_n 0, 1, mcX0) := rfl
theorem kf_Mod_lock_41 : mcGet K_Mod_lock 41 = (41, false, .getfield 60, 3, (10, 19, [940, 2], [])) := rfl
theorem kf_Mod_lock_44 : mcGet K_Mod_lock 44 = (44, false, .ifCond .ne 5, 3, (49, 0, [], [])) := rfl
theorem kf_Mod_lock_47 : mcGet K_Mod_lock 47 = (47, false, .iconst 0, 1, mcX0) := rfl
theorem kf_Mod_lock_48 : mcGet K_Mod_lock 48 = (48, false, .ireturn, 1, mcX0) := rfl
theorem kf_Mod_lock_49 : mcGet K_Mod_lock 49 = (49, false, .aload_n 0, 1, mcX0) := rfl
theorem kf_Mod_lock_50 : mcGet K_Mod_lock 50 = (50, false, .invokevirtual 117, 3, (10, 1, [1048, 1050, 63, 1051, 26, 5], [M_Mod_pass])) := rfl
theorem kf_Mod_lock_53 : mcGet K_Mod_lock 53 = (53, false, .aload_n 0, 1, mcX0) := rfl
theorem kf_Mod_lock_54 : mcGet K_Mod_lock 54 = (54, false, .getfield 47, 3, (10, 14, [935, 1], [])) := rfl
theorem kf_Mod_lock_57 : mcGet K_Mod_lock 57 = (57, false, .iload_n 1, 1, mcX0) := rfl
theorem kf_Mod_lock_58 : mcGet K_Mod_lock 58 = (58, false, .iload_n 2, 1, mcX0) := rfl
theorem kf_Mod_lock_59 : mcGet K_Mod_lock 59 = (59, false, .iload_n 3, 1, mcX0) := rfl
theorem kf_Mod_lock_60 : mcGet K_Mod_lock 60 = (60, false, .invokestatic 99, 3, (0, 3, [1052, 1053, 63, 1054, 0, 3], [M_Mod_lockAt])) := rfl
theorem kf_Mod_lock_63 : mcGet K_Mod_lock 63 = (63, false, .baload, 1, mcX0) := rfl
theorem kf_Mod_lock_64 : mcGet K_Mod_lock 64 = (64, false, .ireturn, 1, mcX0) := rfl
theorem kf_Mod_lockAt_0 : mcGet K_Mod_lockAt 0 = (0, false, .bipush 32, 2, mcX0) := rfl
theorem kf_Mod_lockAt_2 : mcGet K_Mod_lockAt 2 = (2, false, .iload_n 0, 1, mcX0) := rfl
theorem kf_Mod_lockAt_3 : mcGet K_Mod_lockAt 3 = (3, false, .imul, 1, mcX0) := rfl
theorem kf_Mod_lockAt_4 : mcGet K_Mod_lockAt 4 = (4, false, .iload_n 1, 1, mcX0) := rfl
theorem kf_Mod_lockAt_5 : mcGet K_Mod_lockAt 5 = (5, false, .iadd, 1, mcX0) := rfl
theorem kf_Mod_lockAt_6 : mcGet K_Mod_lockAt 6 = (6, false, .bipush 64, 2, mcX0) := rfl
theorem kf_Mod_lockAt_8 : mcGet K_Mod_lockAt 8 = (8, false, .imul, 1, mcX0) := rfl
theorem kf_Mod_lockAt_9 : mcGet K_Mod_lockAt 9 = (9, false, .iload_n 2, 1, mcX0) := rfl
theorem kf_Mod_lockAt_10 : mcGet K_Mod_lockAt 10 = (10, false, .iadd, 1, mcX0) := rfl
theorem kf_Mod_lockAt_11 : mcGet K_Mod_lockAt 11 = (11, false, .ireturn, 1, mcX0) := rfl
theorem kf_Mod_lockBytes_0 : mcGet K_Mod_lockBytes 0 = (0, false, .aload_n 0, 1, mcX0) := rfl
theorem kf_Mod_lockBytes_1 : mcGet K_Mod_lockBytes 1 = (1, false, .iload_n 1, 1, mcX0) := rfl
theorem kf_Mod_lockBytes_2 : mcGet K_Mod_lockBytes 2 = (2, false, .invokevirtual 189, 3, (10, 2, [1090, 1092, 63, 1093, 35, 2], [M_Mod_isDirectory])) := rfl
theorem kf_Mod_lockBytes_5 : mcGet K_Mod_lockBytes 5 = (5, false, .ifCond .eq 5, 3, (10, 0, [], [])) := rfl
theorem kf_Mod_lockBytes_8 : mcGet K_Mod_lockBytes 8 = (8, false, .iconst 4, 1, mcX0) := rfl
theorem kf_Mod_lockBytes_9 : mcGet K_Mod_lockBytes 9 = (9, false, .ireturn, 1, mcX0) := rfl
theorem kf_Mod_lockBytes_10 : mcGet K_Mod_lockBytes 10 = (10, false, .iload_n 2, 1, mcX0) := rfl
theorem kf_Mod_lockBytes_11 : mcGet K_Mod_lockBytes 11 = (11, false, .iload_n 3, 1, mcX0) := rfl
theorem kf_Mod_lockBytes_12 : mcGet K_Mod_lockBytes 12 = (12, false, .invokestatic 202, 3, (0, 2, [1142, 1143, 63, 1144, 0, 2], [M_Mod_areBytes])) := rfl
theorem kf_Mod_lockBytes_15 : mcGet K_Mod_lockBytes 15 = (15, false, .ifCond .eq 15, 3, (30, 0, [], [])) := rfl
theorem kf_Mod_lockBytes_18 : mcGet K_Mod_lockBytes 18 = (18, false, .iload 4, 2, mcX0) := rfl
theorem kf_Mod_lockBytes_20 : mcGet K_Mod_lockBytes 20 = (20, false, .iconst 1, 1, mcX0) := rfl
theorem kf_Mod_lockBytes_21 : mcGet K_Mod_lockBytes 21 = (21, false, .if_icmp .lt 9, 3, (30, 0, [], [])) := rfl
theorem kf_Mod_lockBytes_24 : mcGet K_Mod_lockBytes 24 = (24, false, .iload 4, 2, mcX0) := rfl
theorem kf_Mod_lockBytes_26 : mcGet K_Mod_lockBytes 26 = (26, false, .iconst 2, 1, mcX0) := rfl
theorem kf_Mod_lockBytes_27 : mcGet K_Mod_lockBytes 27 = (27, false, .if_icmp .le 6, 3, (33, 0, [], [])) := rfl
theorem kf_Mod_lockBytes_30 : mcGet K_Mod_lockBytes 30 = (30, false, .bipush 6, 2, mcX0) := rfl
theorem kf_Mod_lockBytes_32 : mcGet K_Mod_lockBytes 32 = (32, false, .ireturn, 1, mcX0) := rfl
theorem kf_Mod_lockBytes_33 : mcGet K_Mod_lockBytes 33 = (33, false, .aload_n 0, 1, mcX0) := rfl
theorem kf_Mod_lockBytes_34 : mcGet K_Mod_lockBytes 34 = (34, false, .invokevirtual 103, 3, (10, 1, [1055, 1057, 63, 1058, 27, 1], [M_Mod_isGrace])) := rfl
theorem kf_Mod_lockBytes_37 : mcGet K_Mod_lockBytes 37 = (37, false, .ifCond .eq 6, 3, (43, 0, [], [])) := rfl
theorem kf_Mod_lockBytes_40 : mcGet K_Mod_lockBytes 40 = (40, false, .bipush 11, 2, mcX0) := rfl
theorem kf_Mod_lockBytes_42 : mcGet K_Mod_lockBytes 42 = (42, false, .ireturn, 1, mcX0) := rfl
theorem kf_Mod_lockBytes_43 : mcGet K_Mod_lockBytes 43 = (43, false, .iload_n 2, 1, mcX0) := rfl
theorem kf_Mod_lockBytes_44 : mcGet K_Mod_lockBytes 44 = (44, false, .istore 5, 2, mcX0) := rfl
theorem kf_Mod_lockBytes_46 : mcGet K_Mod_lockBytes 46 = (46, true, .iload 5, 2, mcX0) := rfl
theorem kf_Mod_lockBytes_48 : mcGet K_Mod_lockBytes 48 = (48, false, .iload_n 3, 1, mcX0) := rfl
theorem kf_Mod_lockBytes_49 : mcGet K_Mod_lockBytes 49 = (49, false, .if_icmp .gt 33, 3, (82, 0, [], [])) := rfl
theorem kf_Mod_lockBytes_52 : mcGet K_Mod_lockBytes 52 = (52, false, .aload_n 0, 1, mcX0) := rfl
theorem kf_Mod_lockBytes_53 : mcGet K_Mod_lockBytes 53 = (53, false, .iload_n 1, 1, mcX0) := rfl
theorem kf_Mod_lockBytes_54 : mcGet K_Mod_lockBytes 54 = (54, false, .iload 5, 2, mcX0) := rfl
theorem kf_Mod_lockBytes_56 : mcGet K_Mod_lockBytes 56 = (56, false, .iload 4, 2, mcX0) := rfl
theorem kf_Mod_lockBytes_58 : mcGet K_Mod_lockBytes 58 = (58, false, .iconst 2, 1, mcX0) := rfl
theorem kf_Mod_lockBytes_59 : mcGet K_Mod_lockBytes 59 = (59, false, .if_icmp .ne 7, 3, (66, 0, [], [])) := rfl
theorem kf_Mod_lockBytes_62 : mcGet K_Mod_lockBytes 62 = (62, false, .iconst 1, 1, mcX0) := rfl
theorem kf_Mod_lockBytes_63 : mcGet K_Mod_lockBytes 63 = (63, false, .goto 4, 3, (67, 0, [], [])) := rfl
theorem kf_Mod_lockBytes_66 : mcGet K_Mod_lockBytes 66 = (66, false, .iconst 2, 1, mcX0) := rfl
theorem kf_Mod_lockBytes_67 : mcGet K_Mod_lockBytes 67 = (67, false, .invokevirtual 199, 3, (10, 4, [1118, 1120, 63, 1121, 42, 6], [M_Mod_hasOther])) := rfl
theorem kf_Mod_lockBytes_70 : mcGet K_Mod_lockBytes 70 = (70, false, .ifCond .eq 6, 3, (76, 0, [], [])) := rfl
theorem kf_Mod_lockBytes_73 : mcGet K_Mod_lockBytes 73 = (73, false, .bipush 9, 2, mcX0) := rfl
theorem kf_Mod_lockBytes_75 : mcGet K_Mod_lockBytes 75 = (75, false, .ireturn, 1, mcX0) := rfl
theorem kf_Mod_lockBytes_76 : mcGet K_Mod_lockBytes 76 = (76, false, .iinc 5 1, 3, mcX0) := rfl
theorem kf_Mod_lockBytes_79 : mcGet K_Mod_lockBytes 79 = (79, false, .goto (-33), 3, (46, 0, [], [])) := rfl
theorem kf_Mod_lockBytes_82 : mcGet K_Mod_lockBytes 82 = (82, false, .iload_n 2, 1, mcX0) := rfl
theorem kf_Mod_lockBytes_83 : mcGet K_Mod_lockBytes 83 = (83, false, .istore 5, 2, mcX0) := rfl
theorem kf_Mod_lockBytes_85 : mcGet K_Mod_lockBytes 85 = (85, true, .iload 5, 2, mcX0) := rfl
theorem kf_Mod_lockBytes_87 : mcGet K_Mod_lockBytes 87 = (87, false, .iload_n 3, 1, mcX0) := rfl
theorem kf_Mod_lockBytes_88 : mcGet K_Mod_lockBytes 88 = (88, false, .if_icmp .gt 27, 3, (115, 0, [], [])) := rfl
theorem kf_Mod_lockBytes_91 : mcGet K_Mod_lockBytes 91 = (91, false, .aload_n 0, 1, mcX0) := rfl
theorem kf_Mod_lockBytes_92 : mcGet K_Mod_lockBytes 92 = (92, false, .getfield 47, 3, (10, 14, [935, 1], [])) := rfl
theorem kf_Mod_lockBytes_95 : mcGet K_Mod_lockBytes 95 = (95, false, .aload_n 0, 1, mcX0) := rfl
theorem kf_Mod_lockBytes_96 : mcGet K_Mod_lockBytes 96 = (96, false, .getfield 107, 3, (10, 24, [945, 0], [])) := rfl
theorem kf_Mod_lockBytes_99 : mcGet K_Mod_lockBytes 99 = (99, false, .iload_n 1, 1, mcX0) := rfl
theorem kf_Mod_lockBytes_100 : mcGet K_Mod_lockBytes 100 = (100, false, .iload 5, 2, mcX0) := rfl
theorem kf_Mod_lockBytes_102 : mcGet K_Mod_lockBytes 102 = (102, false, .invokestatic 99, 3, (0, 3, [1052, 1053, 63, 1054, 0, 3], [M_Mod_lockAt])) := rfl
theorem kf_Mod_lockBytes_105 : mcGet K_Mod_lockBytes 105 = (105, false, .iload 4, 2, mcX0) := rfl
theorem kf_Mod_lockBytes_107 : mcGet K_Mod_lockBytes 107 = (107, false, .i2b, 1, mcX0) := rfl
theorem kf_Mod_lockBytes_108 : mcGet K_Mod_lockBytes 108 = (108, false, .bastore, 1, mcX0) := rfl
theorem kf_Mod_lockBytes_109 : mcGet K_Mod_lockBytes 109 = (109, false, .iinc 5 1, 3, mcX0) := rfl
theorem kf_Mod_lockBytes_112 : mcGet K_Mod_lockBytes 112 = (112, false, .goto (-27), 3, (85, 0, [], [])) := rfl
theorem kf_Mod_lockBytes_115 : mcGet K_Mod_lockBytes 115 = (115, false, .aload_n 0, 1, mcX0) := rfl
theorem kf_Mod_lockBytes_116 : mcGet K_Mod_lockBytes 116 = (116, false, .getfield 54, 3, (10, 16, [937, 1], [])) := rfl
theorem kf_Mod_lockBytes_119 : mcGet K_Mod_lockBytes 119 = (119, false, .aload_n 0, 1, mcX0) := rfl
theorem kf_Mod_lockBytes_120 : mcGet K_Mod_lockBytes 120 = (120, false, .getfield 107, 3, (10, 24, [945, 0], [])) := rfl
theorem kf_Mod_lockBytes_123 : mcGet K_Mod_lockBytes 123 = (123, false, .aload_n 0, 1, mcX0) := rfl
theorem kf_Mod_lockBytes_124 : mcGet K_Mod_lockBytes 124 = (124, false, .getfield 93, 3, (10, 22, [943, 0], [])) := rfl
theorem kf_Mod_lockBytes_127 : mcGet K_Mod_lockBytes 127 = (127, false, .sipush 30000, 3, mcX0) := rfl
theorem kf_Mod_lockBytes_130 : mcGet K_Mod_lockBytes 130 = (130, false, .iadd, 1, mcX0) := rfl
theorem kf_Mod_lockBytes_131 : mcGet K_Mod_lockBytes 131 = (131, false, .iastore, 1, mcX0) := rfl
theorem kf_Mod_lockBytes_132 : mcGet K_Mod_lockBytes 132 = (132, false, .iconst 0, 1, mcX0) := rfl
theorem kf_Mod_lockBytes_133 : mcGet K_Mod_lockBytes 133 = (133, false, .ireturn, 1, mcX0) := rfl
theorem kf_Mod_make_0 : mcGet K_Mod_make 0 = (0, false, .aload_n 0, 1, mcX0) := rfl
theorem kf_Mod_make_1 : mcGet K_Mod_make 1 = (1, false, .iload_n 1, 1, mcX0) := rfl
theorem kf_Mod_make_2 : mcGet K_Mod_make 2 = (2, false, .invokevirtual 189, 3, (10, 2, [1090, 1092, 63, 1093, 35, 2], [M_Mod_isDirectory])) := rfl
theorem kf_Mod_make_5 : mcGet K_Mod_make 5 = (5, false, .ifCond .ne 5, 3, (10, 0, [], [])) := rfl
theorem kf_Mod_make_8 : mcGet K_Mod_make 8 = (8, false, .iconst 4, 1, mcX0) := rfl
theorem kf_Mod_make_9 : mcGet K_Mod_make 9 = (9, false, .ireturn, 1, mcX0) := rfl
theorem kf_Mod_make_10 : mcGet K_Mod_make 10 = (10, false, .iload_n 2, 1, mcX0) := rfl
theorem kf_Mod_make_11 : mcGet K_Mod_make 11 = (11, false, .ifCond .lt 12, 3, (23, 0, [], [])) := rfl
theorem kf_Mod_make_14 : mcGet K_Mod_make 14 = (14, false, .iload_n 2, 1, mcX0) := rfl
theorem kf_Mod_make_15 : mcGet K_Mod_make 15 = (15, false, .iconst 1, 1, mcX0) := rfl
theorem kf_Mod_make_16 : mcGet K_Mod_make 16 = (16, false, .if_icmp .gt 7, 3, (23, 0, [], [])) := rfl
theorem kf_Mod_make_19 : mcGet K_Mod_make 19 = (19, false, .iload_n 3, 1, mcX0) := rfl
theorem kf_Mod_make_20 : mcGet K_Mod_make 20 = (20, false, .ifCond .ne 6, 3, (26, 0, [], [])) := rfl
theorem kf_Mod_make_23 : mcGet K_Mod_make 23 = (23, false, .bipush 6, 2, mcX0) := rfl
theorem kf_Mod_make_25 : mcGet K_Mod_make 25 = (25, false, .ireturn, 1, mcX0) := rfl
theorem kf_Mod_make_26 : mcGet K_Mod_make 26 = (26, false, .aload_n 0, 1, mcX0) := rfl
theorem kf_Mod_make_27 : mcGet K_Mod_make 27 = (27, false, .iload_n 1, 1, mcX0) := rfl
theorem kf_Mod_make_28 : mcGet K_Mod_make 28 = (28, false, .iload_n 3, 1, mcX0) := rfl
theorem kf_Mod_make_29 : mcGet K_Mod_make 29 = (29, false, .invokevirtual 192, 3, (10, 3, [1094, 1096, 63, 1097, 36, 4], [M_Mod_find])) := rfl
theorem kf_Mod_make_32 : mcGet K_Mod_make 32 = (32, false, .ifCond .lt 5, 3, (37, 0, [], [])) := rfl
theorem kf_Mod_make_35 : mcGet K_Mod_make 35 = (35, false, .iconst 3, 1, mcX0) := rfl
theorem kf_Mod_make_36 : mcGet K_Mod_make 36 = (36, false, .ireturn, 1, mcX0) := rfl
theorem kf_Mod_make_37 : mcGet K_Mod_make 37 = (37, false, .iconst 1, 1, mcX0) := rfl
theorem kf_Mod_make_38 : mcGet K_Mod_make 38 = (38, false, .istore 4, 2, mcX0) := rfl
theorem kf_Mod_make_40 : mcGet K_Mod_make 40 = (40, true, .iload 4, 2, mcX0) := rfl
theorem kf_Mod_make_42 : mcGet K_Mod_make 42 = (42, false, .bipush 32, 2, mcX0) := rfl
theorem kf_Mod_make_44 : mcGet K_Mod_make 44 = (44, false, .if_icmp .ge 23, 3, (67, 0, [], [])) := rfl
theorem kf_Mod_make_47 : mcGet K_Mod_make 47 = (47, false, .aload_n 0, 1, mcX0) := rfl
theorem kf_Mod_make_48 : mcGet K_Mod_make 48 = (48, false, .getfield 41, 3, (10, 12, [933, 1], [])) := rfl
theorem kf_Mod_make_51 : mcGet K_Mod_make 51 = (51, false, .sipush 220, 3, mcX0) := rfl
theorem kf_Mod_make_54 : mcGet K_Mod_make 54 = (54, false, .iload 4, 2, mcX0) := rfl
theorem kf_Mod_make_56 : mcGet K_Mod_make 56 = (56, false, .iadd, 1, mcX0) := rfl
theorem kf_Mod_make_57 : mcGet K_Mod_make 57 = (57, false, .iaload, 1, mcX0) := rfl
theorem kf_Mod_make_58 : mcGet K_Mod_make 58 = (58, false, .ifCond .lt 9, 3, (67, 0, [], [])) := rfl
theorem kf_Mod_make_61 : mcGet K_Mod_make 61 = (61, false, .iinc 4 1, 3, mcX0) := rfl
theorem kf_Mod_make_64 : mcGet K_Mod_make 64 = (64, false, .goto (-24), 3, (40, 0, [], [])) := rfl
theorem kf_Mod_make_67 : mcGet K_Mod_make 67 = (67, false, .iload 4, 2, mcX0) := rfl
theorem kf_Mod_make_69 : mcGet K_Mod_make 69 = (69, false, .bipush 32, 2, mcX0) := rfl
theorem kf_Mod_make_71 : mcGet K_Mod_make 71 = (71, false, .if_icmp .ne 5, 3, (76, 0, [], [])) := rfl
theorem kf_Mod_make_74 : mcGet K_Mod_make 74 = (74, false, .iconst 5, 1, mcX0) := rfl
theorem kf_Mod_make_75 : mcGet K_Mod_make 75 = (75, false, .ireturn, 1, mcX0) := rfl
theorem kf_Mod_make_76 : mcGet K_Mod_make 76 = (76, false, .aload_n 0, 1, mcX0) := rfl
theorem kf_Mod_make_77 : mcGet K_Mod_make 77 = (77, false, .getfield 41, 3, (10, 12, [933, 1], [])) := rfl
theorem kf_Mod_make_80 : mcGet K_Mod_make 80 = (80, false, .sipush 220, 3, mcX0) := rfl
theorem kf_Mod_make_83 : mcGet K_Mod_make 83 = (83, false, .iload 4, 2, mcX0) := rfl
theorem kf_Mod_make_85 : mcGet K_Mod_make 85 = (85, false, .iadd, 1, mcX0) := rfl
theorem kf_Mod_make_86 : mcGet K_Mod_make 86 = (86, false, .iload_n 2, 1, mcX0) := rfl
theorem kf_Mod_make_87 : mcGet K_Mod_make 87 = (87, false, .iastore, 1, mcX0) := rfl
theorem kf_Mod_make_88 : mcGet K_Mod_make 88 = (88, false, .aload_n 0, 1, mcX0) := rfl
theorem kf_Mod_make_89 : mcGet K_Mod_make 89 = (89, false, .getfield 41, 3, (10, 12, [933, 1], [])) := rfl
theorem kf_Mod_make_92 : mcGet K_Mod_make 92 = (92, false, .sipush 252, 3, mcX0) := rfl
theorem kf_Mod_make_95 : mcGet K_Mod_make 95 = (95, false, .iload 4, 2, mcX0) := rfl
theorem kf_Mod_make_97 : mcGet K_Mod_make 97 = (97, false, .iadd, 1, mcX0) := rfl
theorem kf_Mod_make_98 : mcGet K_Mod_make 98 = (98, false, .iload_n 1, 1, mcX0) := rfl
theorem kf_Mod_make_99 : mcGet K_Mod_make 99 = (99, false, .iastore, 1, mcX0) := rfl
theorem kf_Mod_make_100 : mcGet K_Mod_make 100 = (100, false, .aload_n 0, 1, mcX0) := rfl
theorem kf_Mod_make_101 : mcGet K_Mod_make 101 = (101, false, .getfield 41, 3, (10, 12, [933, 1], [])) := rfl
theorem kf_Mod_make_104 : mcGet K_Mod_make 104 = (104, false, .sipush 284, 3, mcX0) := rfl
theorem kf_Mod_make_107 : mcGet K_Mod_make 107 = (107, false, .iload 4, 2, mcX0) := rfl
theorem kf_Mod_make_109 : mcGet K_Mod_make 109 = (109, false, .iadd, 1, mcX0) := rfl
theorem kf_Mod_make_110 : mcGet K_Mod_make 110 = (110, false, .iload_n 3, 1, mcX0) := rfl
theorem kf_Mod_make_111 : mcGet K_Mod_make 111 = (111, false, .iastore, 1, mcX0) := rfl
theorem kf_Mod_make_112 : mcGet K_Mod_make 112 = (112, false, .aload_n 0, 1, mcX0) := rfl
theorem kf_Mod_make_113 : mcGet K_Mod_make 113 = (113, false, .getfield 41, 3, (10, 12, [933, 1], [])) := rfl
theorem kf_Mod_make_116 : mcGet K_Mod_make 116 = (116, false, .sipush 316, 3, mcX0) := rfl
theorem kf_Mod_make_119 : mcGet K_Mod_make 119 = (119, false, .iload 4, 2, mcX0) := rfl
theorem kf_Mod_make_121 : mcGet K_Mod_make 121 = (121, false, .iadd, 1, mcX0) := rfl
theorem kf_Mod_make_122 : mcGet K_Mod_make 122 = (122, false, .iconst 0, 1, mcX0) := rfl
theorem kf_Mod_make_123 : mcGet K_Mod_make 123 = (123, false, .iastore, 1, mcX0) := rfl
theorem kf_Mod_make_124 : mcGet K_Mod_make 124 = (124, false, .aload_n 0, 1, mcX0) := rfl
theorem kf_Mod_make_125 : mcGet K_Mod_make 125 = (125, false, .getfield 41, 3, (10, 12, [933, 1], [])) := rfl
theorem kf_Mod_make_128 : mcGet K_Mod_make 128 = (128, false, .sipush 188, 3, mcX0) := rfl
theorem kf_Mod_make_131 : mcGet K_Mod_make 131 = (131, false, .iload 4, 2, mcX0) := rfl
theorem kf_Mod_make_133 : mcGet K_Mod_make 133 = (133, false, .iadd, 1, mcX0) := rfl
theorem kf_Mod_make_134 : mcGet K_Mod_make 134 = (134, false, .aload_n 0, 1, mcX0) := rfl
theorem kf_Mod_make_135 : mcGet K_Mod_make 135 = (135, false, .getfield 68, 3, (10, 18, [939, 0], [])) := rfl
theorem kf_Mod_make_138 : mcGet K_Mod_make 138 = (138, false, .iastore, 1, mcX0) := rfl
theorem kf_Mod_make_139 : mcGet K_Mod_make 139 = (139, false, .aload_n 0, 1, mcX0) := rfl
theorem kf_Mod_make_140 : mcGet K_Mod_make 140 = (140, false, .dup, 1, mcX0) := rfl
theorem kf_Mod_make_141 : mcGet K_Mod_make 141 = (141, false, .getfield 68, 3, (10, 18, [939, 0], [])) := rfl
theorem kf_Mod_make_144 : mcGet K_Mod_make 144 = (144, false, .iconst 1, 1, mcX0) := rfl
theorem kf_Mod_make_145 : mcGet K_Mod_make 145 = (145, false, .iadd, 1, mcX0) := rfl
theorem kf_Mod_make_146 : mcGet K_Mod_make 146 = (146, false, .putfield 68, 3, (10, 18, [939, 0], [])) := rfl
theorem kf_Mod_make_149 : mcGet K_Mod_make 149 = (149, false, .aload_n 0, 1, mcX0) := rfl
theorem kf_Mod_make_150 : mcGet K_Mod_make 150 = (150, false, .iload 4, 2, mcX0) := rfl
theorem kf_Mod_make_152 : mcGet K_Mod_make 152 = (152, false, .putfield 137, 3, (10, 25, [946, 0], [])) := rfl
theorem kf_Mod_make_155 : mcGet K_Mod_make 155 = (155, false, .iconst 0, 1, mcX0) := rfl
theorem kf_Mod_make_156 : mcGet K_Mod_make 156 = (156, false, .ireturn, 1, mcX0) := rfl
theorem kf_Mod_move_0 : mcGet K_Mod_move 0 = (0, false, .iload_n 2, 1, mcX0) := rfl
theorem kf_Mod_move_1 : mcGet K_Mod_move 1 = (1, false, .invokestatic 144, 3, (0, 1, [1075, 1076, 63, 1077, 0, 1], [M_Mod_isHandle])) := rfl
theorem kf_Mod_move_4 : mcGet K_Mod_move 4 = (4, false, .ifCond .ne 6, 3, (10, 0, [], [])) := rfl
theorem kf_Mod_move_7 : mcGet K_Mod_move 7 = (7, false, .bipush 6, 2, mcX0) := rfl
theorem kf_Mod_move_9 : mcGet K_Mod_move 9 = (9, false, .ireturn, 1, mcX0) := rfl
theorem kf_Mod_move_10 : mcGet K_Mod_move 10 = (10, false, .aload_n 0, 1, mcX0) := rfl
theorem kf_Mod_move_11 : mcGet K_Mod_move 11 = (11, false, .aload_n 0, 1, mcX0) := rfl
theorem kf_Mod_move_12 : mcGet K_Mod_move 12 = (12, false, .getfield 107, 3, (10, 24, [945, 0], [])) := rfl
theorem kf_Mod_move_15 : mcGet K_Mod_move 15 = (15, false, .iload_n 2, 1, mcX0) := rfl
theorem kf_Mod_move_16 : mcGet K_Mod_move 16 = (16, false, .invokevirtual 150, 3, (10, 3, [1082, 1084, 63, 1085, 33, 4], [M_Mod_nodeOf])) := rfl
theorem kf_Mod_move_19 : mcGet K_Mod_move 19 = (19, false, .istore 5, 2, mcX0) := rfl
theorem kf_Mod_move_21 : mcGet K_Mod_move 21 = (21, false, .iload 5, 2, mcX0) := rfl
theorem kf_Mod_move_23 : mcGet K_Mod_move 23 = (23, false, .ifCond .ge 5, 3, (28, 0, [], [])) := rfl
theorem kf_Mod_move_26 : mcGet K_Mod_move 26 = (26, false, .iconst 1, 1, mcX0) := rfl
theorem kf_Mod_move_27 : mcGet K_Mod_move 27 = (27, false, .ireturn, 1, mcX0) := rfl
theorem kf_Mod_move_28 : mcGet K_Mod_move 28 = (28, false, .aload_n 0, 1, mcX0) := rfl
theorem kf_Mod_move_29 : mcGet K_Mod_move 29 = (29, false, .iload_n 1, 1, mcX0) := rfl
theorem kf_Mod_move_30 : mcGet K_Mod_move 30 = (30, false, .invokevirtual 189, 3, (10, 2, [1090, 1092, 63, 1093, 35, 2], [M_Mod_isDirectory])) := rfl
theorem kf_Mod_move_33 : mcGet K_Mod_move 33 = (33, false, .ifCond .eq 12, 3, (45, 0, [], [])) := rfl
theorem kf_Mod_move_36 : mcGet K_Mod_move 36 = (36, false, .aload_n 0, 1, mcX0) := rfl
theorem kf_Mod_move_37 : mcGet K_Mod_move 37 = (37, false, .iload 5, 2, mcX0) := rfl
theorem kf_Mod_move_39 : mcGet K_Mod_move 39 = (39, false, .invokevirtual 189, 3, (10, 2, [1090, 1092, 63, 1093, 35, 2], [M_Mod_isDirectory])) := rfl
theorem kf_Mod_move_42 : mcGet K_Mod_move 42 = (42, false, .ifCond .ne 5, 3, (47, 0, [], [])) := rfl
theorem kf_Mod_move_45 : mcGet K_Mod_move 45 = (45, false, .iconst 4, 1, mcX0) := rfl
theorem kf_Mod_move_46 : mcGet K_Mod_move 46 = (46, false, .ireturn, 1, mcX0) := rfl
theorem kf_Mod_move_47 : mcGet K_Mod_move 47 = (47, false, .iload 4, 2, mcX0) := rfl
theorem kf_Mod_move_49 : mcGet K_Mod_move 49 = (49, false, .ifCond .ne 6, 3, (55, 0, [], [])) := rfl
theorem kf_Mod_move_52 : mcGet K_Mod_move 52 = (52, false, .bipush 6, 2, mcX0) := rfl
theorem kf_Mod_move_54 : mcGet K_Mod_move 54 = (54, false, .ireturn, 1, mcX0) := rfl
theorem kf_Mod_move_55 : mcGet K_Mod_move 55 = (55, false, .aload_n 0, 1, mcX0) := rfl
theorem kf_Mod_move_56 : mcGet K_Mod_move 56 = (56, false, .iload_n 1, 1, mcX0) := rfl
theorem kf_Mod_move_57 : mcGet K_Mod_move 57 = (57, false, .iload_n 3, 1, mcX0) := rfl
theorem kf_Mod_move_58 : mcGet K_Mod_move 58 = (58, false, .invokevirtual 192, 3, (10, 3, [1094, 1096, 63, 1097, 36, 4], [M_Mod_find])) := rfl
theorem kf_Mod_move_61 : mcGet K_Mod_move 61 = (61, false, .istore 6, 2, mcX0) := rfl
theorem kf_Mod_move_63 : mcGet K_Mod_move 63 = (63, false, .iload 6, 2, mcX0) := rfl
theorem kf_Mod_move_65 : mcGet K_Mod_move 65 = (65, false, .ifCond .ge 5, 3, (70, 0, [], [])) := rfl
theorem kf_Mod_move_68 : mcGet K_Mod_move 68 = (68, false, .iconst 2, 1, mcX0) := rfl
theorem kf_Mod_move_69 : mcGet K_Mod_move 69 = (69, false, .ireturn, 1, mcX0) := rfl
theorem kf_Mod_move_70 : mcGet K_Mod_move 70 = (70, false, .aload_n 0, 1, mcX0) := rfl
theorem kf_Mod_move_71 : mcGet K_Mod_move 71 = (71, false, .iload 5, 2, mcX0) := rfl
theorem kf_Mod_move_73 : mcGet K_Mod_move 73 = (73, false, .iload 4, 2, mcX0) := rfl
theorem kf_Mod_move_75 : mcGet K_Mod_move 75 = (75, false, .invokevirtual 192, 3, (10, 3, [1094, 1096, 63, 1097, 36, 4], [M_Mod_find])) := rfl
theorem kf_Mod_move_78 : mcGet K_Mod_move 78 = (78, false, .istore 7, 2, mcX0) := rfl
theorem kf_Mod_move_80 : mcGet K_Mod_move 80 = (80, false, .iload 7, 2, mcX0) := rfl
theorem kf_Mod_move_82 : mcGet K_Mod_move 82 = (82, false, .ifCond .lt 12, 3, (94, 0, [], [])) := rfl
theorem kf_Mod_move_85 : mcGet K_Mod_move 85 = (85, false, .iload 7, 2, mcX0) := rfl
theorem kf_Mod_move_87 : mcGet K_Mod_move 87 = (87, false, .iload 6, 2, mcX0) := rfl
theorem kf_Mod_move_89 : mcGet K_Mod_move 89 = (89, false, .if_icmp .eq 5, 3, (94, 0, [], [])) := rfl
theorem kf_Mod_move_92 : mcGet K_Mod_move 92 = (92, false, .iconst 3, 1, mcX0) := rfl
theorem kf_Mod_move_93 : mcGet K_Mod_move 93 = (93, false, .ireturn, 1, mcX0) := rfl
theorem kf_Mod_move_94 : mcGet K_Mod_move 94 = (94, false, .iload 5, 2, mcX0) := rfl
theorem kf_Mod_move_96 : mcGet K_Mod_move 96 = (96, false, .istore 8, 2, mcX0) := rfl
theorem kf_Mod_move_98 : mcGet K_Mod_move 98 = (98, true, .iload 8, 2, mcX0) := rfl
theorem kf_Mod_move_100 : mcGet K_Mod_move 100 = (100, false, .ifCond .le 29, 3, (129, 0, [], [])) := rfl
theorem kf_Mod_move_103 : mcGet K_Mod_move 103 = (103, false, .iload 8, 2, mcX0) := rfl
theorem kf_Mod_move_105 : mcGet K_Mod_move 105 = (105, false, .iload 6, 2, mcX0) := rfl
theorem kf_Mod_move_107 : mcGet K_Mod_move 107 = (107, false, .if_icmp .ne 6, 3, (113, 0, [], [])) := rfl
theorem kf_Mod_move_110 : mcGet K_Mod_move 110 = (110, false, .bipush 8, 2, mcX0) := rfl
theorem kf_Mod_move_112 : mcGet K_Mod_move 112 = (112, false, .ireturn, 1, mcX0) := rfl
theorem kf_Mod_move_113 : mcGet K_Mod_move 113 = (113, false, .aload_n 0, 1, mcX0) := rfl
theorem kf_Mod_move_114 : mcGet K_Mod_move 114 = (114, false, .getfield 41, 3, (10, 12, [933, 1], [])) := rfl
theorem kf_Mod_move_117 : mcGet K_Mod_move 117 = (117, false, .sipush 252, 3, mcX0) := rfl
theorem kf_Mod_move_120 : mcGet K_Mod_move 120 = (120, false, .iload 8, 2, mcX0) := rfl
theorem kf_Mod_move_122 : mcGet K_Mod_move 122 = (122, false, .iadd, 1, mcX0) := rfl
theorem kf_Mod_move_123 : mcGet K_Mod_move 123 = (123, false, .iaload, 1, mcX0) := rfl
theorem kf_Mod_move_124 : mcGet K_Mod_move 124 = (124, false, .istore 8, 2, mcX0) := rfl
theorem kf_Mod_move_126 : mcGet K_Mod_move 126 = (126, false, .goto (-28), 3, (98, 0, [], [])) := rfl
theorem kf_Mod_move_129 : mcGet K_Mod_move 129 = (129, false, .aload_n 0, 1, mcX0) := rfl
theorem kf_Mod_move_130 : mcGet K_Mod_move 130 = (130, false, .getfield 41, 3, (10, 12, [933, 1], [])) := rfl
theorem kf_Mod_move_133 : mcGet K_Mod_move 133 = (133, false, .sipush 252, 3, mcX0) := rfl
theorem kf_Mod_move_136 : mcGet K_Mod_move 136 = (136, false, .iload 6, 2, mcX0) := rfl
theorem kf_Mod_move_138 : mcGet K_Mod_move 138 = (138, false, .iadd, 1, mcX0) := rfl
theorem kf_Mod_move_139 : mcGet K_Mod_move 139 = (139, false, .iload 5, 2, mcX0) := rfl
theorem kf_Mod_move_141 : mcGet K_Mod_move 141 = (141, false, .iastore, 1, mcX0) := rfl
theorem kf_Mod_move_142 : mcGet K_Mod_move 142 = (142, false, .aload_n 0, 1, mcX0) := rfl
theorem kf_Mod_move_143 : mcGet K_Mod_move 143 = (143, false, .getfield 41, 3, (10, 12, [933, 1], [])) := rfl
theorem kf_Mod_move_146 : mcGet K_Mod_move 146 = (146, false, .sipush 284, 3, mcX0) := rfl
theorem kf_Mod_move_149 : mcGet K_Mod_move 149 = (149, false, .iload 6, 2, mcX0) := rfl
theorem kf_Mod_move_151 : mcGet K_Mod_move 151 = (151, false, .iadd, 1, mcX0) := rfl
theorem kf_Mod_move_152 : mcGet K_Mod_move 152 = (152, false, .iload 4, 2, mcX0) := rfl
theorem kf_Mod_move_154 : mcGet K_Mod_move 154 = (154, false, .iastore, 1, mcX0) := rfl
theorem kf_Mod_move_155 : mcGet K_Mod_move 155 = (155, false, .aload_n 0, 1, mcX0) := rfl
theorem kf_Mod_move_156 : mcGet K_Mod_move 156 = (156, false, .iload 6, 2, mcX0) := rfl
theorem kf_Mod_move_158 : mcGet K_Mod_move 158 = (158, false, .putfield 137, 3, (10, 25, [946, 0], [])) := rfl
theorem kf_Mod_move_161 : mcGet K_Mod_move 161 = (161, false, .iconst 0, 1, mcX0) := rfl
theorem kf_Mod_move_162 : mcGet K_Mod_move 162 = (162, false, .ireturn, 1, mcX0) := rfl
theorem kf_Mod_newLife_0 : mcGet K_Mod_newLife 0 = (0, false, .aload_n 0, 1, mcX0) := rfl
theorem kf_Mod_newLife_1 : mcGet K_Mod_newLife 1 = (1, false, .getfield 41, 3, (10, 12, [933, 1], [])) := rfl
theorem kf_Mod_newLife_4 : mcGet K_Mod_newLife 4 = (4, false, .iconst 0, 1, mcX0) := rfl
theorem kf_Mod_newLife_5 : mcGet K_Mod_newLife 5 = (5, false, .iload_n 1, 1, mcX0) := rfl
theorem kf_Mod_newLife_6 : mcGet K_Mod_newLife 6 = (6, false, .iadd, 1, mcX0) := rfl
theorem kf_Mod_newLife_7 : mcGet K_Mod_newLife 7 = (7, false, .iload_n 2, 1, mcX0) := rfl
theorem kf_Mod_newLife_8 : mcGet K_Mod_newLife 8 = (8, false, .iastore, 1, mcX0) := rfl
theorem kf_Mod_newLife_9 : mcGet K_Mod_newLife 9 = (9, false, .iconst 0, 1, mcX0) := rfl
theorem kf_Mod_newLife_10 : mcGet K_Mod_newLife 10 = (10, false, .istore_n 3, 1, mcX0) := rfl
theorem kf_Mod_newLife_11 : mcGet K_Mod_newLife 11 = (11, true, .iload_n 3, 1, mcX0) := rfl
theorem kf_Mod_newLife_12 : mcGet K_Mod_newLife 12 = (12, false, .iconst 3, 1, mcX0) := rfl
theorem kf_Mod_newLife_13 : mcGet K_Mod_newLife 13 = (13, false, .if_icmp .ge 36, 3, (49, 0, [], [])) := rfl
theorem kf_Mod_newLife_16 : mcGet K_Mod_newLife 16 = (16, false, .aload_n 0, 1, mcX0) := rfl
theorem kf_Mod_newLife_17 : mcGet K_Mod_newLife 17 = (17, false, .getfield 41, 3, (10, 12, [933, 1], [])) := rfl
theorem kf_Mod_newLife_20 : mcGet K_Mod_newLife 20 = (20, false, .iconst 4, 1, mcX0) := rfl
theorem kf_Mod_newLife_21 : mcGet K_Mod_newLife 21 = (21, false, .iconst 3, 1, mcX0) := rfl
theorem kf_Mod_newLife_22 : mcGet K_Mod_newLife 22 = (22, false, .iload_n 1, 1, mcX0) := rfl
theorem kf_Mod_newLife_23 : mcGet K_Mod_newLife 23 = (23, false, .imul, 1, mcX0) := rfl
theorem kf_Mod_newLife_24 : mcGet K_Mod_newLife 24 = (24, false, .iadd, 1, mcX0) := rfl
theorem kf_Mod_newLife_25 : mcGet K_Mod_newLife 25 = (25, false, .iload_n 3, 1, mcX0) := rfl
theorem kf_Mod_newLife_26 : mcGet K_Mod_newLife 26 = (26, false, .iadd, 1, mcX0) := rfl
theorem kf_Mod_newLife_27 : mcGet K_Mod_newLife 27 = (27, false, .iconst 0, 1, mcX0) := rfl
theorem kf_Mod_newLife_28 : mcGet K_Mod_newLife 28 = (28, false, .iastore, 1, mcX0) := rfl
theorem kf_Mod_newLife_29 : mcGet K_Mod_newLife 29 = (29, false, .aload_n 0, 1, mcX0) := rfl
theorem kf_Mod_newLife_30 : mcGet K_Mod_newLife 30 = (30, false, .getfield 41, 3, (10, 12, [933, 1], [])) := rfl
theorem kf_Mod_newLife_33 : mcGet K_Mod_newLife 33 = (33, false, .bipush 16, 2, mcX0) := rfl
theorem kf_Mod_newLife_35 : mcGet K_Mod_newLife 35 = (35, false, .iconst 3, 1, mcX0) := rfl
theorem kf_Mod_newLife_36 : mcGet K_Mod_newLife 36 = (36, false, .iload_n 1, 1, mcX0) := rfl
theorem kf_Mod_newLife_37 : mcGet K_Mod_newLife 37 = (37, false, .imul, 1, mcX0) := rfl
theorem kf_Mod_newLife_38 : mcGet K_Mod_newLife 38 = (38, false, .iadd, 1, mcX0) := rfl
theorem kf_Mod_newLife_39 : mcGet K_Mod_newLife 39 = (39, false, .iload_n 3, 1, mcX0) := rfl
theorem kf_Mod_newLife_40 : mcGet K_Mod_newLife 40 = (40, false, .iadd, 1, mcX0) := rfl
theorem kf_Mod_newLife_41 : mcGet K_Mod_newLife 41 = (41, false, .iconst 0, 1, mcX0) := rfl
theorem kf_Mod_newLife_42 : mcGet K_Mod_newLife 42 = (42, false, .iastore, 1, mcX0) := rfl
theorem kf_Mod_newLife_43 : mcGet K_Mod_newLife 43 = (43, false, .iinc 3 1, 3, mcX0) := rfl
theorem kf_Mod_newLife_46 : mcGet K_Mod_newLife 46 = (46, false, .goto (-35), 3, (11, 0, [], [])) := rfl
theorem kf_Mod_newLife_49 : mcGet K_Mod_newLife 49 = (49, false, .iconst 0, 1, mcX0) := rfl
theorem kf_Mod_newLife_50 : mcGet K_Mod_newLife 50 = (50, false, .istore_n 3, 1, mcX0) := rfl
theorem kf_Mod_newLife_51 : mcGet K_Mod_newLife 51 = (51, true, .iload_n 3, 1, mcX0) := rfl
theorem kf_Mod_newLife_52 : mcGet K_Mod_newLife 52 = (52, false, .bipush 8, 2, mcX0) := rfl
theorem kf_Mod_newLife_54 : mcGet K_Mod_newLife 54 = (54, false, .if_icmp .ge 24, 3, (78, 0, [], [])) := rfl
theorem kf_Mod_newLife_57 : mcGet K_Mod_newLife 57 = (57, false, .aload_n 0, 1, mcX0) := rfl
theorem kf_Mod_newLife_58 : mcGet K_Mod_newLife 58 = (58, false, .getfield 41, 3, (10, 12, [933, 1], [])) := rfl
theorem kf_Mod_newLife_61 : mcGet K_Mod_newLife 61 = (61, false, .bipush 124, 2, mcX0) := rfl
theorem kf_Mod_newLife_63 : mcGet K_Mod_newLife 63 = (63, false, .bipush 8, 2, mcX0) := rfl
theorem kf_Mod_newLife_65 : mcGet K_Mod_newLife 65 = (65, false, .iload_n 1, 1, mcX0) := rfl
theorem kf_Mod_newLife_66 : mcGet K_Mod_newLife 66 = (66, false, .imul, 1, mcX0) := rfl
theorem kf_Mod_newLife_67 : mcGet K_Mod_newLife 67 = (67, false, .iadd, 1, mcX0) := rfl
theorem kf_Mod_newLife_68 : mcGet K_Mod_newLife 68 = (68, false, .iload_n 3, 1, mcX0) := rfl
theorem kf_Mod_newLife_69 : mcGet K_Mod_newLife 69 = (69, false, .iadd, 1, mcX0) := rfl
theorem kf_Mod_newLife_70 : mcGet K_Mod_newLife 70 = (70, false, .iconst (-1), 1, mcX0) := rfl
theorem kf_Mod_newLife_71 : mcGet K_Mod_newLife 71 = (71, false, .iastore, 1, mcX0) := rfl
theorem kf_Mod_newLife_72 : mcGet K_Mod_newLife 72 = (72, false, .iinc 3 1, 3, mcX0) := rfl
theorem kf_Mod_newLife_75 : mcGet K_Mod_newLife 75 = (75, false, .goto (-24), 3, (51, 0, [], [])) := rfl
theorem kf_Mod_newLife_78 : mcGet K_Mod_newLife 78 = (78, false, .iload_n 1, 1, mcX0) := rfl
theorem kf_Mod_newLife_79 : mcGet K_Mod_newLife 79 = (79, false, .iconst 0, 1, mcX0) := rfl
theorem kf_Mod_newLife_80 : mcGet K_Mod_newLife 80 = (80, false, .iconst 0, 1, mcX0) := rfl
theorem kf_Mod_newLife_81 : mcGet K_Mod_newLife 81 = (81, false, .invokestatic 99, 3, (0, 3, [1052, 1053, 63, 1054, 0, 3], [M_Mod_lockAt])) := rfl
theorem kf_Mod_newLife_84 : mcGet K_Mod_newLife 84 = (84, false, .istore_n 3, 1, mcX0) := rfl
theorem kf_Mod_newLife_85 : mcGet K_Mod_newLife 85 = (85, true, .iload_n 3, 1, mcX0) := rfl
theorem kf_Mod_newLife_86 : mcGet K_Mod_newLife 86 = (86, false, .iload_n 1, 1, mcX0) := rfl
theorem kf_Mod_newLife_87 : mcGet K_Mod_newLife 87 = (87, false, .iconst 1, 1, mcX0) := rfl
theorem kf_Mod_newLife_88 : mcGet K_Mod_newLife 88 = (88, false, .iadd, 1, mcX0) := rfl
theorem kf_Mod_newLife_89 : mcGet K_Mod_newLife 89 = (89, false, .iconst 0, 1, mcX0) := rfl
theorem kf_Mod_newLife_90 : mcGet K_Mod_newLife 90 = (90, false, .iconst 0, 1, mcX0) := rfl
theorem kf_Mod_newLife_91 : mcGet K_Mod_newLife 91 = (91, false, .invokestatic 99, 3, (0, 3, [1052, 1053, 63, 1054, 0, 3], [M_Mod_lockAt])) := rfl
theorem kf_Mod_newLife_94 : mcGet K_Mod_newLife 94 = (94, false, .if_icmp .ge 16, 3, (110, 0, [], [])) := rfl
theorem kf_Mod_newLife_97 : mcGet K_Mod_newLife 97 = (97, false, .aload_n 0, 1, mcX0) := rfl
theorem kf_Mod_newLife_98 : mcGet K_Mod_newLife 98 = (98, false, .getfield 47, 3, (10, 14, [935, 1], [])) := rfl
theorem kf_Mod_newLife_101 : mcGet K_Mod_newLife 101 = (101, false, .iload_n 3, 1, mcX0) := rfl
theorem kf_Mod_newLife_102 : mcGet K_Mod_newLife 102 = (102, false, .iconst 0, 1, mcX0) := rfl
theorem kf_Mod_newLife_103 : mcGet K_Mod_newLife 103 = (103, false, .bastore, 1, mcX0) := rfl
theorem kf_Mod_newLife_104 : mcGet K_Mod_newLife 104 = (104, false, .iinc 3 1, 3, mcX0) := rfl
theorem kf_Mod_newLife_107 : mcGet K_Mod_newLife 107 = (107, false, .goto (-22), 3, (85, 0, [], [])) := rfl
theorem kf_Mod_newLife_110 : mcGet K_Mod_newLife 110 = (110, false, .aload_n 0, 1, mcX0) := rfl
theorem kf_Mod_newLife_111 : mcGet K_Mod_newLife 111 = (111, false, .getfield 54, 3, (10, 16, [937, 1], [])) := rfl
theorem kf_Mod_newLife_114 : mcGet K_Mod_newLife 114 = (114, false, .iload_n 1, 1, mcX0) := rfl
theorem kf_Mod_newLife_115 : mcGet K_Mod_newLife 115 = (115, false, .iconst 0, 1, mcX0) := rfl
theorem kf_Mod_newLife_116 : mcGet K_Mod_newLife 116 = (116, false, .iastore, 1, mcX0) := rfl
theorem kf_Mod_newLife_117 : mcGet K_Mod_newLife 117 = (117, false, .return_, 1, mcX0) := rfl
theorem kf_Mod_node_0 : mcGet K_Mod_node 0 = (0, false, .aload_n 0, 1, mcX0) := rfl
theorem kf_Mod_node_1 : mcGet K_Mod_node 1 = (1, false, .iload_n 1, 1, mcX0) := rfl
theorem kf_Mod_node_2 : mcGet K_Mod_node 2 = (2, false, .ifCond .lt 18, 3, (20, 0, [], [])) := rfl
theorem kf_Mod_node_5 : mcGet K_Mod_node 5 = (5, false, .iload_n 1, 1, mcX0) := rfl
theorem kf_Mod_node_6 : mcGet K_Mod_node 6 = (6, false, .bipush 32, 2, mcX0) := rfl
theorem kf_Mod_node_8 : mcGet K_Mod_node 8 = (8, false, .if_icmp .ge 12, 3, (20, 0, [], [])) := rfl
theorem kf_Mod_node_11 : mcGet K_Mod_node 11 = (11, false, .iload_n 2, 1, mcX0) := rfl
theorem kf_Mod_node_12 : mcGet K_Mod_node 12 = (12, false, .ifCond .lt 8, 3, (20, 0, [], [])) := rfl
theorem kf_Mod_node_15 : mcGet K_Mod_node 15 = (15, false, .iload_n 2, 1, mcX0) := rfl
theorem kf_Mod_node_16 : mcGet K_Mod_node 16 = (16, false, .iconst 3, 1, mcX0) := rfl
theorem kf_Mod_node_17 : mcGet K_Mod_node 17 = (17, false, .if_icmp .le 7, 3, (24, 0, [], [])) := rfl
theorem kf_Mod_node_20 : mcGet K_Mod_node 20 = (20, false, .iconst 1, 1, mcX0) := rfl
theorem kf_Mod_node_21 : mcGet K_Mod_node 21 = (21, false, .goto 4, 3, (25, 0, [], [])) := rfl
theorem kf_Mod_node_24 : mcGet K_Mod_node 24 = (24, false, .iconst 0, 1, mcX0) := rfl
theorem kf_Mod_node_25 : mcGet K_Mod_node 25 = (25, false, .iconst 0, 1, mcX0) := rfl
theorem kf_Mod_node_26 : mcGet K_Mod_node 26 = (26, false, .invokevirtual 78, 3, (10, 3, [1013, 1015, 63, 1016, 23, 3], [M_Mod_refused])) := rfl
theorem kf_Mod_node_29 : mcGet K_Mod_node 29 = (29, false, .ifCond .eq 5, 3, (34, 0, [], [])) := rfl
theorem kf_Mod_node_32 : mcGet K_Mod_node 32 = (32, false, .iconst 0, 1, mcX0) := rfl
theorem kf_Mod_node_33 : mcGet K_Mod_node 33 = (33, false, .ireturn, 1, mcX0) := rfl
theorem kf_Mod_node_34 : mcGet K_Mod_node 34 = (34, false, .aload_n 0, 1, mcX0) := rfl
theorem kf_Mod_node_35 : mcGet K_Mod_node 35 = (35, false, .getfield 41, 3, (10, 12, [933, 1], [])) := rfl
theorem kf_Mod_node_38 : mcGet K_Mod_node 38 = (38, false, .sipush 220, 3, mcX0) := rfl
theorem kf_Mod_node_41 : mcGet K_Mod_node 41 = (41, false, .iload_n 1, 1, mcX0) := rfl
theorem kf_Mod_node_42 : mcGet K_Mod_node 42 = (42, false, .iadd, 1, mcX0) := rfl
theorem kf_Mod_node_43 : mcGet K_Mod_node 43 = (43, false, .iaload, 1, mcX0) := rfl
theorem kf_Mod_node_44 : mcGet K_Mod_node 44 = (44, false, .ifCond .lt 7, 3, (51, 0, [], [])) := rfl
theorem kf_Mod_node_47 : mcGet K_Mod_node 47 = (47, false, .iconst 1, 1, mcX0) := rfl
theorem kf_Mod_node_48 : mcGet K_Mod_node 48 = (48, false, .goto 4, 3, (52, 0, [], [])) := rfl
theorem kf_Mod_node_51 : mcGet K_Mod_node 51 = (51, false, .iconst 0, 1, mcX0) := rfl
theorem kf_Mod_node_52 : mcGet K_Mod_node 52 = (52, false, .istore_n 3, 1, mcX0) := rfl
theorem kf_Mod_node_53 : mcGet K_Mod_node 53 = (53, false, .iload_n 2, 1, mcX0) := rfl
theorem kf_Mod_node_54 : mcGet K_Mod_node 54 = (54, false, .ifCond .ne 14, 3, (68, 0, [], [])) := rfl
theorem kf_Mod_node_57 : mcGet K_Mod_node 57 = (57, false, .aload_n 0, 1, mcX0) := rfl
theorem kf_Mod_node_58 : mcGet K_Mod_node 58 = (58, false, .getfield 41, 3, (10, 12, [933, 1], [])) := rfl
theorem kf_Mod_node_61 : mcGet K_Mod_node 61 = (61, false, .sipush 220, 3, mcX0) := rfl
theorem kf_Mod_node_64 : mcGet K_Mod_node 64 = (64, false, .iload_n 1, 1, mcX0) := rfl
theorem kf_Mod_node_65 : mcGet K_Mod_node 65 = (65, false, .iadd, 1, mcX0) := rfl
theorem kf_Mod_node_66 : mcGet K_Mod_node 66 = (66, false, .iaload, 1, mcX0) := rfl
theorem kf_Mod_node_67 : mcGet K_Mod_node 67 = (67, false, .ireturn, 1, mcX0) := rfl
theorem kf_Mod_node_68 : mcGet K_Mod_node 68 = (68, false, .iload_n 2, 1, mcX0) := rfl
theorem kf_Mod_node_69 : mcGet K_Mod_node 69 = (69, false, .iconst 1, 1, mcX0) := rfl
theorem kf_Mod_node_70 : mcGet K_Mod_node 70 = (70, false, .if_icmp .ne 26, 3, (96, 0, [], [])) := rfl
theorem kf_Mod_node_73 : mcGet K_Mod_node 73 = (73, false, .iload_n 3, 1, mcX0) := rfl
theorem kf_Mod_node_74 : mcGet K_Mod_node 74 = (74, false, .ifCond .eq 20, 3, (94, 0, [], [])) := rfl
theorem kf_Mod_node_77 : mcGet K_Mod_node 77 = (77, false, .iload_n 1, 1, mcX0) := rfl
theorem kf_Mod_node_78 : mcGet K_Mod_node 78 = (78, false, .ifCond .le 16, 3, (94, 0, [], [])) := rfl
theorem kf_Mod_node_81 : mcGet K_Mod_node 81 = (81, false, .aload_n 0, 1, mcX0) := rfl
theorem kf_Mod_node_82 : mcGet K_Mod_node 82 = (82, false, .getfield 41, 3, (10, 12, [933, 1], [])) := rfl
theorem kf_Mod_node_85 : mcGet K_Mod_node 85 = (85, false, .sipush 252, 3, mcX0) := rfl
theorem kf_Mod_node_88 : mcGet K_Mod_node 88 = (88, false, .iload_n 1, 1, mcX0) := rfl
theorem kf_Mod_node_89 : mcGet K_Mod_node 89 = (89, false, .iadd, 1, mcX0) := rfl
theorem kf_Mod_node_90 : mcGet K_Mod_node 90 = (90, false, .iaload, 1, mcX0) := rfl
theorem kf_Mod_node_91 : mcGet K_Mod_node 91 = (91, false, .goto 4, 3, (95, 0, [], [])) := rfl
theorem kf_Mod_node_94 : mcGet K_Mod_node 94 = (94, false, .iconst (-1), 1, mcX0) := rfl
theorem kf_Mod_node_95 : mcGet K_Mod_node 95 = (95, false, .ireturn, 1, mcX0) := rfl
theorem kf_Mod_node_96 : mcGet K_Mod_node 96 = (96, false, .iload_n 2, 1, mcX0) := rfl
theorem kf_Mod_node_97 : mcGet K_Mod_node 97 = (97, false, .iconst 2, 1, mcX0) := rfl
theorem kf_Mod_node_98 : mcGet K_Mod_node 98 = (98, false, .if_icmp .ne 28, 3, (126, 0, [], [])) := rfl
theorem kf_Mod_node_101 : mcGet K_Mod_node 101 = (101, false, .iload_n 3, 1, mcX0) := rfl
theorem kf_Mod_node_102 : mcGet K_Mod_node 102 = (102, false, .ifCond .eq 20, 3, (122, 0, [], [])) := rfl
theorem kf_Mod_node_105 : mcGet K_Mod_node 105 = (105, false, .iload_n 1, 1, mcX0) := rfl
theorem kf_Mod_node_106 : mcGet K_Mod_node 106 = (106, false, .ifCond .le 16, 3, (122, 0, [], [])) := rfl
theorem kf_Mod_node_109 : mcGet K_Mod_node 109 = (109, false, .aload_n 0, 1, mcX0) := rfl
theorem kf_Mod_node_110 : mcGet K_Mod_node 110 = (110, false, .getfield 41, 3, (10, 12, [933, 1], [])) := rfl
theorem kf_Mod_node_113 : mcGet K_Mod_node 113 = (113, false, .sipush 284, 3, mcX0) := rfl
theorem kf_Mod_node_116 : mcGet K_Mod_node 116 = (116, false, .iload_n 1, 1, mcX0) := rfl
theorem kf_Mod_node_117 : mcGet K_Mod_node 117 = (117, false, .iadd, 1, mcX0) := rfl
theorem kf_Mod_node_118 : mcGet K_Mod_node 118 = (118, false, .iaload, 1, mcX0) := rfl
theorem kf_Mod_node_119 : mcGet K_Mod_node 119 = (119, false, .goto 34, 3, (153, 0, [], [])) := rfl
theorem kf_Mod_node_122 : mcGet K_Mod_node 122 = (122, false, .iconst 0, 1, mcX0) := rfl
theorem kf_Mod_node_123 : mcGet K_Mod_node 123 = (123, false, .goto 30, 3, (153, 0, [], [])) := rfl
theorem kf_Mod_node_126 : mcGet K_Mod_node 126 = (126, false, .aload_n 0, 1, mcX0) := rfl
theorem kf_Mod_node_127 : mcGet K_Mod_node 127 = (127, false, .getfield 41, 3, (10, 12, [933, 1], [])) := rfl
theorem kf_Mod_node_130 : mcGet K_Mod_node 130 = (130, false, .sipush 220, 3, mcX0) := rfl
theorem kf_Mod_node_133 : mcGet K_Mod_node 133 = (133, false, .iload_n 1, 1, mcX0) := rfl
theorem kf_Mod_node_134 : mcGet K_Mod_node 134 = (134, false, .iadd, 1, mcX0) := rfl
theorem kf_Mod_node_135 : mcGet K_Mod_node 135 = (135, false, .iaload, 1, mcX0) := rfl
theorem kf_Mod_node_136 : mcGet K_Mod_node 136 = (136, false, .ifCond .ne 16, 3, (152, 0, [], [])) := rfl
theorem kf_Mod_node_139 : mcGet K_Mod_node 139 = (139, false, .aload_n 0, 1, mcX0) := rfl
theorem kf_Mod_node_140 : mcGet K_Mod_node 140 = (140, false, .getfield 41, 3, (10, 12, [933, 1], [])) := rfl
theorem kf_Mod_node_143 : mcGet K_Mod_node 143 = (143, false, .sipush 316, 3, mcX0) := rfl
theorem kf_Mod_node_146 : mcGet K_Mod_node 146 = (146, false, .iload_n 1, 1, mcX0) := rfl
theorem kf_Mod_node_147 : mcGet K_Mod_node 147 = (147, false, .iadd, 1, mcX0) := rfl
theorem kf_Mod_node_148 : mcGet K_Mod_node 148 = (148, false, .iaload, 1, mcX0) := rfl
theorem kf_Mod_node_149 : mcGet K_Mod_node 149 = (149, false, .goto 4, 3, (153, 0, [], [])) := rfl
theorem kf_Mod_node_152 : mcGet K_Mod_node 152 = (152, false, .iconst 0, 1, mcX0) := rfl
theorem kf_Mod_node_153 : mcGet K_Mod_node 153 = (153, false, .ireturn, 1, mcX0) := rfl
theorem kf_Mod_nodeOf_0 : mcGet K_Mod_nodeOf 0 = (0, false, .aload_n 0, 1, mcX0) := rfl
theorem kf_Mod_nodeOf_1 : mcGet K_Mod_nodeOf 1 = (1, false, .getfield 41, 3, (10, 12, [933, 1], [])) := rfl
theorem kf_Mod_nodeOf_4 : mcGet K_Mod_nodeOf 4 = (4, false, .bipush 124, 2, mcX0) := rfl
theorem kf_Mod_nodeOf_6 : mcGet K_Mod_nodeOf 6 = (6, false, .bipush 8, 2, mcX0) := rfl
theorem kf_Mod_nodeOf_8 : mcGet K_Mod_nodeOf 8 = (8, false, .iload_n 1, 1, mcX0) := rfl
theorem kf_Mod_nodeOf_9 : mcGet K_Mod_nodeOf 9 = (9, false, .imul, 1, mcX0) := rfl
theorem kf_Mod_nodeOf_10 : mcGet K_Mod_nodeOf 10 = (10, false, .iadd, 1, mcX0) := rfl
theorem kf_Mod_nodeOf_11 : mcGet K_Mod_nodeOf 11 = (11, false, .iload_n 2, 1, mcX0) := rfl
theorem kf_Mod_nodeOf_12 : mcGet K_Mod_nodeOf 12 = (12, false, .iadd, 1, mcX0) := rfl
theorem kf_Mod_nodeOf_13 : mcGet K_Mod_nodeOf 13 = (13, false, .iaload, 1, mcX0) := rfl
theorem kf_Mod_nodeOf_14 : mcGet K_Mod_nodeOf 14 = (14, false, .istore_n 3, 1, mcX0) := rfl
theorem kf_Mod_nodeOf_15 : mcGet K_Mod_nodeOf 15 = (15, false, .iload_n 3, 1, mcX0) := rfl
theorem kf_Mod_nodeOf_16 : mcGet K_Mod_nodeOf 16 = (16, false, .ifCond .lt 48, 3, (64, 0, [], [])) := rfl
theorem kf_Mod_nodeOf_19 : mcGet K_Mod_nodeOf 19 = (19, false, .aload_n 0, 1, mcX0) := rfl
theorem kf_Mod_nodeOf_20 : mcGet K_Mod_nodeOf 20 = (20, false, .getfield 41, 3, (10, 12, [933, 1], [])) := rfl
theorem kf_Mod_nodeOf_23 : mcGet K_Mod_nodeOf 23 = (23, false, .sipush 220, 3, mcX0) := rfl
theorem kf_Mod_nodeOf_26 : mcGet K_Mod_nodeOf 26 = (26, false, .iload_n 3, 1, mcX0) := rfl
theorem kf_Mod_nodeOf_27 : mcGet K_Mod_nodeOf 27 = (27, false, .iadd, 1, mcX0) := rfl
theorem kf_Mod_nodeOf_28 : mcGet K_Mod_nodeOf 28 = (28, false, .iaload, 1, mcX0) := rfl
theorem kf_Mod_nodeOf_29 : mcGet K_Mod_nodeOf 29 = (29, false, .ifCond .lt 35, 3, (64, 0, [], [])) := rfl
theorem kf_Mod_nodeOf_32 : mcGet K_Mod_nodeOf 32 = (32, false, .aload_n 0, 1, mcX0) := rfl
theorem kf_Mod_nodeOf_33 : mcGet K_Mod_nodeOf 33 = (33, false, .getfield 41, 3, (10, 12, [933, 1], [])) := rfl
theorem kf_Mod_nodeOf_36 : mcGet K_Mod_nodeOf 36 = (36, false, .sipush 188, 3, mcX0) := rfl
theorem kf_Mod_nodeOf_39 : mcGet K_Mod_nodeOf 39 = (39, false, .iload_n 3, 1, mcX0) := rfl
theorem kf_Mod_nodeOf_40 : mcGet K_Mod_nodeOf 40 = (40, false, .iadd, 1, mcX0) := rfl
theorem kf_Mod_nodeOf_41 : mcGet K_Mod_nodeOf 41 = (41, false, .iaload, 1, mcX0) := rfl
theorem kf_Mod_nodeOf_42 : mcGet K_Mod_nodeOf 42 = (42, false, .aload_n 0, 1, mcX0) := rfl
theorem kf_Mod_nodeOf_43 : mcGet K_Mod_nodeOf 43 = (43, false, .getfield 41, 3, (10, 12, [933, 1], [])) := rfl
theorem kf_Mod_nodeOf_46 : mcGet K_Mod_nodeOf 46 = (46, false, .sipush 156, 3, mcX0) := rfl
theorem kf_Mod_nodeOf_49 : mcGet K_Mod_nodeOf 49 = (49, false, .bipush 8, 2, mcX0) := rfl
theorem kf_Mod_nodeOf_51 : mcGet K_Mod_nodeOf 51 = (51, false, .iload_n 1, 1, mcX0) := rfl
theorem kf_Mod_nodeOf_52 : mcGet K_Mod_nodeOf 52 = (52, false, .imul, 1, mcX0) := rfl
theorem kf_Mod_nodeOf_53 : mcGet K_Mod_nodeOf 53 = (53, false, .iadd, 1, mcX0) := rfl
theorem kf_Mod_nodeOf_54 : mcGet K_Mod_nodeOf 54 = (54, false, .iload_n 2, 1, mcX0) := rfl
theorem kf_Mod_nodeOf_55 : mcGet K_Mod_nodeOf 55 = (55, false, .iadd, 1, mcX0) := rfl
theorem kf_Mod_nodeOf_56 : mcGet K_Mod_nodeOf 56 = (56, false, .iaload, 1, mcX0) := rfl
theorem kf_Mod_nodeOf_57 : mcGet K_Mod_nodeOf 57 = (57, false, .if_icmp .ne 7, 3, (64, 0, [], [])) := rfl
theorem kf_Mod_nodeOf_60 : mcGet K_Mod_nodeOf 60 = (60, false, .iload_n 3, 1, mcX0) := rfl
theorem kf_Mod_nodeOf_61 : mcGet K_Mod_nodeOf 61 = (61, false, .goto 4, 3, (65, 0, [], [])) := rfl
theorem kf_Mod_nodeOf_64 : mcGet K_Mod_nodeOf 64 = (64, false, .iconst (-1), 1, mcX0) := rfl
theorem kf_Mod_nodeOf_65 : mcGet K_Mod_nodeOf 65 = (65, false, .ireturn, 1, mcX0) := rfl
theorem kf_Mod_nodes_0 : mcGet K_Mod_nodes 0 = (0, false, .aload_n 0, 1, mcX0) := rfl
theorem kf_Mod_nodes_1 : mcGet K_Mod_nodes 1 = (1, false, .iconst 0, 1, mcX0) := rfl
theorem kf_Mod_nodes_2 : mcGet K_Mod_nodes 2 = (2, false, .putfield 71, 3, (10, 0, [921, 0], [])) := rfl
theorem kf_Mod_nodes_5 : mcGet K_Mod_nodes 5 = (5, false, .iconst 0, 1, mcX0) := rfl
theorem kf_Mod_nodes_6 : mcGet K_Mod_nodes 6 = (6, false, .istore_n 1, 1, mcX0) := rfl
theorem kf_Mod_nodes_7 : mcGet K_Mod_nodes 7 = (7, false, .iconst 0, 1, mcX0) := rfl
theorem kf_Mod_nodes_8 : mcGet K_Mod_nodes 8 = (8, false, .istore_n 2, 1, mcX0) := rfl
theorem kf_Mod_nodes_9 : mcGet K_Mod_nodes 9 = (9, true, .iload_n 2, 1, mcX0) := rfl
theorem kf_Mod_nodes_10 : mcGet K_Mod_nodes 10 = (10, false, .bipush 32, 2, mcX0) := rfl
theorem kf_Mod_nodes_12 : mcGet K_Mod_nodes 12 = (12, false, .if_icmp .ge 30, 3, (42, 0, [], [])) := rfl
theorem kf_Mod_nodes_15 : mcGet K_Mod_nodes 15 = (15, false, .aload_n 0, 1, mcX0) := rfl
theorem kf_Mod_nodes_16 : mcGet K_Mod_nodes 16 = (16, false, .getfield 41, 3, (10, 12, [933, 1], [])) := rfl
theorem kf_Mod_nodes_19 : mcGet K_Mod_nodes 19 = (19, false, .sipush 220, 3, mcX0) := rfl
theorem kf_Mod_nodes_22 : mcGet K_Mod_nodes 22 = (22, false, .iload_n 2, 1, mcX0) := rfl
theorem kf_Mod_nodes_23 : mcGet K_Mod_nodes 23 = (23, false, .iadd, 1, mcX0) := rfl
theorem kf_Mod_nodes_24 : mcGet K_Mod_nodes 24 = (24, false, .iaload, 1, mcX0) := rfl
theorem kf_Mod_nodes_25 : mcGet K_Mod_nodes 25 = (25, false, .ifCond .lt 9, 3, (34, 0, [], [])) := rfl
theorem kf_Mod_nodes_28 : mcGet K_Mod_nodes 28 = (28, false, .iload_n 1, 1, mcX0) := rfl
theorem kf_Mod_nodes_29 : mcGet K_Mod_nodes 29 = (29, false, .iconst 1, 1, mcX0) := rfl
theorem kf_Mod_nodes_30 : mcGet K_Mod_nodes 30 = (30, false, .iadd, 1, mcX0) := rfl
theorem kf_Mod_nodes_31 : mcGet K_Mod_nodes 31 = (31, false, .goto 4, 3, (35, 0, [], [])) := rfl
theorem kf_Mod_nodes_34 : mcGet K_Mod_nodes 34 = (34, false, .iload_n 1, 1, mcX0) := rfl
theorem kf_Mod_nodes_35 : mcGet K_Mod_nodes 35 = (35, false, .istore_n 1, 1, mcX0) := rfl
theorem kf_Mod_nodes_36 : mcGet K_Mod_nodes 36 = (36, false, .iinc 2 1, 3, mcX0) := rfl
theorem kf_Mod_nodes_39 : mcGet K_Mod_nodes 39 = (39, false, .goto (-30), 3, (9, 0, [], [])) := rfl
theorem kf_Mod_nodes_42 : mcGet K_Mod_nodes 42 = (42, false, .iload_n 1, 1, mcX0) := rfl
theorem kf_Mod_nodes_43 : mcGet K_Mod_nodes 43 = (43, false, .ireturn, 1, mcX0) := rfl
theorem kf_Mod_pass_0 : mcGet K_Mod_pass 0 = (0, false, .iconst 0, 1, mcX0) := rfl
theorem kf_Mod_pass_1 : mcGet K_Mod_pass 1 = (1, false, .istore_n 1, 1, mcX0) := rfl
theorem kf_Mod_pass_2 : mcGet K_Mod_pass 2 = (2, true, .iload_n 1, 1, mcX0) := rfl
theorem kf_Mod_pass_3 : mcGet K_Mod_pass 3 = (3, false, .iconst 4, 1, mcX0) := rfl
theorem kf_Mod_pass_4 : mcGet K_Mod_pass 4 = (4, false, .if_icmp .ge 122, 3, (126, 0, [], [])) := rfl
theorem kf_Mod_pass_7 : mcGet K_Mod_pass 7 = (7, false, .aload_n 0, 1, mcX0) := rfl
theorem kf_Mod_pass_8 : mcGet K_Mod_pass 8 = (8, false, .getfield 93, 3, (10, 22, [943, 0], [])) := rfl
theorem kf_Mod_pass_11 : mcGet K_Mod_pass 11 = (11, false, .aload_n 0, 1, mcX0) := rfl
theorem kf_Mod_pass_12 : mcGet K_Mod_pass 12 = (12, false, .getfield 54, 3, (10, 16, [937, 1], [])) := rfl
theorem kf_Mod_pass_15 : mcGet K_Mod_pass 15 = (15, false, .iload_n 1, 1, mcX0) := rfl
theorem kf_Mod_pass_16 : mcGet K_Mod_pass 16 = (16, false, .iaload, 1, mcX0) := rfl
theorem kf_Mod_pass_17 : mcGet K_Mod_pass 17 = (17, false, .if_icmp .lt 7, 3, (24, 0, [], [])) := rfl
theorem kf_Mod_pass_20 : mcGet K_Mod_pass 20 = (20, false, .iconst 1, 1, mcX0) := rfl
theorem kf_Mod_pass_21 : mcGet K_Mod_pass 21 = (21, false, .goto 4, 3, (25, 0, [], [])) := rfl
theorem kf_Mod_pass_24 : mcGet K_Mod_pass 24 = (24, false, .iconst 0, 1, mcX0) := rfl
theorem kf_Mod_pass_25 : mcGet K_Mod_pass 25 = (25, false, .istore_n 2, 1, mcX0) := rfl
theorem kf_Mod_pass_26 : mcGet K_Mod_pass 26 = (26, false, .iload_n 1, 1, mcX0) := rfl
theorem kf_Mod_pass_27 : mcGet K_Mod_pass 27 = (27, false, .iconst 0, 1, mcX0) := rfl
theorem kf_Mod_pass_28 : mcGet K_Mod_pass 28 = (28, false, .iconst 0, 1, mcX0) := rfl
theorem kf_Mod_pass_29 : mcGet K_Mod_pass 29 = (29, false, .invokestatic 99, 3, (0, 3, [1052, 1053, 63, 1054, 0, 3], [M_Mod_lockAt])) := rfl
theorem kf_Mod_pass_32 : mcGet K_Mod_pass 32 = (32, false, .istore_n 3, 1, mcX0) := rfl
theorem kf_Mod_pass_33 : mcGet K_Mod_pass 33 = (33, true, .iload_n 3, 1, mcX0) := rfl
theorem kf_Mod_pass_34 : mcGet K_Mod_pass 34 = (34, false, .iload_n 1, 1, mcX0) := rfl
theorem kf_Mod_pass_35 : mcGet K_Mod_pass 35 = (35, false, .iconst 1, 1, mcX0) := rfl
theorem kf_Mod_pass_36 : mcGet K_Mod_pass 36 = (36, false, .iadd, 1, mcX0) := rfl
theorem kf_Mod_pass_37 : mcGet K_Mod_pass 37 = (37, false, .iconst 0, 1, mcX0) := rfl
theorem kf_Mod_pass_38 : mcGet K_Mod_pass 38 = (38, false, .iconst 0, 1, mcX0) := rfl
theorem kf_Mod_pass_39 : mcGet K_Mod_pass 39 = (39, false, .invokestatic 99, 3, (0, 3, [1052, 1053, 63, 1054, 0, 3], [M_Mod_lockAt])) := rfl
theorem kf_Mod_pass_42 : mcGet K_Mod_pass 42 = (42, false, .if_icmp .ge 58, 3, (100, 0, [], [])) := rfl
theorem kf_Mod_pass_45 : mcGet K_Mod_pass 45 = (45, false, .aload_n 0, 1, mcX0) := rfl
theorem kf_Mod_pass_46 : mcGet K_Mod_pass 46 = (46, false, .getfield 47, 3, (10, 14, [935, 1], [])) := rfl
theorem kf_Mod_pass_49 : mcGet K_Mod_pass 49 = (49, false, .iload_n 3, 1, mcX0) := rfl
theorem kf_Mod_pass_50 : mcGet K_Mod_pass 50 = (50, false, .baload, 1, mcX0) := rfl
theorem kf_Mod_pass_51 : mcGet K_Mod_pass 51 = (51, false, .iconst 4, 1, mcX0) := rfl
theorem kf_Mod_pass_52 : mcGet K_Mod_pass 52 = (52, false, .if_icmp .ge 7, 3, (59, 0, [], [])) := rfl
theorem kf_Mod_pass_55 : mcGet K_Mod_pass 55 = (55, false, .iload_n 2, 1, mcX0) := rfl
theorem kf_Mod_pass_56 : mcGet K_Mod_pass 56 = (56, false, .goto 15, 3, (71, 0, [], [])) := rfl
theorem kf_Mod_pass_59 : mcGet K_Mod_pass 59 = (59, false, .aload_n 0, 1, mcX0) := rfl
theorem kf_Mod_pass_60 : mcGet K_Mod_pass 60 = (60, false, .invokevirtual 103, 3, (10, 1, [1055, 1057, 63, 1058, 27, 1], [M_Mod_isGrace])) := rfl
theorem kf_Mod_pass_63 : mcGet K_Mod_pass 63 = (63, false, .ifCond .ne 7, 3, (70, 0, [], [])) := rfl
theorem kf_Mod_pass_66 : mcGet K_Mod_pass 66 = (66, false, .iconst 1, 1, mcX0) := rfl
theorem kf_Mod_pass_67 : mcGet K_Mod_pass 67 = (67, false, .goto 4, 3, (71, 0, [], [])) := rfl
theorem kf_Mod_pass_70 : mcGet K_Mod_pass 70 = (70, false, .iconst 0, 1, mcX0) := rfl
theorem kf_Mod_pass_71 : mcGet K_Mod_pass 71 = (71, false, .istore 4, 2, mcX0) := rfl
theorem kf_Mod_pass_73 : mcGet K_Mod_pass 73 = (73, false, .aload_n 0, 1, mcX0) := rfl
theorem kf_Mod_pass_74 : mcGet K_Mod_pass 74 = (74, false, .getfield 47, 3, (10, 14, [935, 1], [])) := rfl
theorem kf_Mod_pass_77 : mcGet K_Mod_pass 77 = (77, false, .iload_n 3, 1, mcX0) := rfl
theorem kf_Mod_pass_78 : mcGet K_Mod_pass 78 = (78, false, .iload 4, 2, mcX0) := rfl
theorem kf_Mod_pass_80 : mcGet K_Mod_pass 80 = (80, false, .ifCond .eq 7, 3, (87, 0, [], [])) := rfl
theorem kf_Mod_pass_83 : mcGet K_Mod_pass 83 = (83, false, .iconst 0, 1, mcX0) := rfl
theorem kf_Mod_pass_84 : mcGet K_Mod_pass 84 = (84, false, .goto 9, 3, (93, 0, [], [])) := rfl
theorem kf_Mod_pass_87 : mcGet K_Mod_pass 87 = (87, false, .aload_n 0, 1, mcX0) := rfl
theorem kf_Mod_pass_88 : mcGet K_Mod_pass 88 = (88, false, .getfield 47, 3, (10, 14, [935, 1], [])) := rfl
theorem kf_Mod_pass_91 : mcGet K_Mod_pass 91 = (91, false, .iload_n 3, 1, mcX0) := rfl
theorem kf_Mod_pass_92 : mcGet K_Mod_pass 92 = (92, false, .baload, 1, mcX0) := rfl
theorem kf_Mod_pass_93 : mcGet K_Mod_pass 93 = (93, false, .bastore, 1, mcX0) := rfl
theorem kf_Mod_pass_94 : mcGet K_Mod_pass 94 = (94, false, .iinc 3 1, 3, mcX0) := rfl
theorem kf_Mod_pass_97 : mcGet K_Mod_pass 97 = (97, false, .goto (-64), 3, (33, 0, [], [])) := rfl
theorem kf_Mod_pass_100 : mcGet K_Mod_pass 100 = (100, false, .aload_n 0, 1, mcX0) := rfl
theorem kf_Mod_pass_101 : mcGet K_Mod_pass 101 = (101, false, .getfield 54, 3, (10, 16, [937, 1], [])) := rfl
theorem kf_Mod_pass_104 : mcGet K_Mod_pass 104 = (104, false, .iload_n 1, 1, mcX0) := rfl
theorem kf_Mod_pass_105 : mcGet K_Mod_pass 105 = (105, false, .iload_n 2, 1, mcX0) := rfl
theorem kf_Mod_pass_106 : mcGet K_Mod_pass 106 = (106, false, .ifCond .eq 7, 3, (113, 0, [], [])) := rfl
theorem kf_Mod_pass_109 : mcGet K_Mod_pass 109 = (109, false, .iconst 0, 1, mcX0) := rfl
theorem kf_Mod_pass_110 : mcGet K_Mod_pass 110 = (110, false, .goto 9, 3, (119, 0, [], [])) := rfl
theorem kf_Mod_pass_113 : mcGet K_Mod_pass 113 = (113, false, .aload_n 0, 1, mcX0) := rfl
theorem kf_Mod_pass_114 : mcGet K_Mod_pass 114 = (114, false, .getfield 54, 3, (10, 16, [937, 1], [])) := rfl
theorem kf_Mod_pass_117 : mcGet K_Mod_pass 117 = (117, false, .iload_n 1, 1, mcX0) := rfl
theorem kf_Mod_pass_118 : mcGet K_Mod_pass 118 = (118, false, .iaload, 1, mcX0) := rfl
theorem kf_Mod_pass_119 : mcGet K_Mod_pass 119 = (119, false, .iastore, 1, mcX0) := rfl
theorem kf_Mod_pass_120 : mcGet K_Mod_pass 120 = (120, false, .iinc 1 1, 3, mcX0) := rfl
theorem kf_Mod_pass_123 : mcGet K_Mod_pass 123 = (123, false, .goto (-121), 3, (2, 0, [], [])) := rfl
theorem kf_Mod_pass_126 : mcGet K_Mod_pass 126 = (126, false, .return_, 1, mcX0) := rfl
theorem kf_Mod_perform_0 : mcGet K_Mod_perform 0 = (0, false, .aload_n 0, 1, mcX0) := rfl
theorem kf_Mod_perform_1 : mcGet K_Mod_perform 1 = (1, false, .iload_n 2, 1, mcX0) := rfl
theorem kf_Mod_perform_2 : mcGet K_Mod_perform 2 = (2, false, .putfield 107, 3, (10, 24, [945, 0], [])) := rfl
theorem kf_Mod_perform_5 : mcGet K_Mod_perform 5 = (5, false, .aload_n 0, 1, mcX0) := rfl
theorem kf_Mod_perform_6 : mcGet K_Mod_perform 6 = (6, false, .getfield 35, 3, (10, 10, [931, 1], [])) := rfl
theorem kf_Mod_perform_9 : mcGet K_Mod_perform 9 = (9, false, .iconst 5, 1, mcX0) := rfl
theorem kf_Mod_perform_10 : mcGet K_Mod_perform 10 = (10, false, .iload_n 1, 1, mcX0) := rfl
theorem kf_Mod_perform_11 : mcGet K_Mod_perform 11 = (11, false, .imul, 1, mcX0) := rfl
theorem kf_Mod_perform_12 : mcGet K_Mod_perform 12 = (12, false, .iconst 4, 1, mcX0) := rfl
theorem kf_Mod_perform_13 : mcGet K_Mod_perform 13 = (13, false, .iadd, 1, mcX0) := rfl
theorem kf_Mod_perform_14 : mcGet K_Mod_perform 14 = (14, false, .iaload, 1, mcX0) := rfl
theorem kf_Mod_perform_15 : mcGet K_Mod_perform 15 = (15, false, .istore 4, 2, mcX0) := rfl
theorem kf_Mod_perform_17 : mcGet K_Mod_perform 17 = (17, false, .iconst 0, 1, mcX0) := rfl
theorem kf_Mod_perform_18 : mcGet K_Mod_perform 18 = (18, false, .istore 5, 2, mcX0) := rfl
theorem kf_Mod_perform_20 : mcGet K_Mod_perform 20 = (20, false, .iconst 1, 1, mcX0) := rfl
theorem kf_Mod_perform_21 : mcGet K_Mod_perform 21 = (21, false, .istore 6, 2, mcX0) := rfl
theorem kf_Mod_perform_23 : mcGet K_Mod_perform 23 = (23, true, .iload 6, 2, mcX0) := rfl
theorem kf_Mod_perform_25 : mcGet K_Mod_perform 25 = (25, false, .ifCond .eq 136, 3, (161, 0, [], [])) := rfl
theorem kf_Mod_perform_28 : mcGet K_Mod_perform 28 = (28, false, .iload 5, 2, mcX0) := rfl
theorem kf_Mod_perform_30 : mcGet K_Mod_perform 30 = (30, false, .iload 4, 2, mcX0) := rfl
theorem kf_Mod_perform_32 : mcGet K_Mod_perform 32 = (32, false, .if_icmp .ge 129, 3, (161, 0, [], [])) := rfl
theorem kf_Mod_perform_35 : mcGet K_Mod_perform 35 = (35, false, .bipush 20, 2, mcX0) := rfl
theorem kf_Mod_perform_37 : mcGet K_Mod_perform 37 = (37, false, .iload_n 1, 1, mcX0) := rfl
theorem kf_Mod_perform_38 : mcGet K_Mod_perform 38 = (38, false, .imul, 1, mcX0) := rfl
theorem kf_Mod_perform_39 : mcGet K_Mod_perform 39 = (39, false, .iconst 5, 1, mcX0) := rfl
theorem kf_Mod_perform_40 : mcGet K_Mod_perform 40 = (40, false, .iload 5, 2, mcX0) := rfl
theorem kf_Mod_perform_42 : mcGet K_Mod_perform 42 = (42, false, .imul, 1, mcX0) := rfl
theorem kf_Mod_perform_43 : mcGet K_Mod_perform 43 = (43, false, .iadd, 1, mcX0) := rfl
theorem kf_Mod_perform_44 : mcGet K_Mod_perform 44 = (44, false, .istore 7, 2, mcX0) := rfl
theorem kf_Mod_perform_46 : mcGet K_Mod_perform 46 = (46, false, .aload_n 0, 1, mcX0) := rfl
theorem kf_Mod_perform_47 : mcGet K_Mod_perform 47 = (47, false, .iconst 0, 1, mcX0) := rfl
theorem kf_Mod_perform_48 : mcGet K_Mod_perform 48 = (48, false, .putfield 137, 3, (10, 25, [946, 0], [])) := rfl
theorem kf_Mod_perform_51 : mcGet K_Mod_perform 51 = (51, false, .aload_n 0, 1, mcX0) := rfl
theorem kf_Mod_perform_52 : mcGet K_Mod_perform 52 = (52, false, .aload_n 0, 1, mcX0) := rfl
theorem kf_Mod_perform_53 : mcGet K_Mod_perform 53 = (53, false, .getfield 38, 3, (10, 11, [932, 1], [])) := rfl
theorem kf_Mod_perform_56 : mcGet K_Mod_perform 56 = (56, false, .iload 7, 2, mcX0) := rfl
theorem kf_Mod_perform_58 : mcGet K_Mod_perform 58 = (58, false, .iaload, 1, mcX0) := rfl
theorem kf_Mod_perform_59 : mcGet K_Mod_perform 59 = (59, false, .aload_n 0, 1, mcX0) := rfl
theorem kf_Mod_perform_60 : mcGet K_Mod_perform 60 = (60, false, .getfield 38, 3, (10, 11, [932, 1], [])) := rfl
theorem kf_Mod_perform_63 : mcGet K_Mod_perform 63 = (63, false, .iload 7, 2, mcX0) := rfl
theorem kf_Mod_perform_65 : mcGet K_Mod_perform 65 = (65, false, .iconst 1, 1, mcX0) := rfl
theorem kf_Mod_perform_66 : mcGet K_Mod_perform 66 = (66, false, .iadd, 1, mcX0) := rfl
theorem kf_Mod_perform_67 : mcGet K_Mod_perform 67 = (67, false, .iaload, 1, mcX0) := rfl
theorem kf_Mod_perform_68 : mcGet K_Mod_perform 68 = (68, false, .aload_n 0, 1, mcX0) := rfl
theorem kf_Mod_perform_69 : mcGet K_Mod_perform 69 = (69, false, .getfield 38, 3, (10, 11, [932, 1], [])) := rfl
theorem kf_Mod_perform_72 : mcGet K_Mod_perform 72 = (72, false, .iload 7, 2, mcX0) := rfl
theorem kf_Mod_perform_74 : mcGet K_Mod_perform 74 = (74, false, .iconst 2, 1, mcX0) := rfl
theorem kf_Mod_perform_75 : mcGet K_Mod_perform 75 = (75, false, .iadd, 1, mcX0) := rfl
theorem kf_Mod_perform_76 : mcGet K_Mod_perform 76 = (76, false, .iaload, 1, mcX0) := rfl
theorem kf_Mod_perform_77 : mcGet K_Mod_perform 77 = (77, false, .aload_n 0, 1, mcX0) := rfl
theorem kf_Mod_perform_78 : mcGet K_Mod_perform 78 = (78, false, .getfield 38, 3, (10, 11, [932, 1], [])) := rfl
theorem kf_Mod_perform_81 : mcGet K_Mod_perform 81 = (81, false, .iload 7, 2, mcX0) := rfl
theorem kf_Mod_perform_83 : mcGet K_Mod_perform 83 = (83, false, .iconst 3, 1, mcX0) := rfl
theorem kf_Mod_perform_84 : mcGet K_Mod_perform 84 = (84, false, .iadd, 1, mcX0) := rfl
theorem kf_Mod_perform_85 : mcGet K_Mod_perform 85 = (85, false, .iaload, 1, mcX0) := rfl
theorem kf_Mod_perform_86 : mcGet K_Mod_perform 86 = (86, false, .aload_n 0, 1, mcX0) := rfl
theorem kf_Mod_perform_87 : mcGet K_Mod_perform 87 = (87, false, .getfield 38, 3, (10, 11, [932, 1], [])) := rfl
theorem kf_Mod_perform_90 : mcGet K_Mod_perform 90 = (90, false, .iload 7, 2, mcX0) := rfl
theorem kf_Mod_perform_92 : mcGet K_Mod_perform 92 = (92, false, .iconst 4, 1, mcX0) := rfl
theorem kf_Mod_perform_93 : mcGet K_Mod_perform 93 = (93, false, .iadd, 1, mcX0) := rfl
theorem kf_Mod_perform_94 : mcGet K_Mod_perform 94 = (94, false, .iaload, 1, mcX0) := rfl
theorem kf_Mod_perform_95 : mcGet K_Mod_perform 95 = (95, false, .invokevirtual 140, 3, (10, 6, [1071, 1073, 63, 1074, 31, 7], [M_Mod_doStep])) := rfl
theorem kf_Mod_perform_98 : mcGet K_Mod_perform 98 = (98, false, .istore 8, 2, mcX0) := rfl
theorem kf_Mod_perform_100 : mcGet K_Mod_perform 100 = (100, false, .aload_n 0, 1, mcX0) := rfl
theorem kf_Mod_perform_101 : mcGet K_Mod_perform 101 = (101, false, .getfield 41, 3, (10, 12, [933, 1], [])) := rfl
theorem kf_Mod_perform_104 : mcGet K_Mod_perform 104 = (104, false, .bipush 28, 2, mcX0) := rfl
theorem kf_Mod_perform_106 : mcGet K_Mod_perform 106 = (106, false, .iconst 4, 1, mcX0) := rfl
theorem kf_Mod_perform_107 : mcGet K_Mod_perform 107 = (107, false, .iload_n 3, 1, mcX0) := rfl
theorem kf_Mod_perform_108 : mcGet K_Mod_perform 108 = (108, false, .imul, 1, mcX0) := rfl
theorem kf_Mod_perform_109 : mcGet K_Mod_perform 109 = (109, false, .iadd, 1, mcX0) := rfl
theorem kf_Mod_perform_110 : mcGet K_Mod_perform 110 = (110, false, .iload 5, 2, mcX0) := rfl
theorem kf_Mod_perform_112 : mcGet K_Mod_perform 112 = (112, false, .iadd, 1, mcX0) := rfl
theorem kf_Mod_perform_113 : mcGet K_Mod_perform 113 = (113, false, .iload 8, 2, mcX0) := rfl
theorem kf_Mod_perform_115 : mcGet K_Mod_perform 115 = (115, false, .iastore, 1, mcX0) := rfl
theorem kf_Mod_perform_116 : mcGet K_Mod_perform 116 = (116, false, .aload_n 0, 1, mcX0) := rfl
theorem kf_Mod_perform_117 : mcGet K_Mod_perform 117 = (117, false, .getfield 41, 3, (10, 12, [933, 1], [])) := rfl
theorem kf_Mod_perform_120 : mcGet K_Mod_perform 120 = (120, false, .bipush 76, 2, mcX0) := rfl
theorem kf_Mod_perform_122 : mcGet K_Mod_perform 122 = (122, false, .iconst 4, 1, mcX0) := rfl
theorem kf_Mod_perform_123 : mcGet K_Mod_perform 123 = (123, false, .iload_n 3, 1, mcX0) := rfl
theorem kf_Mod_perform_124 : mcGet K_Mod_perform 124 = (124, false, .imul, 1, mcX0) := rfl
theorem kf_Mod_perform_125 : mcGet K_Mod_perform 125 = (125, false, .iadd, 1, mcX0) := rfl
theorem kf_Mod_perform_126 : mcGet K_Mod_perform 126 = (126, false, .iload 5, 2, mcX0) := rfl
theorem kf_Mod_perform_128 : mcGet K_Mod_perform 128 = (128, false, .iadd, 1, mcX0) := rfl
theorem kf_Mod_perform_129 : mcGet K_Mod_perform 129 = (129, false, .iload 8, 2, mcX0) := rfl
theorem kf_Mod_perform_131 : mcGet K_Mod_perform 131 = (131, false, .ifCond .ne 10, 3, (141, 0, [], [])) := rfl
theorem kf_Mod_perform_134 : mcGet K_Mod_perform 134 = (134, false, .aload_n 0, 1, mcX0) := rfl
theorem kf_Mod_perform_135 : mcGet K_Mod_perform 135 = (135, false, .getfield 137, 3, (10, 25, [946, 0], [])) := rfl
theorem kf_Mod_perform_138 : mcGet K_Mod_perform 138 = (138, false, .goto 4, 3, (142, 0, [], [])) := rfl
theorem kf_Mod_perform_141 : mcGet K_Mod_perform 141 = (141, false, .iconst 0, 1, mcX0) := rfl
theorem kf_Mod_perform_142 : mcGet K_Mod_perform 142 = (142, false, .iastore, 1, mcX0) := rfl
theorem kf_Mod_perform_143 : mcGet K_Mod_perform 143 = (143, false, .iinc 5 1, 3, mcX0) := rfl
theorem kf_Mod_perform_146 : mcGet K_Mod_perform 146 = (146, false, .iload 8, 2, mcX0) := rfl
theorem kf_Mod_perform_148 : mcGet K_Mod_perform 148 = (148, false, .ifCond .ne 7, 3, (155, 0, [], [])) := rfl
theorem kf_Mod_perform_151 : mcGet K_Mod_perform 151 = (151, false, .iconst 1, 1, mcX0) := rfl
theorem kf_Mod_perform_152 : mcGet K_Mod_perform 152 = (152, false, .goto 4, 3, (156, 0, [], [])) := rfl
theorem kf_Mod_perform_155 : mcGet K_Mod_perform 155 = (155, false, .iconst 0, 1, mcX0) := rfl
theorem kf_Mod_perform_156 : mcGet K_Mod_perform 156 = (156, false, .istore 6, 2, mcX0) := rfl
theorem kf_Mod_perform_158 : mcGet K_Mod_perform 158 = (158, false, .goto (-135), 3, (23, 0, [], [])) := rfl
theorem kf_Mod_perform_161 : mcGet K_Mod_perform 161 = (161, false, .iload 5, 2, mcX0) := rfl
theorem kf_Mod_perform_163 : mcGet K_Mod_perform 163 = (163, false, .ireturn, 1, mcX0) := rfl
theorem kf_Mod_read_0 : mcGet K_Mod_read 0 = (0, false, .aload_n 0, 1, mcX0) := rfl
theorem kf_Mod_read_1 : mcGet K_Mod_read 1 = (1, false, .iload_n 1, 1, mcX0) := rfl
theorem kf_Mod_read_2 : mcGet K_Mod_read 2 = (2, false, .invokevirtual 189, 3, (10, 2, [1090, 1092, 63, 1093, 35, 2], [M_Mod_isDirectory])) := rfl
theorem kf_Mod_read_5 : mcGet K_Mod_read 5 = (5, false, .ifCond .eq 5, 3, (10, 0, [], [])) := rfl
theorem kf_Mod_read_8 : mcGet K_Mod_read 8 = (8, false, .iconst 4, 1, mcX0) := rfl
theorem kf_Mod_read_9 : mcGet K_Mod_read 9 = (9, false, .ireturn, 1, mcX0) := rfl
theorem kf_Mod_read_10 : mcGet K_Mod_read 10 = (10, false, .iload_n 2, 1, mcX0) := rfl
theorem kf_Mod_read_11 : mcGet K_Mod_read 11 = (11, false, .ifCond .ge 6, 3, (17, 0, [], [])) := rfl
theorem kf_Mod_read_14 : mcGet K_Mod_read 14 = (14, false, .bipush 6, 2, mcX0) := rfl
theorem kf_Mod_read_16 : mcGet K_Mod_read 16 = (16, false, .ireturn, 1, mcX0) := rfl
theorem kf_Mod_read_17 : mcGet K_Mod_read 17 = (17, false, .aload_n 0, 1, mcX0) := rfl
theorem kf_Mod_read_18 : mcGet K_Mod_read 18 = (18, false, .iload_n 1, 1, mcX0) := rfl
theorem kf_Mod_read_19 : mcGet K_Mod_read 19 = (19, false, .iload_n 2, 1, mcX0) := rfl
theorem kf_Mod_read_20 : mcGet K_Mod_read 20 = (20, false, .iconst 2, 1, mcX0) := rfl
theorem kf_Mod_read_21 : mcGet K_Mod_read 21 = (21, false, .invokevirtual 199, 3, (10, 4, [1118, 1120, 63, 1121, 42, 6], [M_Mod_hasOther])) := rfl
theorem kf_Mod_read_24 : mcGet K_Mod_read 24 = (24, false, .ifCond .eq 6, 3, (30, 0, [], [])) := rfl
theorem kf_Mod_read_27 : mcGet K_Mod_read 27 = (27, false, .bipush 9, 2, mcX0) := rfl
theorem kf_Mod_read_29 : mcGet K_Mod_read 29 = (29, false, .ireturn, 1, mcX0) := rfl
theorem kf_Mod_read_30 : mcGet K_Mod_read 30 = (30, false, .aload_n 0, 1, mcX0) := rfl
theorem kf_Mod_read_31 : mcGet K_Mod_read 31 = (31, false, .iload_n 2, 1, mcX0) := rfl
theorem kf_Mod_read_32 : mcGet K_Mod_read 32 = (32, false, .aload_n 0, 1, mcX0) := rfl
theorem kf_Mod_read_33 : mcGet K_Mod_read 33 = (33, false, .getfield 41, 3, (10, 12, [933, 1], [])) := rfl
theorem kf_Mod_read_36 : mcGet K_Mod_read 36 = (36, false, .sipush 316, 3, mcX0) := rfl
theorem kf_Mod_read_39 : mcGet K_Mod_read 39 = (39, false, .iload_n 1, 1, mcX0) := rfl
theorem kf_Mod_read_40 : mcGet K_Mod_read 40 = (40, false, .iadd, 1, mcX0) := rfl
theorem kf_Mod_read_41 : mcGet K_Mod_read 41 = (41, false, .iaload, 1, mcX0) := rfl
theorem kf_Mod_read_42 : mcGet K_Mod_read 42 = (42, false, .if_icmp .ge 21, 3, (63, 0, [], [])) := rfl
theorem kf_Mod_read_45 : mcGet K_Mod_read 45 = (45, false, .aload_n 0, 1, mcX0) := rfl
theorem kf_Mod_read_46 : mcGet K_Mod_read 46 = (46, false, .getfield 41, 3, (10, 12, [933, 1], [])) := rfl
theorem kf_Mod_read_49 : mcGet K_Mod_read 49 = (49, false, .sipush 348, 3, mcX0) := rfl
theorem kf_Mod_read_52 : mcGet K_Mod_read 52 = (52, false, .bipush 64, 2, mcX0) := rfl
theorem kf_Mod_read_54 : mcGet K_Mod_read 54 = (54, false, .iload_n 1, 1, mcX0) := rfl
theorem kf_Mod_read_55 : mcGet K_Mod_read 55 = (55, false, .imul, 1, mcX0) := rfl
theorem kf_Mod_read_56 : mcGet K_Mod_read 56 = (56, false, .iadd, 1, mcX0) := rfl
theorem kf_Mod_read_57 : mcGet K_Mod_read 57 = (57, false, .iload_n 2, 1, mcX0) := rfl
theorem kf_Mod_read_58 : mcGet K_Mod_read 58 = (58, false, .iadd, 1, mcX0) := rfl
theorem kf_Mod_read_59 : mcGet K_Mod_read 59 = (59, false, .iaload, 1, mcX0) := rfl
theorem kf_Mod_read_60 : mcGet K_Mod_read 60 = (60, false, .goto 4, 3, (64, 0, [], [])) := rfl
theorem kf_Mod_read_63 : mcGet K_Mod_read 63 = (63, false, .iconst (-1), 1, mcX0) := rfl
theorem kf_Mod_read_64 : mcGet K_Mod_read 64 = (64, false, .putfield 137, 3, (10, 25, [946, 0], [])) := rfl
theorem kf_Mod_read_67 : mcGet K_Mod_read 67 = (67, false, .iconst 0, 1, mcX0) := rfl
theorem kf_Mod_read_68 : mcGet K_Mod_read 68 = (68, false, .ireturn, 1, mcX0) := rfl
theorem kf_Mod_refused_0 : mcGet K_Mod_refused 0 = (0, false, .aload_n 0, 1, mcX0) := rfl
theorem kf_Mod_refused_1 : mcGet K_Mod_refused 1 = (1, false, .iload_n 1, 1, mcX0) := rfl
theorem kf_Mod_refused_2 : mcGet K_Mod_refused 2 = (2, false, .ifCond .eq 7, 3, (9, 0, [], [])) := rfl
theorem kf_Mod_refused_5 : mcGet K_Mod_refused 5 = (5, false, .iconst 1, 1, mcX0) := rfl
theorem kf_Mod_refused_6 : mcGet K_Mod_refused 6 = (6, false, .goto 12, 3, (18, 0, [], [])) := rfl
theorem kf_Mod_refused_9 : mcGet K_Mod_refused 9 = (9, false, .iload_n 2, 1, mcX0) := rfl
theorem kf_Mod_refused_10 : mcGet K_Mod_refused 10 = (10, false, .ifCond .eq 7, 3, (17, 0, [], [])) := rfl
theorem kf_Mod_refused_13 : mcGet K_Mod_refused 13 = (13, false, .iconst 2, 1, mcX0) := rfl
theorem kf_Mod_refused_14 : mcGet K_Mod_refused 14 = (14, false, .goto 4, 3, (18, 0, [], [])) := rfl
theorem kf_Mod_refused_17 : mcGet K_Mod_refused 17 = (17, false, .iconst 0, 1, mcX0) := rfl
theorem kf_Mod_refused_18 : mcGet K_Mod_refused 18 = (18, false, .putfield 71, 3, (10, 0, [921, 0], [])) := rfl
theorem kf_Mod_refused_21 : mcGet K_Mod_refused 21 = (21, false, .aload_n 0, 1, mcX0) := rfl
theorem kf_Mod_refused_22 : mcGet K_Mod_refused 22 = (22, false, .getfield 71, 3, (10, 0, [921, 0], [])) := rfl
theorem kf_Mod_refused_25 : mcGet K_Mod_refused 25 = (25, false, .ifCond .le 7, 3, (32, 0, [], [])) := rfl
theorem kf_Mod_refused_28 : mcGet K_Mod_refused 28 = (28, false, .iconst 1, 1, mcX0) := rfl
theorem kf_Mod_refused_29 : mcGet K_Mod_refused 29 = (29, false, .goto 4, 3, (33, 0, [], [])) := rfl
theorem kf_Mod_refused_32 : mcGet K_Mod_refused 32 = (32, false, .iconst 0, 1, mcX0) := rfl
theorem kf_Mod_refused_33 : mcGet K_Mod_refused 33 = (33, false, .ireturn, 1, (1, 0, [], [])) := rfl
theorem kf_Mod_remove_0 : mcGet K_Mod_remove 0 = (0, false, .aload_n 0, 1, mcX0) := rfl
theorem kf_Mod_remove_1 : mcGet K_Mod_remove 1 = (1, false, .iload_n 1, 1, mcX0) := rfl
theorem kf_Mod_remove_2 : mcGet K_Mod_remove 2 = (2, false, .invokevirtual 189, 3, (10, 2, [1090, 1092, 63, 1093, 35, 2], [M_Mod_isDirectory])) := rfl
theorem kf_Mod_remove_5 : mcGet K_Mod_remove 5 = (5, false, .ifCond .ne 5, 3, (10, 0, [], [])) := rfl
theorem kf_Mod_remove_8 : mcGet K_Mod_remove 8 = (8, false, .iconst 4, 1, mcX0) := rfl
theorem kf_Mod_remove_9 : mcGet K_Mod_remove 9 = (9, false, .ireturn, 1, mcX0) := rfl
theorem kf_Mod_remove_10 : mcGet K_Mod_remove 10 = (10, false, .aload_n 0, 1, mcX0) := rfl
theorem kf_Mod_remove_11 : mcGet K_Mod_remove 11 = (11, false, .iload_n 1, 1, mcX0) := rfl
theorem kf_Mod_remove_12 : mcGet K_Mod_remove 12 = (12, false, .iload_n 2, 1, mcX0) := rfl
theorem kf_Mod_remove_13 : mcGet K_Mod_remove 13 = (13, false, .invokevirtual 192, 3, (10, 3, [1094, 1096, 63, 1097, 36, 4], [M_Mod_find])) := rfl
theorem kf_Mod_remove_16 : mcGet K_Mod_remove 16 = (16, false, .istore_n 3, 1, mcX0) := rfl
theorem kf_Mod_remove_17 : mcGet K_Mod_remove 17 = (17, false, .iload_n 3, 1, mcX0) := rfl
theorem kf_Mod_remove_18 : mcGet K_Mod_remove 18 = (18, false, .ifCond .ge 5, 3, (23, 0, [], [])) := rfl
theorem kf_Mod_remove_21 : mcGet K_Mod_remove 21 = (21, false, .iconst 2, 1, mcX0) := rfl
theorem kf_Mod_remove_22 : mcGet K_Mod_remove 22 = (22, false, .ireturn, 1, mcX0) := rfl
theorem kf_Mod_remove_23 : mcGet K_Mod_remove 23 = (23, false, .iconst 1, 1, mcX0) := rfl
theorem kf_Mod_remove_24 : mcGet K_Mod_remove 24 = (24, false, .istore 4, 2, mcX0) := rfl
theorem kf_Mod_remove_26 : mcGet K_Mod_remove 26 = (26, true, .iload 4, 2, mcX0) := rfl
theorem kf_Mod_remove_28 : mcGet K_Mod_remove 28 = (28, false, .bipush 32, 2, mcX0) := rfl
theorem kf_Mod_remove_30 : mcGet K_Mod_remove 30 = (30, false, .if_icmp .ge 41, 3, (71, 0, [], [])) := rfl
theorem kf_Mod_remove_33 : mcGet K_Mod_remove 33 = (33, false, .aload_n 0, 1, mcX0) := rfl
theorem kf_Mod_remove_34 : mcGet K_Mod_remove 34 = (34, false, .getfield 41, 3, (10, 12, [933, 1], [])) := rfl
theorem kf_Mod_remove_37 : mcGet K_Mod_remove 37 = (37, false, .sipush 220, 3, mcX0) := rfl
theorem kf_Mod_remove_40 : mcGet K_Mod_remove 40 = (40, false, .iload 4, 2, mcX0) := rfl
theorem kf_Mod_remove_42 : mcGet K_Mod_remove 42 = (42, false, .iadd, 1, mcX0) := rfl
theorem kf_Mod_remove_43 : mcGet K_Mod_remove 43 = (43, false, .iaload, 1, mcX0) := rfl
theorem kf_Mod_remove_44 : mcGet K_Mod_remove 44 = (44, false, .ifCond .lt 21, 3, (65, 0, [], [])) := rfl
theorem kf_Mod_remove_47 : mcGet K_Mod_remove 47 = (47, false, .aload_n 0, 1, mcX0) := rfl
theorem kf_Mod_remove_48 : mcGet K_Mod_remove 48 = (48, false, .getfield 41, 3, (10, 12, [933, 1], [])) := rfl
theorem kf_Mod_remove_51 : mcGet K_Mod_remove 51 = (51, false, .sipush 252, 3, mcX0) := rfl
theorem kf_Mod_remove_54 : mcGet K_Mod_remove 54 = (54, false, .iload 4, 2, mcX0) := rfl
theorem kf_Mod_remove_56 : mcGet K_Mod_remove 56 = (56, false, .iadd, 1, mcX0) := rfl
theorem kf_Mod_remove_57 : mcGet K_Mod_remove 57 = (57, false, .iaload, 1, mcX0) := rfl
theorem kf_Mod_remove_58 : mcGet K_Mod_remove 58 = (58, false, .iload_n 3, 1, mcX0) := rfl
theorem kf_Mod_remove_59 : mcGet K_Mod_remove 59 = (59, false, .if_icmp .ne 6, 3, (65, 0, [], [])) := rfl
theorem kf_Mod_remove_62 : mcGet K_Mod_remove 62 = (62, false, .bipush 7, 2, mcX0) := rfl
theorem kf_Mod_remove_64 : mcGet K_Mod_remove 64 = (64, false, .ireturn, 1, mcX0) := rfl
theorem kf_Mod_remove_65 : mcGet K_Mod_remove 65 = (65, false, .iinc 4 1, 3, mcX0) := rfl
theorem kf_Mod_remove_68 : mcGet K_Mod_remove 68 = (68, false, .goto (-42), 3, (26, 0, [], [])) := rfl
theorem kf_Mod_remove_71 : mcGet K_Mod_remove 71 = (71, false, .aload_n 0, 1, mcX0) := rfl
theorem kf_Mod_remove_72 : mcGet K_Mod_remove 72 = (72, false, .getfield 41, 3, (10, 12, [933, 1], [])) := rfl
theorem kf_Mod_remove_75 : mcGet K_Mod_remove 75 = (75, false, .sipush 220, 3, mcX0) := rfl
theorem kf_Mod_remove_78 : mcGet K_Mod_remove 78 = (78, false, .iload_n 3, 1, mcX0) := rfl
theorem kf_Mod_remove_79 : mcGet K_Mod_remove 79 = (79, false, .iadd, 1, mcX0) := rfl
theorem kf_Mod_remove_80 : mcGet K_Mod_remove 80 = (80, false, .iconst (-1), 1, mcX0) := rfl
theorem kf_Mod_remove_81 : mcGet K_Mod_remove 81 = (81, false, .iastore, 1, mcX0) := rfl
theorem kf_Mod_remove_82 : mcGet K_Mod_remove 82 = (82, false, .aload_n 0, 1, mcX0) := rfl
theorem kf_Mod_remove_83 : mcGet K_Mod_remove 83 = (83, false, .iload_n 3, 1, mcX0) := rfl
theorem kf_Mod_remove_84 : mcGet K_Mod_remove 84 = (84, false, .invokevirtual 195, 3, (10, 2, [1106, 1108, 63, 1109, 39, 4], [M_Mod_free])) := rfl
theorem kf_Mod_remove_87 : mcGet K_Mod_remove 87 = (87, false, .aload_n 0, 1, mcX0) := rfl
theorem kf_Mod_remove_88 : mcGet K_Mod_remove 88 = (88, false, .iload_n 3, 1, mcX0) := rfl
theorem kf_Mod_remove_89 : mcGet K_Mod_remove 89 = (89, false, .putfield 137, 3, (10, 25, [946, 0], [])) := rfl
theorem kf_Mod_remove_92 : mcGet K_Mod_remove 92 = (92, false, .iconst 0, 1, mcX0) := rfl
theorem kf_Mod_remove_93 : mcGet K_Mod_remove 93 = (93, false, .ireturn, 1, mcX0) := rfl
theorem kf_Mod_resize_0 : mcGet K_Mod_resize 0 = (0, false, .aload_n 0, 1, mcX0) := rfl
theorem kf_Mod_resize_1 : mcGet K_Mod_resize 1 = (1, false, .iload_n 1, 1, mcX0) := rfl
theorem kf_Mod_resize_2 : mcGet K_Mod_resize 2 = (2, false, .invokevirtual 189, 3, (10, 2, [1090, 1092, 63, 1093, 35, 2], [M_Mod_isDirectory])) := rfl
theorem kf_Mod_resize_5 : mcGet K_Mod_resize 5 = (5, false, .ifCond .eq 5, 3, (10, 0, [], [])) := rfl
theorem kf_Mod_resize_8 : mcGet K_Mod_resize 8 = (8, false, .iconst 4, 1, mcX0) := rfl
theorem kf_Mod_resize_9 : mcGet K_Mod_resize 9 = (9, false, .ireturn, 1, mcX0) := rfl
theorem kf_Mod_resize_10 : mcGet K_Mod_resize 10 = (10, false, .iload_n 2, 1, mcX0) := rfl
theorem kf_Mod_resize_11 : mcGet K_Mod_resize 11 = (11, false, .ifCond .lt 9, 3, (20, 0, [], [])) := rfl
theorem kf_Mod_resize_14 : mcGet K_Mod_resize 14 = (14, false, .iload_n 2, 1, mcX0) := rfl
theorem kf_Mod_resize_15 : mcGet K_Mod_resize 15 = (15, false, .bipush 64, 2, mcX0) := rfl
theorem kf_Mod_resize_17 : mcGet K_Mod_resize 17 = (17, false, .if_icmp .le 6, 3, (23, 0, [], [])) := rfl
theorem kf_Mod_resize_20 : mcGet K_Mod_resize 20 = (20, false, .bipush 6, 2, mcX0) := rfl
theorem kf_Mod_resize_22 : mcGet K_Mod_resize 22 = (22, false, .ireturn, 1, mcX0) := rfl
theorem kf_Mod_resize_23 : mcGet K_Mod_resize 23 = (23, false, .aload_n 0, 1, mcX0) := rfl
theorem kf_Mod_resize_24 : mcGet K_Mod_resize 24 = (24, false, .getfield 41, 3, (10, 12, [933, 1], [])) := rfl
theorem kf_Mod_resize_27 : mcGet K_Mod_resize 27 = (27, false, .sipush 316, 3, mcX0) := rfl
theorem kf_Mod_resize_30 : mcGet K_Mod_resize 30 = (30, false, .iload_n 1, 1, mcX0) := rfl
theorem kf_Mod_resize_31 : mcGet K_Mod_resize 31 = (31, false, .iadd, 1, mcX0) := rfl
theorem kf_Mod_resize_32 : mcGet K_Mod_resize 32 = (32, false, .iaload, 1, mcX0) := rfl
theorem kf_Mod_resize_33 : mcGet K_Mod_resize 33 = (33, false, .istore_n 3, 1, mcX0) := rfl
theorem kf_Mod_resize_34 : mcGet K_Mod_resize 34 = (34, false, .iload_n 2, 1, mcX0) := rfl
theorem kf_Mod_resize_35 : mcGet K_Mod_resize 35 = (35, false, .iload_n 3, 1, mcX0) := rfl
theorem kf_Mod_resize_36 : mcGet K_Mod_resize 36 = (36, false, .if_icmp .ge 7, 3, (43, 0, [], [])) := rfl
theorem kf_Mod_resize_39 : mcGet K_Mod_resize 39 = (39, false, .iload_n 2, 1, mcX0) := rfl
theorem kf_Mod_resize_40 : mcGet K_Mod_resize 40 = (40, false, .goto 4, 3, (44, 0, [], [])) := rfl
theorem kf_Mod_resize_43 : mcGet K_Mod_resize 43 = (43, false, .iload_n 3, 1, mcX0) := rfl
theorem kf_Mod_resize_44 : mcGet K_Mod_resize 44 = (44, false, .istore 4, 2, mcX0) := rfl
theorem kf_Mod_resize_46 : mcGet K_Mod_resize 46 = (46, false, .iload_n 2, 1, mcX0) := rfl
theorem kf_Mod_resize_47 : mcGet K_Mod_resize 47 = (47, false, .iload_n 3, 1, mcX0) := rfl
theorem kf_Mod_resize_48 : mcGet K_Mod_resize 48 = (48, false, .if_icmp .ge 7, 3, (55, 0, [], [])) := rfl
theorem kf_Mod_resize_51 : mcGet K_Mod_resize 51 = (51, false, .iload_n 3, 1, mcX0) := rfl
theorem kf_Mod_resize_52 : mcGet K_Mod_resize 52 = (52, false, .goto 4, 3, (56, 0, [], [])) := rfl
theorem kf_Mod_resize_55 : mcGet K_Mod_resize 55 = (55, false, .iload_n 2, 1, mcX0) := rfl
theorem kf_Mod_resize_56 : mcGet K_Mod_resize 56 = (56, false, .istore 5, 2, mcX0) := rfl
theorem kf_Mod_resize_58 : mcGet K_Mod_resize 58 = (58, false, .iload 4, 2, mcX0) := rfl
theorem kf_Mod_resize_60 : mcGet K_Mod_resize 60 = (60, false, .istore 6, 2, mcX0) := rfl
theorem kf_Mod_resize_62 : mcGet K_Mod_resize 62 = (62, true, .iload 6, 2, mcX0) := rfl
theorem kf_Mod_resize_64 : mcGet K_Mod_resize 64 = (64, false, .iload 5, 2, mcX0) := rfl
theorem kf_Mod_resize_66 : mcGet K_Mod_resize 66 = (66, false, .if_icmp .ge 23, 3, (89, 0, [], [])) := rfl
theorem kf_Mod_resize_69 : mcGet K_Mod_resize 69 = (69, false, .aload_n 0, 1, mcX0) := rfl
theorem kf_Mod_resize_70 : mcGet K_Mod_resize 70 = (70, false, .iload_n 1, 1, mcX0) := rfl
theorem kf_Mod_resize_71 : mcGet K_Mod_resize 71 = (71, false, .iload 6, 2, mcX0) := rfl
theorem kf_Mod_resize_73 : mcGet K_Mod_resize 73 = (73, false, .iconst 1, 1, mcX0) := rfl
theorem kf_Mod_resize_74 : mcGet K_Mod_resize 74 = (74, false, .invokevirtual 199, 3, (10, 4, [1118, 1120, 63, 1121, 42, 6], [M_Mod_hasOther])) := rfl
theorem kf_Mod_resize_77 : mcGet K_Mod_resize 77 = (77, false, .ifCond .eq 6, 3, (83, 0, [], [])) := rfl
theorem kf_Mod_resize_80 : mcGet K_Mod_resize 80 = (80, false, .bipush 9, 2, mcX0) := rfl
theorem kf_Mod_resize_82 : mcGet K_Mod_resize 82 = (82, false, .ireturn, 1, mcX0) := rfl
theorem kf_Mod_resize_83 : mcGet K_Mod_resize 83 = (83, false, .iinc 6 1, 3, mcX0) := rfl
theorem kf_Mod_resize_86 : mcGet K_Mod_resize 86 = (86, false, .goto (-24), 3, (62, 0, [], [])) := rfl
theorem kf_Mod_resize_89 : mcGet K_Mod_resize 89 = (89, false, .iload 4, 2, mcX0) := rfl
theorem kf_Mod_resize_91 : mcGet K_Mod_resize 91 = (91, false, .istore 6, 2, mcX0) := rfl
theorem kf_Mod_resize_93 : mcGet K_Mod_resize 93 = (93, true, .iload 6, 2, mcX0) := rfl
theorem kf_Mod_resize_95 : mcGet K_Mod_resize 95 = (95, false, .iload 5, 2, mcX0) := rfl
theorem kf_Mod_resize_97 : mcGet K_Mod_resize 97 = (97, false, .if_icmp .ge 26, 3, (123, 0, [], [])) := rfl
theorem kf_Mod_resize_100 : mcGet K_Mod_resize 100 = (100, false, .aload_n 0, 1, mcX0) := rfl
theorem kf_Mod_resize_101 : mcGet K_Mod_resize 101 = (101, false, .getfield 41, 3, (10, 12, [933, 1], [])) := rfl
theorem kf_Mod_resize_104 : mcGet K_Mod_resize 104 = (104, false, .sipush 348, 3, mcX0) := rfl
theorem kf_Mod_resize_107 : mcGet K_Mod_resize 107 = (107, false, .bipush 64, 2, mcX0) := rfl
theorem kf_Mod_resize_109 : mcGet K_Mod_resize 109 = (109, false, .iload_n 1, 1, mcX0) := rfl
theorem kf_Mod_resize_110 : mcGet K_Mod_resize 110 = (110, false, .imul, 1, mcX0) := rfl
theorem kf_Mod_resize_111 : mcGet K_Mod_resize 111 = (111, false, .iadd, 1, mcX0) := rfl
theorem kf_Mod_resize_112 : mcGet K_Mod_resize 112 = (112, false, .iload 6, 2, mcX0) := rfl
theorem kf_Mod_resize_114 : mcGet K_Mod_resize 114 = (114, false, .iadd, 1, mcX0) := rfl
theorem kf_Mod_resize_115 : mcGet K_Mod_resize 115 = (115, false, .iconst 0, 1, mcX0) := rfl
theorem kf_Mod_resize_116 : mcGet K_Mod_resize 116 = (116, false, .iastore, 1, mcX0) := rfl
theorem kf_Mod_resize_117 : mcGet K_Mod_resize 117 = (117, false, .iinc 6 1, 3, mcX0) := rfl
theorem kf_Mod_resize_120 : mcGet K_Mod_resize 120 = (120, false, .goto (-27), 3, (93, 0, [], [])) := rfl
theorem kf_Mod_resize_123 : mcGet K_Mod_resize 123 = (123, false, .aload_n 0, 1, mcX0) := rfl
theorem kf_Mod_resize_124 : mcGet K_Mod_resize 124 = (124, false, .getfield 41, 3, (10, 12, [933, 1], [])) := rfl
theorem kf_Mod_resize_127 : mcGet K_Mod_resize 127 = (127, false, .sipush 316, 3, mcX0) := rfl
theorem kf_Mod_resize_130 : mcGet K_Mod_resize 130 = (130, false, .iload_n 1, 1, mcX0) := rfl
theorem kf_Mod_resize_131 : mcGet K_Mod_resize 131 = (131, false, .iadd, 1, mcX0) := rfl
theorem kf_Mod_resize_132 : mcGet K_Mod_resize 132 = (132, false, .iload_n 2, 1, mcX0) := rfl
theorem kf_Mod_resize_133 : mcGet K_Mod_resize 133 = (133, false, .iastore, 1, mcX0) := rfl
theorem kf_Mod_resize_134 : mcGet K_Mod_resize 134 = (134, false, .aload_n 0, 1, mcX0) := rfl
theorem kf_Mod_resize_135 : mcGet K_Mod_resize 135 = (135, false, .iload_n 3, 1, mcX0) := rfl
theorem kf_Mod_resize_136 : mcGet K_Mod_resize 136 = (136, false, .putfield 137, 3, (10, 25, [946, 0], [])) := rfl
theorem kf_Mod_resize_139 : mcGet K_Mod_resize 139 = (139, false, .iconst 0, 1, mcX0) := rfl
theorem kf_Mod_resize_140 : mcGet K_Mod_resize 140 = (140, false, .ireturn, 1, mcX0) := rfl
theorem kf_Mod_runs_0 : mcGet K_Mod_runs 0 = (0, false, .aload_n 0, 1, mcX0) := rfl
theorem kf_Mod_runs_1 : mcGet K_Mod_runs 1 = (1, false, .iconst 0, 1, mcX0) := rfl
theorem kf_Mod_runs_2 : mcGet K_Mod_runs 2 = (2, false, .putfield 71, 3, (10, 0, [921, 0], [])) := rfl
theorem kf_Mod_runs_5 : mcGet K_Mod_runs 5 = (5, false, .aload_n 0, 1, mcX0) := rfl
theorem kf_Mod_runs_6 : mcGet K_Mod_runs 6 = (6, false, .getfield 60, 3, (10, 19, [940, 2], [])) := rfl
theorem kf_Mod_runs_9 : mcGet K_Mod_runs 9 = (9, false, .ireturn, 1, (1, 0, [], [])) := rfl
theorem kf_Mod_save_0 : mcGet K_Mod_save 0 = (0, false, .iconst 0, 1, mcX0) := rfl
theorem kf_Mod_save_1 : mcGet K_Mod_save 1 = (1, false, .istore 7, 2, mcX0) := rfl
theorem kf_Mod_save_3 : mcGet K_Mod_save 3 = (3, true, .iload 7, 2, mcX0) := rfl
theorem kf_Mod_save_5 : mcGet K_Mod_save 5 = (5, false, .sipush 2396, 3, mcX0) := rfl
theorem kf_Mod_save_8 : mcGet K_Mod_save 8 = (8, false, .if_icmp .ge 17, 3, (25, 0, [], [])) := rfl
theorem kf_Mod_save_11 : mcGet K_Mod_save 11 = (11, false, .aload_n 2, 1, mcX0) := rfl
theorem kf_Mod_save_12 : mcGet K_Mod_save 12 = (12, false, .iload 7, 2, mcX0) := rfl
theorem kf_Mod_save_14 : mcGet K_Mod_save 14 = (14, false, .aload_n 1, 1, mcX0) := rfl
theorem kf_Mod_save_15 : mcGet K_Mod_save 15 = (15, false, .iload 7, 2, mcX0) := rfl
theorem kf_Mod_save_17 : mcGet K_Mod_save 17 = (17, false, .iaload, 1, mcX0) := rfl
theorem kf_Mod_save_18 : mcGet K_Mod_save 18 = (18, false, .iastore, 1, mcX0) := rfl
theorem kf_Mod_save_19 : mcGet K_Mod_save 19 = (19, false, .iinc 7 1, 3, mcX0) := rfl
theorem kf_Mod_save_22 : mcGet K_Mod_save 22 = (22, false, .goto (-19), 3, (3, 0, [], [])) := rfl
theorem kf_Mod_save_25 : mcGet K_Mod_save 25 = (25, false, .iconst 0, 1, mcX0) := rfl
theorem kf_Mod_save_26 : mcGet K_Mod_save 26 = (26, false, .istore 7, 2, mcX0) := rfl
theorem kf_Mod_save_28 : mcGet K_Mod_save 28 = (28, true, .iload 7, 2, mcX0) := rfl
theorem kf_Mod_save_30 : mcGet K_Mod_save 30 = (30, false, .sipush 8192, 3, mcX0) := rfl
theorem kf_Mod_save_33 : mcGet K_Mod_save 33 = (33, false, .if_icmp .ge 18, 3, (51, 0, [], [])) := rfl
theorem kf_Mod_save_36 : mcGet K_Mod_save 36 = (36, false, .aload 4, 2, mcX0) := rfl
theorem kf_Mod_save_38 : mcGet K_Mod_save 38 = (38, false, .iload 7, 2, mcX0) := rfl
theorem kf_Mod_save_40 : mcGet K_Mod_save 40 = (40, false, .aload_n 3, 1, mcX0) := rfl
theorem kf_Mod_save_41 : mcGet K_Mod_save 41 = (41, false, .iload 7, 2, mcX0) := rfl
theorem kf_Mod_save_43 : mcGet K_Mod_save 43 = (43, false, .baload, 1, mcX0) := rfl
theorem kf_Mod_save_44 : mcGet K_Mod_save 44 = (44, false, .bastore, 1, mcX0) := rfl
theorem kf_Mod_save_45 : mcGet K_Mod_save 45 = (45, false, .iinc 7 1, 3, mcX0) := rfl
theorem kf_Mod_save_48 : mcGet K_Mod_save 48 = (48, false, .goto (-20), 3, (28, 0, [], [])) := rfl
theorem kf_Mod_save_51 : mcGet K_Mod_save 51 = (51, false, .iconst 0, 1, mcX0) := rfl
theorem kf_Mod_save_52 : mcGet K_Mod_save 52 = (52, false, .istore 7, 2, mcX0) := rfl
theorem kf_Mod_save_54 : mcGet K_Mod_save 54 = (54, true, .iload 7, 2, mcX0) := rfl
theorem kf_Mod_save_56 : mcGet K_Mod_save 56 = (56, false, .iconst 4, 1, mcX0) := rfl
theorem kf_Mod_save_57 : mcGet K_Mod_save 57 = (57, false, .if_icmp .ge 19, 3, (76, 0, [], [])) := rfl
theorem kf_Mod_save_60 : mcGet K_Mod_save 60 = (60, false, .aload 6, 2, mcX0) := rfl
theorem kf_Mod_save_62 : mcGet K_Mod_save 62 = (62, false, .iload 7, 2, mcX0) := rfl
theorem kf_Mod_save_64 : mcGet K_Mod_save 64 = (64, false, .aload 5, 2, mcX0) := rfl
theorem kf_Mod_save_66 : mcGet K_Mod_save 66 = (66, false, .iload 7, 2, mcX0) := rfl
theorem kf_Mod_save_68 : mcGet K_Mod_save 68 = (68, false, .iaload, 1, mcX0) := rfl
theorem kf_Mod_save_69 : mcGet K_Mod_save 69 = (69, false, .iastore, 1, mcX0) := rfl
theorem kf_Mod_save_70 : mcGet K_Mod_save 70 = (70, false, .iinc 7 1, 3, mcX0) := rfl
theorem kf_Mod_save_73 : mcGet K_Mod_save 73 = (73, false, .goto (-19), 3, (54, 0, [], [])) := rfl
theorem kf_Mod_save_76 : mcGet K_Mod_save 76 = (76, false, .return_, 1, mcX0) := rfl
theorem kf_Mod_send_0 : mcGet K_Mod_send 0 = (0, false, .iload_n 1, 1, mcX0) := rfl
theorem kf_Mod_send_1 : mcGet K_Mod_send 1 = (1, false, .iload_n 2, 1, mcX0) := rfl
theorem kf_Mod_send_2 : mcGet K_Mod_send 2 = (2, false, .invokestatic 82, 3, (0, 2, [1021, 1022, 63, 1023, 0, 2], [M_Mod_isSlot])) := rfl
theorem kf_Mod_send_5 : mcGet K_Mod_send 5 = (5, false, .istore_n 3, 1, mcX0) := rfl
theorem kf_Mod_send_6 : mcGet K_Mod_send 6 = (6, false, .iconst 3, 1, mcX0) := rfl
theorem kf_Mod_send_7 : mcGet K_Mod_send 7 = (7, false, .iload_n 1, 1, mcX0) := rfl
theorem kf_Mod_send_8 : mcGet K_Mod_send 8 = (8, false, .imul, 1, mcX0) := rfl
theorem kf_Mod_send_9 : mcGet K_Mod_send 9 = (9, false, .iload_n 2, 1, mcX0) := rfl
theorem kf_Mod_send_10 : mcGet K_Mod_send 10 = (10, false, .iadd, 1, mcX0) := rfl
theorem kf_Mod_send_11 : mcGet K_Mod_send 11 = (11, false, .istore 4, 2, mcX0) := rfl
theorem kf_Mod_send_13 : mcGet K_Mod_send 13 = (13, false, .aload_n 0, 1, mcX0) := rfl
theorem kf_Mod_send_14 : mcGet K_Mod_send 14 = (14, false, .iload_n 3, 1, mcX0) := rfl
theorem kf_Mod_send_15 : mcGet K_Mod_send 15 = (15, false, .ifCond .ne 7, 3, (22, 0, [], [])) := rfl
theorem kf_Mod_send_18 : mcGet K_Mod_send 18 = (18, false, .iconst 1, 1, mcX0) := rfl
theorem kf_Mod_send_19 : mcGet K_Mod_send 19 = (19, false, .goto 4, 3, (23, 0, [], [])) := rfl
theorem kf_Mod_send_22 : mcGet K_Mod_send 22 = (22, false, .iconst 0, 1, mcX0) := rfl
theorem kf_Mod_send_23 : mcGet K_Mod_send 23 = (23, false, .iload_n 3, 1, mcX0) := rfl
theorem kf_Mod_send_24 : mcGet K_Mod_send 24 = (24, false, .ifCond .eq 27, 3, (51, 0, [], [])) := rfl
theorem kf_Mod_send_27 : mcGet K_Mod_send 27 = (27, false, .aload_n 0, 1, mcX0) := rfl
theorem kf_Mod_send_28 : mcGet K_Mod_send 28 = (28, false, .getfield 13, 3, (10, 2, [923, 1], [])) := rfl
theorem kf_Mod_send_31 : mcGet K_Mod_send 31 = (31, false, .iload 4, 2, mcX0) := rfl
theorem kf_Mod_send_33 : mcGet K_Mod_send 33 = (33, false, .iaload, 1, mcX0) := rfl
theorem kf_Mod_send_34 : mcGet K_Mod_send 34 = (34, false, .ifCond .eq 13, 3, (47, 0, [], [])) := rfl
theorem kf_Mod_send_37 : mcGet K_Mod_send 37 = (37, false, .aload_n 0, 1, mcX0) := rfl
theorem kf_Mod_send_38 : mcGet K_Mod_send 38 = (38, false, .getfield 86, 3, (10, 9, [930, 0], [])) := rfl
theorem kf_Mod_send_41 : mcGet K_Mod_send 41 = (41, false, .sipush 300, 3, mcX0) := rfl
theorem kf_Mod_send_44 : mcGet K_Mod_send 44 = (44, false, .if_icmp .ne 7, 3, (51, 0, [], [])) := rfl
theorem kf_Mod_send_47 : mcGet K_Mod_send 47 = (47, false, .iconst 1, 1, mcX0) := rfl
theorem kf_Mod_send_48 : mcGet K_Mod_send 48 = (48, false, .goto 4, 3, (52, 0, [], [])) := rfl
theorem kf_Mod_send_51 : mcGet K_Mod_send 51 = (51, false, .iconst 0, 1, mcX0) := rfl
theorem kf_Mod_send_52 : mcGet K_Mod_send 52 = (52, false, .invokevirtual 78, 3, (10, 3, [1013, 1015, 63, 1016, 23, 3], [M_Mod_refused])) := rfl
theorem kf_Mod_send_55 : mcGet K_Mod_send 55 = (55, false, .ifCond .eq 5, 3, (60, 0, [], [])) := rfl
theorem kf_Mod_send_58 : mcGet K_Mod_send 58 = (58, false, .iconst 0, 1, mcX0) := rfl
theorem kf_Mod_send_59 : mcGet K_Mod_send 59 = (59, false, .ireturn, 1, mcX0) := rfl
theorem kf_Mod_send_60 : mcGet K_Mod_send 60 = (60, false, .aload_n 0, 1, mcX0) := rfl
theorem kf_Mod_send_61 : mcGet K_Mod_send 61 = (61, false, .getfield 19, 3, (10, 4, [925, 1], [])) := rfl
theorem kf_Mod_send_64 : mcGet K_Mod_send 64 = (64, false, .iload 4, 2, mcX0) := rfl
theorem kf_Mod_send_66 : mcGet K_Mod_send 66 = (66, false, .dup2, 1, mcX0) := rfl
theorem kf_Mod_send_67 : mcGet K_Mod_send 67 = (67, false, .iaload, 1, mcX0) := rfl
theorem kf_Mod_send_68 : mcGet K_Mod_send 68 = (68, false, .iconst 1, 1, mcX0) := rfl
theorem kf_Mod_send_69 : mcGet K_Mod_send 69 = (69, false, .iadd, 1, mcX0) := rfl
theorem kf_Mod_send_70 : mcGet K_Mod_send 70 = (70, false, .iastore, 1, mcX0) := rfl
theorem kf_Mod_send_71 : mcGet K_Mod_send 71 = (71, false, .iconst 5, 1, mcX0) := rfl
theorem kf_Mod_send_72 : mcGet K_Mod_send 72 = (72, false, .aload_n 0, 1, mcX0) := rfl
theorem kf_Mod_send_73 : mcGet K_Mod_send 73 = (73, false, .getfield 86, 3, (10, 9, [930, 0], [])) := rfl
theorem kf_Mod_send_76 : mcGet K_Mod_send 76 = (76, false, .imul, 1, mcX0) := rfl
theorem kf_Mod_send_77 : mcGet K_Mod_send 77 = (77, false, .istore 5, 2, mcX0) := rfl
theorem kf_Mod_send_79 : mcGet K_Mod_send 79 = (79, false, .aload_n 0, 1, mcX0) := rfl
theorem kf_Mod_send_80 : mcGet K_Mod_send 80 = (80, false, .getfield 35, 3, (10, 10, [931, 1], [])) := rfl
theorem kf_Mod_send_83 : mcGet K_Mod_send 83 = (83, false, .iload 5, 2, mcX0) := rfl
theorem kf_Mod_send_85 : mcGet K_Mod_send 85 = (85, false, .iload_n 1, 1, mcX0) := rfl
theorem kf_Mod_send_86 : mcGet K_Mod_send 86 = (86, false, .iastore, 1, mcX0) := rfl
theorem kf_Mod_send_87 : mcGet K_Mod_send 87 = (87, false, .aload_n 0, 1, mcX0) := rfl
theorem kf_Mod_send_88 : mcGet K_Mod_send 88 = (88, false, .getfield 35, 3, (10, 10, [931, 1], [])) := rfl
theorem kf_Mod_send_91 : mcGet K_Mod_send 91 = (91, false, .iload 5, 2, mcX0) := rfl
theorem kf_Mod_send_93 : mcGet K_Mod_send 93 = (93, false, .iconst 1, 1, mcX0) := rfl
theorem kf_Mod_send_94 : mcGet K_Mod_send 94 = (94, false, .iadd, 1, mcX0) := rfl
theorem kf_Mod_send_95 : mcGet K_Mod_send 95 = (95, false, .aload_n 0, 1, mcX0) := rfl
theorem kf_Mod_send_96 : mcGet K_Mod_send 96 = (96, false, .getfield 7, 3, (10, 1, [922, 1], [])) := rfl
theorem kf_Mod_send_99 : mcGet K_Mod_send 99 = (99, false, .iload_n 1, 1, mcX0) := rfl
theorem kf_Mod_send_100 : mcGet K_Mod_send 100 = (100, false, .iaload, 1, mcX0) := rfl
theorem kf_Mod_send_101 : mcGet K_Mod_send 101 = (101, false, .iastore, 1, mcX0) := rfl
theorem kf_Mod_send_102 : mcGet K_Mod_send 102 = (102, false, .aload_n 0, 1, mcX0) := rfl
theorem kf_Mod_send_103 : mcGet K_Mod_send 103 = (103, false, .getfield 35, 3, (10, 10, [931, 1], [])) := rfl
theorem kf_Mod_send_106 : mcGet K_Mod_send 106 = (106, false, .iload 5, 2, mcX0) := rfl
theorem kf_Mod_send_108 : mcGet K_Mod_send 108 = (108, false, .iconst 2, 1, mcX0) := rfl
theorem kf_Mod_send_109 : mcGet K_Mod_send 109 = (109, false, .iadd, 1, mcX0) := rfl
theorem kf_Mod_send_110 : mcGet K_Mod_send 110 = (110, false, .iload_n 2, 1, mcX0) := rfl
theorem kf_Mod_send_111 : mcGet K_Mod_send 111 = (111, false, .iastore, 1, mcX0) := rfl
theorem kf_Mod_send_112 : mcGet K_Mod_send 112 = (112, false, .aload_n 0, 1, mcX0) := rfl
theorem kf_Mod_send_113 : mcGet K_Mod_send 113 = (113, false, .getfield 35, 3, (10, 10, [931, 1], [])) := rfl
theorem kf_Mod_send_116 : mcGet K_Mod_send 116 = (116, false, .iload 5, 2, mcX0) := rfl
theorem kf_Mod_send_118 : mcGet K_Mod_send 118 = (118, false, .iconst 3, 1, mcX0) := rfl
theorem kf_Mod_send_119 : mcGet K_Mod_send 119 = (119, false, .iadd, 1, mcX0) := rfl
theorem kf_Mod_send_120 : mcGet K_Mod_send 120 = (120, false, .aload_n 0, 1, mcX0) := rfl
theorem kf_Mod_send_121 : mcGet K_Mod_send 121 = (121, false, .getfield 19, 3, (10, 4, [925, 1], [])) := rfl
theorem kf_Mod_send_124 : mcGet K_Mod_send 124 = (124, false, .iload 4, 2, mcX0) := rfl
theorem kf_Mod_send_126 : mcGet K_Mod_send 126 = (126, false, .iaload, 1, mcX0) := rfl
theorem kf_Mod_send_127 : mcGet K_Mod_send 127 = (127, false, .iastore, 1, mcX0) := rfl
theorem kf_Mod_send_128 : mcGet K_Mod_send 128 = (128, false, .aload_n 0, 1, mcX0) := rfl
theorem kf_Mod_send_129 : mcGet K_Mod_send 129 = (129, false, .getfield 35, 3, (10, 10, [931, 1], [])) := rfl
theorem kf_Mod_send_132 : mcGet K_Mod_send 132 = (132, false, .iload 5, 2, mcX0) := rfl
theorem kf_Mod_send_134 : mcGet K_Mod_send 134 = (134, false, .iconst 4, 1, mcX0) := rfl
theorem kf_Mod_send_135 : mcGet K_Mod_send 135 = (135, false, .iadd, 1, mcX0) := rfl
theorem kf_Mod_send_136 : mcGet K_Mod_send 136 = (136, false, .aload_n 0, 1, mcX0) := rfl
theorem kf_Mod_send_137 : mcGet K_Mod_send 137 = (137, false, .getfield 13, 3, (10, 2, [923, 1], [])) := rfl
theorem kf_Mod_send_140 : mcGet K_Mod_send 140 = (140, false, .iload 4, 2, mcX0) := rfl
theorem kf_Mod_send_142 : mcGet K_Mod_send 142 = (142, false, .iaload, 1, mcX0) := rfl
theorem kf_Mod_send_143 : mcGet K_Mod_send 143 = (143, false, .iastore, 1, mcX0) := rfl
theorem kf_Mod_send_144 : mcGet K_Mod_send 144 = (144, false, .iconst 0, 1, mcX0) := rfl
theorem kf_Mod_send_145 : mcGet K_Mod_send 145 = (145, false, .istore 6, 2, mcX0) := rfl
theorem kf_Mod_send_147 : mcGet K_Mod_send 147 = (147, true, .iload 6, 2, mcX0) := rfl
theorem kf_Mod_send_149 : mcGet K_Mod_send 149 = (149, false, .iconst 5, 1, mcX0) := rfl
theorem kf_Mod_send_150 : mcGet K_Mod_send 150 = (150, false, .aload_n 0, 1, mcX0) := rfl
theorem kf_Mod_send_151 : mcGet K_Mod_send 151 = (151, false, .getfield 13, 3, (10, 2, [923, 1], [])) := rfl
theorem kf_Mod_send_154 : mcGet K_Mod_send 154 = (154, false, .iload 4, 2, mcX0) := rfl
theorem kf_Mod_send_156 : mcGet K_Mod_send 156 = (156, false, .iaload, 1, mcX0) := rfl
theorem kf_Mod_send_157 : mcGet K_Mod_send 157 = (157, false, .imul, 1, mcX0) := rfl
theorem kf_Mod_send_158 : mcGet K_Mod_send 158 = (158, false, .if_icmp .ge 37, 3, (195, 0, [], [])) := rfl
theorem kf_Mod_send_161 : mcGet K_Mod_send 161 = (161, false, .aload_n 0, 1, mcX0) := rfl
theorem kf_Mod_send_162 : mcGet K_Mod_send 162 = (162, false, .getfield 38, 3, (10, 11, [932, 1], [])) := rfl
theorem kf_Mod_send_165 : mcGet K_Mod_send 165 = (165, false, .bipush 20, 2, mcX0) := rfl
theorem kf_Mod_send_167 : mcGet K_Mod_send 167 = (167, false, .aload_n 0, 1, mcX0) := rfl
theorem kf_Mod_send_168 : mcGet K_Mod_send 168 = (168, false, .getfield 86, 3, (10, 9, [930, 0], [])) := rfl
theorem kf_Mod_send_171 : mcGet K_Mod_send 171 = (171, false, .imul, 1, mcX0) := rfl
theorem kf_Mod_send_172 : mcGet K_Mod_send 172 = (172, false, .iload 6, 2, mcX0) := rfl
theorem kf_Mod_send_174 : mcGet K_Mod_send 174 = (174, false, .iadd, 1, mcX0) := rfl
theorem kf_Mod_send_175 : mcGet K_Mod_send 175 = (175, false, .aload_n 0, 1, mcX0) := rfl
theorem kf_Mod_send_176 : mcGet K_Mod_send 176 = (176, false, .getfield 16, 3, (10, 3, [924, 1], [])) := rfl
theorem kf_Mod_send_179 : mcGet K_Mod_send 179 = (179, false, .bipush 20, 2, mcX0) := rfl
theorem kf_Mod_send_181 : mcGet K_Mod_send 181 = (181, false, .iload 4, 2, mcX0) := rfl
theorem kf_Mod_send_183 : mcGet K_Mod_send 183 = (183, false, .imul, 1, mcX0) := rfl
theorem kf_Mod_send_184 : mcGet K_Mod_send 184 = (184, false, .iload 6, 2, mcX0) := rfl
theorem kf_Mod_send_186 : mcGet K_Mod_send 186 = (186, false, .iadd, 1, mcX0) := rfl
theorem kf_Mod_send_187 : mcGet K_Mod_send 187 = (187, false, .iaload, 1, mcX0) := rfl
theorem kf_Mod_send_188 : mcGet K_Mod_send 188 = (188, false, .iastore, 1, mcX0) := rfl
theorem kf_Mod_send_189 : mcGet K_Mod_send 189 = (189, false, .iinc 6 1, 3, mcX0) := rfl
theorem kf_Mod_send_192 : mcGet K_Mod_send 192 = (192, false, .goto (-45), 3, (147, 0, [], [])) := rfl
theorem kf_Mod_send_195 : mcGet K_Mod_send 195 = (195, false, .aload_n 0, 1, mcX0) := rfl
theorem kf_Mod_send_196 : mcGet K_Mod_send 196 = (196, false, .getfield 13, 3, (10, 2, [923, 1], [])) := rfl
theorem kf_Mod_send_199 : mcGet K_Mod_send 199 = (199, false, .iload 4, 2, mcX0) := rfl
theorem kf_Mod_send_201 : mcGet K_Mod_send 201 = (201, false, .iconst 0, 1, mcX0) := rfl
theorem kf_Mod_send_202 : mcGet K_Mod_send 202 = (202, false, .iastore, 1, mcX0) := rfl
theorem kf_Mod_send_203 : mcGet K_Mod_send 203 = (203, false, .aload_n 0, 1, mcX0) := rfl
theorem kf_Mod_send_204 : mcGet K_Mod_send 204 = (204, false, .getfield 22, 3, (10, 5, [926, 1], [])) := rfl
theorem kf_Mod_send_207 : mcGet K_Mod_send 207 = (207, false, .iload 4, 2, mcX0) := rfl
theorem kf_Mod_send_209 : mcGet K_Mod_send 209 = (209, false, .iconst 1, 1, mcX0) := rfl
theorem kf_Mod_send_210 : mcGet K_Mod_send 210 = (210, false, .bastore, 1, mcX0) := rfl
theorem kf_Mod_send_211 : mcGet K_Mod_send 211 = (211, false, .aload_n 0, 1, mcX0) := rfl
theorem kf_Mod_send_212 : mcGet K_Mod_send 212 = (212, false, .getfield 26, 3, (10, 6, [927, 1], [])) := rfl
theorem kf_Mod_send_215 : mcGet K_Mod_send 215 = (215, false, .iload 4, 2, mcX0) := rfl
theorem kf_Mod_send_217 : mcGet K_Mod_send 217 = (217, false, .iconst 0, 1, mcX0) := rfl
theorem kf_Mod_send_218 : mcGet K_Mod_send 218 = (218, false, .iastore, 1, mcX0) := rfl
theorem kf_Mod_send_219 : mcGet K_Mod_send 219 = (219, false, .aload_n 0, 1, mcX0) := rfl
theorem kf_Mod_send_220 : mcGet K_Mod_send 220 = (220, false, .dup, 1, mcX0) := rfl
theorem kf_Mod_send_221 : mcGet K_Mod_send 221 = (221, false, .getfield 86, 3, (10, 9, [930, 0], [])) := rfl
theorem kf_Mod_send_224 : mcGet K_Mod_send 224 = (224, false, .iconst 1, 1, mcX0) := rfl
theorem kf_Mod_send_225 : mcGet K_Mod_send 225 = (225, false, .iadd, 1, mcX0) := rfl
theorem kf_Mod_send_226 : mcGet K_Mod_send 226 = (226, false, .putfield 86, 3, (10, 9, [930, 0], [])) := rfl
theorem kf_Mod_send_229 : mcGet K_Mod_send 229 = (229, false, .aload_n 0, 1, mcX0) := rfl
theorem kf_Mod_send_230 : mcGet K_Mod_send 230 = (230, false, .getfield 86, 3, (10, 9, [930, 0], [])) := rfl
theorem kf_Mod_send_233 : mcGet K_Mod_send 233 = (233, false, .iconst 1, 1, mcX0) := rfl
theorem kf_Mod_send_234 : mcGet K_Mod_send 234 = (234, false, .isub, 1, mcX0) := rfl
theorem kf_Mod_send_235 : mcGet K_Mod_send 235 = (235, false, .ireturn, 1, mcX0) := rfl
theorem kf_Mod_sortOf_0 : mcGet K_Mod_sortOf 0 = (0, false, .aload_n 0, 1, mcX0) := rfl
theorem kf_Mod_sortOf_1 : mcGet K_Mod_sortOf 1 = (1, false, .getfield 47, 3, (10, 14, [935, 1], [])) := rfl
theorem kf_Mod_sortOf_4 : mcGet K_Mod_sortOf 4 = (4, false, .iload_n 1, 1, mcX0) := rfl
theorem kf_Mod_sortOf_5 : mcGet K_Mod_sortOf 5 = (5, false, .iload_n 2, 1, mcX0) := rfl
theorem kf_Mod_sortOf_6 : mcGet K_Mod_sortOf 6 = (6, false, .iload_n 3, 1, mcX0) := rfl
theorem kf_Mod_sortOf_7 : mcGet K_Mod_sortOf 7 = (7, false, .invokestatic 99, 3, (0, 3, [1052, 1053, 63, 1054, 0, 3], [M_Mod_lockAt])) := rfl
theorem kf_Mod_sortOf_10 : mcGet K_Mod_sortOf 10 = (10, false, .baload, 1, mcX0) := rfl
theorem kf_Mod_sortOf_11 : mcGet K_Mod_sortOf 11 = (11, false, .iconst 3, 1, mcX0) := rfl
theorem kf_Mod_sortOf_12 : mcGet K_Mod_sortOf 12 = (12, false, .iand, 1, mcX0) := rfl
theorem kf_Mod_sortOf_13 : mcGet K_Mod_sortOf 13 = (13, false, .ireturn, 1, mcX0) := rfl
theorem kf_Mod_start_0 : mcGet K_Mod_start 0 = (0, false, .aload_n 0, 1, mcX0) := rfl
theorem kf_Mod_start_1 : mcGet K_Mod_start 1 = (1, false, .iload_n 1, 1, mcX0) := rfl
theorem kf_Mod_start_2 : mcGet K_Mod_start 2 = (2, false, .invokestatic 74, 3, (0, 1, [1010, 1011, 63, 1012, 0, 1], [M_Mod_isClient])) := rfl
theorem kf_Mod_start_5 : mcGet K_Mod_start 5 = (5, false, .ifCond .ne 7, 3, (12, 0, [], [])) := rfl
theorem kf_Mod_start_8 : mcGet K_Mod_start 8 = (8, false, .iconst 1, 1, mcX0) := rfl
theorem kf_Mod_start_9 : mcGet K_Mod_start 9 = (9, false, .goto 4, 3, (13, 0, [], [])) := rfl
theorem kf_Mod_start_12 : mcGet K_Mod_start 12 = (12, false, .iconst 0, 1, mcX0) := rfl
theorem kf_Mod_start_13 : mcGet K_Mod_start 13 = (13, false, .iconst 0, 1, mcX0) := rfl
theorem kf_Mod_start_14 : mcGet K_Mod_start 14 = (14, false, .invokevirtual 78, 3, (10, 3, [1013, 1015, 63, 1016, 23, 3], [M_Mod_refused])) := rfl
theorem kf_Mod_start_17 : mcGet K_Mod_start 17 = (17, false, .ifCond .eq 5, 3, (22, 0, [], [])) := rfl
theorem kf_Mod_start_20 : mcGet K_Mod_start 20 = (20, false, .iconst 0, 1, mcX0) := rfl
theorem kf_Mod_start_21 : mcGet K_Mod_start 21 = (21, false, .ireturn, 1, mcX0) := rfl
theorem kf_Mod_start_22 : mcGet K_Mod_start 22 = (22, false, .aload_n 0, 1, mcX0) := rfl
theorem kf_Mod_start_23 : mcGet K_Mod_start 23 = (23, false, .getfield 7, 3, (10, 1, [922, 1], [])) := rfl
theorem kf_Mod_start_26 : mcGet K_Mod_start 26 = (26, false, .iload_n 1, 1, mcX0) := rfl
theorem kf_Mod_start_27 : mcGet K_Mod_start 27 = (27, false, .dup2, 1, mcX0) := rfl
theorem kf_Mod_start_28 : mcGet K_Mod_start 28 = (28, false, .iaload, 1, mcX0) := rfl
theorem kf_Mod_start_29 : mcGet K_Mod_start 29 = (29, false, .iconst 1, 1, mcX0) := rfl
theorem kf_Mod_start_30 : mcGet K_Mod_start 30 = (30, false, .iadd, 1, mcX0) := rfl
theorem kf_Mod_start_31 : mcGet K_Mod_start 31 = (31, false, .iastore, 1, mcX0) := rfl
theorem kf_Mod_start_32 : mcGet K_Mod_start 32 = (32, false, .iconst 0, 1, mcX0) := rfl
theorem kf_Mod_start_33 : mcGet K_Mod_start 33 = (33, false, .istore_n 2, 1, mcX0) := rfl
theorem kf_Mod_start_34 : mcGet K_Mod_start 34 = (34, true, .iload_n 2, 1, mcX0) := rfl
theorem kf_Mod_start_35 : mcGet K_Mod_start 35 = (35, false, .iconst 3, 1, mcX0) := rfl
theorem kf_Mod_start_36 : mcGet K_Mod_start 36 = (36, false, .if_icmp .ge 43, 3, (79, 0, [], [])) := rfl
theorem kf_Mod_start_39 : mcGet K_Mod_start 39 = (39, false, .iconst 3, 1, mcX0) := rfl
theorem kf_Mod_start_40 : mcGet K_Mod_start 40 = (40, false, .iload_n 1, 1, mcX0) := rfl
theorem kf_Mod_start_41 : mcGet K_Mod_start 41 = (41, false, .imul, 1, mcX0) := rfl
theorem kf_Mod_start_42 : mcGet K_Mod_start 42 = (42, false, .iload_n 2, 1, mcX0) := rfl
theorem kf_Mod_start_43 : mcGet K_Mod_start 43 = (43, false, .iadd, 1, mcX0) := rfl
theorem kf_Mod_start_44 : mcGet K_Mod_start 44 = (44, false, .istore_n 3, 1, mcX0) := rfl
theorem kf_Mod_start_45 : mcGet K_Mod_start 45 = (45, false, .aload_n 0, 1, mcX0) := rfl
theorem kf_Mod_start_46 : mcGet K_Mod_start 46 = (46, false, .getfield 13, 3, (10, 2, [923, 1], [])) := rfl
theorem kf_Mod_start_49 : mcGet K_Mod_start 49 = (49, false, .iload_n 3, 1, mcX0) := rfl
theorem kf_Mod_start_50 : mcGet K_Mod_start 50 = (50, false, .iconst 0, 1, mcX0) := rfl
theorem kf_Mod_start_51 : mcGet K_Mod_start 51 = (51, false, .iastore, 1, mcX0) := rfl
theorem kf_Mod_start_52 : mcGet K_Mod_start 52 = (52, false, .aload_n 0, 1, mcX0) := rfl
theorem kf_Mod_start_53 : mcGet K_Mod_start 53 = (53, false, .getfield 19, 3, (10, 4, [925, 1], [])) := rfl
theorem kf_Mod_start_56 : mcGet K_Mod_start 56 = (56, false, .iload_n 3, 1, mcX0) := rfl
theorem kf_Mod_start_57 : mcGet K_Mod_start 57 = (57, false, .iconst 0, 1, mcX0) := rfl
theorem kf_Mod_start_58 : mcGet K_Mod_start 58 = (58, false, .iastore, 1, mcX0) := rfl
theorem kf_Mod_start_59 : mcGet K_Mod_start 59 = (59, false, .aload_n 0, 1, mcX0) := rfl
theorem kf_Mod_start_60 : mcGet K_Mod_start 60 = (60, false, .getfield 22, 3, (10, 5, [926, 1], [])) := rfl
theorem kf_Mod_start_63 : mcGet K_Mod_start 63 = (63, false, .iload_n 3, 1, mcX0) := rfl
theorem kf_Mod_start_64 : mcGet K_Mod_start 64 = (64, false, .iconst 0, 1, mcX0) := rfl
theorem kf_Mod_start_65 : mcGet K_Mod_start 65 = (65, false, .bastore, 1, mcX0) := rfl
theorem kf_Mod_start_66 : mcGet K_Mod_start 66 = (66, false, .aload_n 0, 1, mcX0) := rfl
theorem kf_Mod_start_67 : mcGet K_Mod_start 67 = (67, false, .getfield 26, 3, (10, 6, [927, 1], [])) := rfl
theorem kf_Mod_start_70 : mcGet K_Mod_start 70 = (70, false, .iload_n 3, 1, mcX0) := rfl
theorem kf_Mod_start_71 : mcGet K_Mod_start 71 = (71, false, .iconst 0, 1, mcX0) := rfl
theorem kf_Mod_start_72 : mcGet K_Mod_start 72 = (72, false, .iastore, 1, mcX0) := rfl
theorem kf_Mod_start_73 : mcGet K_Mod_start 73 = (73, false, .iinc 2 1, 3, mcX0) := rfl
theorem kf_Mod_start_76 : mcGet K_Mod_start 76 = (76, false, .goto (-42), 3, (34, 0, [], [])) := rfl
theorem kf_Mod_start_79 : mcGet K_Mod_start 79 = (79, false, .aload_n 0, 1, mcX0) := rfl
theorem kf_Mod_start_80 : mcGet K_Mod_start 80 = (80, false, .getfield 7, 3, (10, 1, [922, 1], [])) := rfl
theorem kf_Mod_start_83 : mcGet K_Mod_start 83 = (83, false, .iload_n 1, 1, mcX0) := rfl
theorem kf_Mod_start_84 : mcGet K_Mod_start 84 = (84, false, .iaload, 1, mcX0) := rfl
theorem kf_Mod_start_85 : mcGet K_Mod_start 85 = (85, false, .ireturn, 1, mcX0) := rfl
theorem kf_Mod_step_0 : mcGet K_Mod_step 0 = (0, false, .iload_n 1, 1, mcX0) := rfl
theorem kf_Mod_step_1 : mcGet K_Mod_step 1 = (1, false, .iload_n 2, 1, mcX0) := rfl
theorem kf_Mod_step_2 : mcGet K_Mod_step 2 = (2, false, .invokestatic 82, 3, (0, 2, [1021, 1022, 63, 1023, 0, 2], [M_Mod_isSlot])) := rfl
theorem kf_Mod_step_5 : mcGet K_Mod_step 5 = (5, false, .ifCond .eq 17, 3, (22, 0, [], [])) := rfl
theorem kf_Mod_step_8 : mcGet K_Mod_step 8 = (8, false, .iload_n 3, 1, mcX0) := rfl
theorem kf_Mod_step_9 : mcGet K_Mod_step 9 = (9, false, .ifCond .lt 13, 3, (22, 0, [], [])) := rfl
theorem kf_Mod_step_12 : mcGet K_Mod_step 12 = (12, false, .iload_n 3, 1, mcX0) := rfl
theorem kf_Mod_step_13 : mcGet K_Mod_step 13 = (13, false, .bipush 13, 2, mcX0) := rfl
theorem kf_Mod_step_15 : mcGet K_Mod_step 15 = (15, false, .if_icmp .gt 7, 3, (22, 0, [], [])) := rfl
theorem kf_Mod_step_18 : mcGet K_Mod_step 18 = (18, false, .iconst 1, 1, mcX0) := rfl
theorem kf_Mod_step_19 : mcGet K_Mod_step 19 = (19, false, .goto 4, 3, (23, 0, [], [])) := rfl
theorem kf_Mod_step_22 : mcGet K_Mod_step 22 = (22, false, .iconst 0, 1, mcX0) := rfl
theorem kf_Mod_step_23 : mcGet K_Mod_step 23 = (23, false, .istore 8, 2, mcX0) := rfl
theorem kf_Mod_step_25 : mcGet K_Mod_step 25 = (25, false, .iconst 3, 1, mcX0) := rfl
theorem kf_Mod_step_26 : mcGet K_Mod_step 26 = (26, false, .iload_n 1, 1, mcX0) := rfl
theorem kf_Mod_step_27 : mcGet K_Mod_step 27 = (27, false, .imul, 1, mcX0) := rfl
theorem kf_Mod_step_28 : mcGet K_Mod_step 28 = (28, false, .iload_n 2, 1, mcX0) := rfl
theorem kf_Mod_step_29 : mcGet K_Mod_step 29 = (29, false, .iadd, 1, mcX0) := rfl
theorem kf_Mod_step_30 : mcGet K_Mod_step 30 = (30, false, .istore 9, 2, mcX0) := rfl
theorem kf_Mod_step_32 : mcGet K_Mod_step 32 = (32, false, .aload_n 0, 1, mcX0) := rfl
theorem kf_Mod_step_33 : mcGet K_Mod_step 33 = (33, false, .iload 8, 2, mcX0) := rfl
theorem kf_Mod_step_35 : mcGet K_Mod_step 35 = (35, false, .ifCond .ne 7, 3, (42, 0, [], [])) := rfl
theorem kf_Mod_step_38 : mcGet K_Mod_step 38 = (38, false, .iconst 1, 1, mcX0) := rfl
theorem kf_Mod_step_39 : mcGet K_Mod_step 39 = (39, false, .goto 4, 3, (43, 0, [], [])) := rfl
theorem kf_Mod_step_42 : mcGet K_Mod_step 42 = (42, false, .iconst 0, 1, mcX0) := rfl
theorem kf_Mod_step_43 : mcGet K_Mod_step 43 = (43, false, .iload 8, 2, mcX0) := rfl
theorem kf_Mod_step_45 : mcGet K_Mod_step 45 = (45, false, .ifCond .eq 37, 3, (82, 0, [], [])) := rfl
theorem kf_Mod_step_48 : mcGet K_Mod_step 48 = (48, false, .aload_n 0, 1, mcX0) := rfl
theorem kf_Mod_step_49 : mcGet K_Mod_step 49 = (49, false, .getfield 7, 3, (10, 1, [922, 1], [])) := rfl
theorem kf_Mod_step_52 : mcGet K_Mod_step 52 = (52, false, .iload_n 1, 1, mcX0) := rfl
theorem kf_Mod_step_53 : mcGet K_Mod_step 53 = (53, false, .iaload, 1, mcX0) := rfl
theorem kf_Mod_step_54 : mcGet K_Mod_step 54 = (54, false, .ifCond .eq 24, 3, (78, 0, [], [])) := rfl
theorem kf_Mod_step_57 : mcGet K_Mod_step 57 = (57, false, .aload_n 0, 1, mcX0) := rfl
theorem kf_Mod_step_58 : mcGet K_Mod_step 58 = (58, false, .getfield 22, 3, (10, 5, [926, 1], [])) := rfl
theorem kf_Mod_step_61 : mcGet K_Mod_step 61 = (61, false, .iload 9, 2, mcX0) := rfl
theorem kf_Mod_step_63 : mcGet K_Mod_step 63 = (63, false, .baload, 1, mcX0) := rfl
theorem kf_Mod_step_64 : mcGet K_Mod_step 64 = (64, false, .ifCond .ne 14, 3, (78, 0, [], [])) := rfl
theorem kf_Mod_step_67 : mcGet K_Mod_step 67 = (67, false, .aload_n 0, 1, mcX0) := rfl
theorem kf_Mod_step_68 : mcGet K_Mod_step 68 = (68, false, .getfield 13, 3, (10, 2, [923, 1], [])) := rfl
theorem kf_Mod_step_71 : mcGet K_Mod_step 71 = (71, false, .iload 9, 2, mcX0) := rfl
theorem kf_Mod_step_73 : mcGet K_Mod_step 73 = (73, false, .iaload, 1, mcX0) := rfl
theorem kf_Mod_step_74 : mcGet K_Mod_step 74 = (74, false, .iconst 4, 1, mcX0) := rfl
theorem kf_Mod_step_75 : mcGet K_Mod_step 75 = (75, false, .if_icmp .ne 7, 3, (82, 0, [], [])) := rfl
theorem kf_Mod_step_78 : mcGet K_Mod_step 78 = (78, false, .iconst 1, 1, mcX0) := rfl
theorem kf_Mod_step_79 : mcGet K_Mod_step 79 = (79, false, .goto 4, 3, (83, 0, [], [])) := rfl
theorem kf_Mod_step_82 : mcGet K_Mod_step 82 = (82, false, .iconst 0, 1, mcX0) := rfl
theorem kf_Mod_step_83 : mcGet K_Mod_step 83 = (83, false, .invokevirtual 78, 3, (10, 3, [1013, 1015, 63, 1016, 23, 3], [M_Mod_refused])) := rfl
theorem kf_Mod_step_86 : mcGet K_Mod_step 86 = (86, false, .ifCond .eq 5, 3, (91, 0, [], [])) := rfl
theorem kf_Mod_step_89 : mcGet K_Mod_step 89 = (89, false, .iconst 0, 1, mcX0) := rfl
theorem kf_Mod_step_90 : mcGet K_Mod_step 90 = (90, false, .ireturn, 1, mcX0) := rfl
theorem kf_Mod_step_91 : mcGet K_Mod_step 91 = (91, false, .bipush 20, 2, mcX0) := rfl
theorem kf_Mod_step_93 : mcGet K_Mod_step 93 = (93, false, .iload 9, 2, mcX0) := rfl
theorem kf_Mod_step_95 : mcGet K_Mod_step 95 = (95, false, .imul, 1, mcX0) := rfl
theorem kf_Mod_step_96 : mcGet K_Mod_step 96 = (96, false, .iconst 5, 1, mcX0) := rfl
theorem kf_Mod_step_97 : mcGet K_Mod_step 97 = (97, false, .aload_n 0, 1, mcX0) := rfl
theorem kf_Mod_step_98 : mcGet K_Mod_step 98 = (98, false, .getfield 13, 3, (10, 2, [923, 1], [])) := rfl
theorem kf_Mod_step_101 : mcGet K_Mod_step 101 = (101, false, .iload 9, 2, mcX0) := rfl
theorem kf_Mod_step_103 : mcGet K_Mod_step 103 = (103, false, .iaload, 1, mcX0) := rfl
theorem kf_Mod_step_104 : mcGet K_Mod_step 104 = (104, false, .imul, 1, mcX0) := rfl
theorem kf_Mod_step_105 : mcGet K_Mod_step 105 = (105, false, .iadd, 1, mcX0) := rfl
theorem kf_Mod_step_106 : mcGet K_Mod_step 106 = (106, false, .istore 10, 2, mcX0) := rfl
theorem kf_Mod_step_108 : mcGet K_Mod_step 108 = (108, false, .aload_n 0, 1, mcX0) := rfl
theorem kf_Mod_step_109 : mcGet K_Mod_step 109 = (109, false, .getfield 16, 3, (10, 3, [924, 1], [])) := rfl
theorem kf_Mod_step_112 : mcGet K_Mod_step 112 = (112, false, .iload 10, 2, mcX0) := rfl
theorem kf_Mod_step_114 : mcGet K_Mod_step 114 = (114, false, .iload_n 3, 1, mcX0) := rfl
theorem kf_Mod_step_115 : mcGet K_Mod_step 115 = (115, false, .iastore, 1, mcX0) := rfl
theorem kf_Mod_step_116 : mcGet K_Mod_step 116 = (116, false, .aload_n 0, 1, mcX0) := rfl
theorem kf_Mod_step_117 : mcGet K_Mod_step 117 = (117, false, .getfield 16, 3, (10, 3, [924, 1], [])) := rfl
theorem kf_Mod_step_120 : mcGet K_Mod_step 120 = (120, false, .iload 10, 2, mcX0) := rfl
theorem kf_Mod_step_122 : mcGet K_Mod_step 122 = (122, false, .iconst 1, 1, mcX0) := rfl
theorem kf_Mod_step_123 : mcGet K_Mod_step 123 = (123, false, .iadd, 1, mcX0) := rfl
theorem kf_Mod_step_124 : mcGet K_Mod_step 124 = (124, false, .iload 4, 2, mcX0) := rfl
theorem kf_Mod_step_126 : mcGet K_Mod_step 126 = (126, false, .iastore, 1, mcX0) := rfl
theorem kf_Mod_step_127 : mcGet K_Mod_step 127 = (127, false, .aload_n 0, 1, mcX0) := rfl
theorem kf_Mod_step_128 : mcGet K_Mod_step 128 = (128, false, .getfield 16, 3, (10, 3, [924, 1], [])) := rfl
theorem kf_Mod_step_131 : mcGet K_Mod_step 131 = (131, false, .iload 10, 2, mcX0) := rfl
theorem kf_Mod_step_133 : mcGet K_Mod_step 133 = (133, false, .iconst 2, 1, mcX0) := rfl
theorem kf_Mod_step_134 : mcGet K_Mod_step 134 = (134, false, .iadd, 1, mcX0) := rfl
theorem kf_Mod_step_135 : mcGet K_Mod_step 135 = (135, false, .iload 5, 2, mcX0) := rfl
theorem kf_Mod_step_137 : mcGet K_Mod_step 137 = (137, false, .iastore, 1, mcX0) := rfl
theorem kf_Mod_step_138 : mcGet K_Mod_step 138 = (138, false, .aload_n 0, 1, mcX0) := rfl
theorem kf_Mod_step_139 : mcGet K_Mod_step 139 = (139, false, .getfield 16, 3, (10, 3, [924, 1], [])) := rfl
theorem kf_Mod_step_142 : mcGet K_Mod_step 142 = (142, false, .iload 10, 2, mcX0) := rfl
theorem kf_Mod_step_144 : mcGet K_Mod_step 144 = (144, false, .iconst 3, 1, mcX0) := rfl
theorem kf_Mod_step_145 : mcGet K_Mod_step 145 = (145, false, .iadd, 1, mcX0) := rfl
theorem kf_Mod_step_146 : mcGet K_Mod_step 146 = (146, false, .iload 6, 2, mcX0) := rfl
theorem kf_Mod_step_148 : mcGet K_Mod_step 148 = (148, false, .iastore, 1, mcX0) := rfl
theorem kf_Mod_step_149 : mcGet K_Mod_step 149 = (149, false, .aload_n 0, 1, mcX0) := rfl
theorem kf_Mod_step_150 : mcGet K_Mod_step 150 = (150, false, .getfield 16, 3, (10, 3, [924, 1], [])) := rfl
theorem kf_Mod_step_153 : mcGet K_Mod_step 153 = (153, false, .iload 10, 2, mcX0) := rfl
theorem kf_Mod_step_155 : mcGet K_Mod_step 155 = (155, false, .iconst 4, 1, mcX0) := rfl
theorem kf_Mod_step_156 : mcGet K_Mod_step 156 = (156, false, .iadd, 1, mcX0) := rfl
theorem kf_Mod_step_157 : mcGet K_Mod_step 157 = (157, false, .iload 7, 2, mcX0) := rfl
theorem kf_Mod_step_159 : mcGet K_Mod_step 159 = (159, false, .iastore, 1, mcX0) := rfl
theorem kf_Mod_step_160 : mcGet K_Mod_step 160 = (160, false, .aload_n 0, 1, mcX0) := rfl
theorem kf_Mod_step_161 : mcGet K_Mod_step 161 = (161, false, .getfield 13, 3, (10, 2, [923, 1], [])) := rfl
theorem kf_Mod_step_164 : mcGet K_Mod_step 164 = (164, false, .iload 9, 2, mcX0) := rfl
theorem kf_Mod_step_166 : mcGet K_Mod_step 166 = (166, false, .dup2, 1, mcX0) := rfl
theorem kf_Mod_step_167 : mcGet K_Mod_step 167 = (167, false, .iaload, 1, mcX0) := rfl
theorem kf_Mod_step_168 : mcGet K_Mod_step 168 = (168, false, .iconst 1, 1, mcX0) := rfl
theorem kf_Mod_step_169 : mcGet K_Mod_step 169 = (169, false, .iadd, 1, mcX0) := rfl
theorem kf_Mod_step_170 : mcGet K_Mod_step 170 = (170, false, .iastore, 1, mcX0) := rfl
theorem kf_Mod_step_171 : mcGet K_Mod_step 171 = (171, false, .aload_n 0, 1, mcX0) := rfl
theorem kf_Mod_step_172 : mcGet K_Mod_step 172 = (172, false, .getfield 13, 3, (10, 2, [923, 1], [])) := rfl
theorem kf_Mod_step_175 : mcGet K_Mod_step 175 = (175, false, .iload 9, 2, mcX0) := rfl
theorem kf_Mod_step_177 : mcGet K_Mod_step 177 = (177, false, .iaload, 1, mcX0) := rfl
theorem kf_Mod_step_178 : mcGet K_Mod_step 178 = (178, false, .ireturn, 1, mcX0) := rfl
theorem kf_Mod_stop_0 : mcGet K_Mod_stop 0 = (0, false, .aload_n 0, 1, mcX0) := rfl
theorem kf_Mod_stop_1 : mcGet K_Mod_stop 1 = (1, false, .iload_n 1, 1, mcX0) := rfl
theorem kf_Mod_stop_2 : mcGet K_Mod_stop 2 = (2, false, .iconst (-1), 1, mcX0) := rfl
theorem kf_Mod_stop_3 : mcGet K_Mod_stop 3 = (3, false, .if_icmp .ge 7, 3, (10, 0, [], [])) := rfl
theorem kf_Mod_stop_6 : mcGet K_Mod_stop 6 = (6, false, .iconst 1, 1, mcX0) := rfl
theorem kf_Mod_stop_7 : mcGet K_Mod_stop 7 = (7, false, .goto 4, 3, (11, 0, [], [])) := rfl
theorem kf_Mod_stop_10 : mcGet K_Mod_stop 10 = (10, false, .iconst 0, 1, mcX0) := rfl
theorem kf_Mod_stop_11 : mcGet K_Mod_stop 11 = (11, false, .iconst 0, 1, mcX0) := rfl
theorem kf_Mod_stop_12 : mcGet K_Mod_stop 12 = (12, false, .invokevirtual 78, 3, (10, 3, [1013, 1015, 63, 1016, 23, 3], [M_Mod_refused])) := rfl
theorem kf_Mod_stop_15 : mcGet K_Mod_stop 15 = (15, false, .ifCond .ne 10, 3, (25, 0, [], [])) := rfl
theorem kf_Mod_stop_18 : mcGet K_Mod_stop 18 = (18, false, .aload_n 0, 1, mcX0) := rfl
theorem kf_Mod_stop_19 : mcGet K_Mod_stop 19 = (19, false, .getfield 60, 3, (10, 19, [940, 2], [])) := rfl
theorem kf_Mod_stop_22 : mcGet K_Mod_stop 22 = (22, false, .ifCond .ne 4, 3, (26, 0, [], [])) := rfl
theorem kf_Mod_stop_25 : mcGet K_Mod_stop 25 = (25, false, .return_, 1, mcX0) := rfl
theorem kf_Mod_stop_26 : mcGet K_Mod_stop 26 = (26, false, .iload_n 1, 1, mcX0) := rfl
theorem kf_Mod_stop_27 : mcGet K_Mod_stop 27 = (27, false, .iconst (-1), 1, mcX0) := rfl
theorem kf_Mod_stop_28 : mcGet K_Mod_stop 28 = (28, false, .if_icmp .ne 10, 3, (38, 0, [], [])) := rfl
theorem kf_Mod_stop_31 : mcGet K_Mod_stop 31 = (31, false, .aload_n 0, 1, mcX0) := rfl
theorem kf_Mod_stop_32 : mcGet K_Mod_stop 32 = (32, false, .invokevirtual 134, 3, (10, 1, [1153, 1155, 63, 1156, 50, 2], [M_Mod_halt])) := rfl
theorem kf_Mod_stop_35 : mcGet K_Mod_stop 35 = (35, false, .goto 13, 3, (48, 0, [], [])) := rfl
theorem kf_Mod_stop_38 : mcGet K_Mod_stop 38 = (38, false, .aload_n 0, 1, mcX0) := rfl
theorem kf_Mod_stop_39 : mcGet K_Mod_stop 39 = (39, false, .iconst 1, 1, mcX0) := rfl
theorem kf_Mod_stop_40 : mcGet K_Mod_stop 40 = (40, false, .putfield 131, 3, (10, 21, [942, 2], [])) := rfl
theorem kf_Mod_stop_43 : mcGet K_Mod_stop 43 = (43, false, .aload_n 0, 1, mcX0) := rfl
theorem kf_Mod_stop_44 : mcGet K_Mod_stop 44 = (44, false, .iload_n 1, 1, mcX0) := rfl
theorem kf_Mod_stop_45 : mcGet K_Mod_stop 45 = (45, false, .putfield 64, 3, (10, 20, [941, 0], [])) := rfl
theorem kf_Mod_stop_48 : mcGet K_Mod_stop 48 = (48, false, .return_, 1, mcX0) := rfl
theorem kf_Mod_thrown_0 : mcGet K_Mod_thrown 0 = (0, false, .aload_n 0, 1, mcX0) := rfl
theorem kf_Mod_thrown_1 : mcGet K_Mod_thrown 1 = (1, false, .getfield 71, 3, (10, 0, [921, 0], [])) := rfl
theorem kf_Mod_thrown_4 : mcGet K_Mod_thrown 4 = (4, false, .ireturn, 1, mcX0) := rfl
theorem kf_Mod_time_0 : mcGet K_Mod_time 0 = (0, false, .aload_n 0, 1, mcX0) := rfl
theorem kf_Mod_time_1 : mcGet K_Mod_time 1 = (1, false, .iload_n 1, 1, mcX0) := rfl
theorem kf_Mod_time_2 : mcGet K_Mod_time 2 = (2, false, .ifCond .lt 9, 3, (11, 0, [], [])) := rfl
theorem kf_Mod_time_5 : mcGet K_Mod_time 5 = (5, false, .iload_n 1, 1, mcX0) := rfl
theorem kf_Mod_time_6 : mcGet K_Mod_time 6 = (6, false, .ldc 205, 2, (0, 0, [1169], [])) := rfl
theorem kf_Mod_time_8 : mcGet K_Mod_time 8 = (8, false, .if_icmp .le 7, 3, (15, 0, [], [])) := rfl
theorem kf_Mod_time_11 : mcGet K_Mod_time 11 = (11, false, .iconst 1, 1, mcX0) := rfl
theorem kf_Mod_time_12 : mcGet K_Mod_time 12 = (12, false, .goto 4, 3, (16, 0, [], [])) := rfl
theorem kf_Mod_time_15 : mcGet K_Mod_time 15 = (15, false, .iconst 0, 1, mcX0) := rfl
theorem kf_Mod_time_16 : mcGet K_Mod_time 16 = (16, false, .iconst 0, 1, mcX0) := rfl
theorem kf_Mod_time_17 : mcGet K_Mod_time 17 = (17, false, .invokevirtual 78, 3, (10, 3, [1013, 1015, 63, 1016, 23, 3], [M_Mod_refused])) := rfl
theorem kf_Mod_time_20 : mcGet K_Mod_time 20 = (20, false, .ifCond .eq 5, 3, (25, 0, [], [])) := rfl
theorem kf_Mod_time_23 : mcGet K_Mod_time 23 = (23, false, .iconst 0, 1, mcX0) := rfl
theorem kf_Mod_time_24 : mcGet K_Mod_time 24 = (24, false, .ireturn, 1, mcX0) := rfl
theorem kf_Mod_time_25 : mcGet K_Mod_time 25 = (25, false, .aload_n 0, 1, mcX0) := rfl
theorem kf_Mod_time_26 : mcGet K_Mod_time 26 = (26, false, .aload_n 0, 1, mcX0) := rfl
theorem kf_Mod_time_27 : mcGet K_Mod_time 27 = (27, false, .getfield 93, 3, (10, 22, [943, 0], [])) := rfl
theorem kf_Mod_time_30 : mcGet K_Mod_time 30 = (30, false, .iload_n 1, 1, mcX0) := rfl
theorem kf_Mod_time_31 : mcGet K_Mod_time 31 = (31, false, .iadd, 1, mcX0) := rfl
theorem kf_Mod_time_32 : mcGet K_Mod_time 32 = (32, false, .putfield 93, 3, (10, 22, [943, 0], [])) := rfl
theorem kf_Mod_time_35 : mcGet K_Mod_time 35 = (35, false, .aload_n 0, 1, mcX0) := rfl
theorem kf_Mod_time_36 : mcGet K_Mod_time 36 = (36, false, .getfield 93, 3, (10, 22, [943, 0], [])) := rfl
theorem kf_Mod_time_39 : mcGet K_Mod_time 39 = (39, false, .ireturn, 1, mcX0) := rfl
theorem kf_Mod_unlock_0 : mcGet K_Mod_unlock 0 = (0, false, .aload_n 0, 1, mcX0) := rfl
theorem kf_Mod_unlock_1 : mcGet K_Mod_unlock 1 = (1, false, .iload_n 1, 1, mcX0) := rfl
theorem kf_Mod_unlock_2 : mcGet K_Mod_unlock 2 = (2, false, .invokevirtual 189, 3, (10, 2, [1090, 1092, 63, 1093, 35, 2], [M_Mod_isDirectory])) := rfl
theorem kf_Mod_unlock_5 : mcGet K_Mod_unlock 5 = (5, false, .ifCond .eq 5, 3, (10, 0, [], [])) := rfl
theorem kf_Mod_unlock_8 : mcGet K_Mod_unlock 8 = (8, false, .iconst 4, 1, mcX0) := rfl
theorem kf_Mod_unlock_9 : mcGet K_Mod_unlock 9 = (9, false, .ireturn, 1, mcX0) := rfl
theorem kf_Mod_unlock_10 : mcGet K_Mod_unlock 10 = (10, false, .iload_n 2, 1, mcX0) := rfl
theorem kf_Mod_unlock_11 : mcGet K_Mod_unlock 11 = (11, false, .iload_n 3, 1, mcX0) := rfl
theorem kf_Mod_unlock_12 : mcGet K_Mod_unlock 12 = (12, false, .invokestatic 202, 3, (0, 2, [1142, 1143, 63, 1144, 0, 2], [M_Mod_areBytes])) := rfl
theorem kf_Mod_unlock_15 : mcGet K_Mod_unlock 15 = (15, false, .ifCond .ne 6, 3, (21, 0, [], [])) := rfl
theorem kf_Mod_unlock_18 : mcGet K_Mod_unlock 18 = (18, false, .bipush 6, 2, mcX0) := rfl
theorem kf_Mod_unlock_20 : mcGet K_Mod_unlock 20 = (20, false, .ireturn, 1, mcX0) := rfl
theorem kf_Mod_unlock_21 : mcGet K_Mod_unlock 21 = (21, false, .iload_n 2, 1, mcX0) := rfl
theorem kf_Mod_unlock_22 : mcGet K_Mod_unlock 22 = (22, false, .istore 4, 2, mcX0) := rfl
theorem kf_Mod_unlock_24 : mcGet K_Mod_unlock 24 = (24, true, .iload 4, 2, mcX0) := rfl
theorem kf_Mod_unlock_26 : mcGet K_Mod_unlock 26 = (26, false, .iload_n 3, 1, mcX0) := rfl
theorem kf_Mod_unlock_27 : mcGet K_Mod_unlock 27 = (27, false, .if_icmp .gt 50, 3, (77, 0, [], [])) := rfl
theorem kf_Mod_unlock_30 : mcGet K_Mod_unlock 30 = (30, false, .aload_n 0, 1, mcX0) := rfl
theorem kf_Mod_unlock_31 : mcGet K_Mod_unlock 31 = (31, false, .getfield 107, 3, (10, 24, [945, 0], [])) := rfl
theorem kf_Mod_unlock_34 : mcGet K_Mod_unlock 34 = (34, false, .iload_n 1, 1, mcX0) := rfl
theorem kf_Mod_unlock_35 : mcGet K_Mod_unlock 35 = (35, false, .iload 4, 2, mcX0) := rfl
theorem kf_Mod_unlock_37 : mcGet K_Mod_unlock 37 = (37, false, .invokestatic 99, 3, (0, 3, [1052, 1053, 63, 1054, 0, 3], [M_Mod_lockAt])) := rfl
theorem kf_Mod_unlock_40 : mcGet K_Mod_unlock 40 = (40, false, .istore 5, 2, mcX0) := rfl
theorem kf_Mod_unlock_42 : mcGet K_Mod_unlock 42 = (42, false, .aload_n 0, 1, mcX0) := rfl
theorem kf_Mod_unlock_43 : mcGet K_Mod_unlock 43 = (43, false, .getfield 47, 3, (10, 14, [935, 1], [])) := rfl
theorem kf_Mod_unlock_46 : mcGet K_Mod_unlock 46 = (46, false, .iload 5, 2, mcX0) := rfl
theorem kf_Mod_unlock_48 : mcGet K_Mod_unlock 48 = (48, false, .aload_n 0, 1, mcX0) := rfl
theorem kf_Mod_unlock_49 : mcGet K_Mod_unlock 49 = (49, false, .getfield 47, 3, (10, 14, [935, 1], [])) := rfl
theorem kf_Mod_unlock_52 : mcGet K_Mod_unlock 52 = (52, false, .iload 5, 2, mcX0) := rfl
theorem kf_Mod_unlock_54 : mcGet K_Mod_unlock 54 = (54, false, .baload, 1, mcX0) := rfl
theorem kf_Mod_unlock_55 : mcGet K_Mod_unlock 55 = (55, false, .iconst 4, 1, mcX0) := rfl
theorem kf_Mod_unlock_56 : mcGet K_Mod_unlock 56 = (56, false, .if_icmp .ge 7, 3, (63, 0, [], [])) := rfl
theorem kf_Mod_unlock_59 : mcGet K_Mod_unlock 59 = (59, false, .iconst 0, 1, mcX0) := rfl
theorem kf_Mod_unlock_60 : mcGet K_Mod_unlock 60 = (60, false, .goto 10, 3, (70, 0, [], [])) := rfl
theorem kf_Mod_unlock_63 : mcGet K_Mod_unlock 63 = (63, false, .aload_n 0, 1, mcX0) := rfl
theorem kf_Mod_unlock_64 : mcGet K_Mod_unlock 64 = (64, false, .getfield 47, 3, (10, 14, [935, 1], [])) := rfl
theorem kf_Mod_unlock_67 : mcGet K_Mod_unlock 67 = (67, false, .iload 5, 2, mcX0) := rfl
theorem kf_Mod_unlock_69 : mcGet K_Mod_unlock 69 = (69, false, .baload, 1, mcX0) := rfl
theorem kf_Mod_unlock_70 : mcGet K_Mod_unlock 70 = (70, false, .bastore, 1, mcX0) := rfl
theorem kf_Mod_unlock_71 : mcGet K_Mod_unlock 71 = (71, false, .iinc 4 1, 3, mcX0) := rfl
theorem kf_Mod_unlock_74 : mcGet K_Mod_unlock 74 = (74, false, .goto (-50), 3, (24, 0, [], [])) := rfl
theorem kf_Mod_unlock_77 : mcGet K_Mod_unlock 77 = (77, false, .iconst 0, 1, mcX0) := rfl
theorem kf_Mod_unlock_78 : mcGet K_Mod_unlock 78 = (78, false, .ireturn, 1, mcX0) := rfl
theorem kf_Mod_value_0 : mcGet K_Mod_value 0 = (0, false, .aload_n 0, 1, mcX0) := rfl
theorem kf_Mod_value_1 : mcGet K_Mod_value 1 = (1, false, .iload_n 1, 1, mcX0) := rfl
theorem kf_Mod_value_2 : mcGet K_Mod_value 2 = (2, false, .iload_n 2, 1, mcX0) := rfl
theorem kf_Mod_value_3 : mcGet K_Mod_value 3 = (3, false, .invokestatic 82, 3, (0, 2, [1021, 1022, 63, 1023, 0, 2], [M_Mod_isSlot])) := rfl
theorem kf_Mod_value_6 : mcGet K_Mod_value 6 = (6, false, .ifCond .ne 7, 3, (13, 0, [], [])) := rfl
theorem kf_Mod_value_9 : mcGet K_Mod_value 9 = (9, false, .iconst 1, 1, mcX0) := rfl
theorem kf_Mod_value_10 : mcGet K_Mod_value 10 = (10, false, .goto 4, 3, (14, 0, [], [])) := rfl
theorem kf_Mod_value_13 : mcGet K_Mod_value 13 = (13, false, .iconst 0, 1, mcX0) := rfl
theorem kf_Mod_value_14 : mcGet K_Mod_value 14 = (14, false, .iconst 0, 1, mcX0) := rfl
theorem kf_Mod_value_15 : mcGet K_Mod_value 15 = (15, false, .invokevirtual 78, 3, (10, 3, [1013, 1015, 63, 1016, 23, 3], [M_Mod_refused])) := rfl
theorem kf_Mod_value_18 : mcGet K_Mod_value 18 = (18, false, .ifCond .eq 5, 3, (23, 0, [], [])) := rfl
theorem kf_Mod_value_21 : mcGet K_Mod_value 21 = (21, false, .iconst 0, 1, mcX0) := rfl
theorem kf_Mod_value_22 : mcGet K_Mod_value 22 = (22, false, .ireturn, 1, mcX0) := rfl
theorem kf_Mod_value_23 : mcGet K_Mod_value 23 = (23, false, .aload_n 0, 1, mcX0) := rfl
theorem kf_Mod_value_24 : mcGet K_Mod_value 24 = (24, false, .iload_n 1, 1, mcX0) := rfl
theorem kf_Mod_value_25 : mcGet K_Mod_value 25 = (25, false, .iload_n 2, 1, mcX0) := rfl
theorem kf_Mod_value_26 : mcGet K_Mod_value 26 = (26, false, .iload_n 3, 1, mcX0) := rfl
theorem kf_Mod_value_27 : mcGet K_Mod_value 27 = (27, false, .invokevirtual 89, 3, (10, 4, [1032, 1034, 63, 1035, 24, 5], [M_Mod_hasAnswer])) := rfl
theorem kf_Mod_value_30 : mcGet K_Mod_value 30 = (30, false, .ifCond .eq 20, 3, (50, 0, [], [])) := rfl
theorem kf_Mod_value_33 : mcGet K_Mod_value 33 = (33, false, .aload_n 0, 1, mcX0) := rfl
theorem kf_Mod_value_34 : mcGet K_Mod_value 34 = (34, false, .getfield 32, 3, (10, 8, [929, 1], [])) := rfl
theorem kf_Mod_value_37 : mcGet K_Mod_value 37 = (37, false, .iconst 4, 1, mcX0) := rfl
theorem kf_Mod_value_38 : mcGet K_Mod_value 38 = (38, false, .iconst 3, 1, mcX0) := rfl
theorem kf_Mod_value_39 : mcGet K_Mod_value 39 = (39, false, .iload_n 1, 1, mcX0) := rfl
theorem kf_Mod_value_40 : mcGet K_Mod_value 40 = (40, false, .imul, 1, mcX0) := rfl
theorem kf_Mod_value_41 : mcGet K_Mod_value 41 = (41, false, .iload_n 2, 1, mcX0) := rfl
theorem kf_Mod_value_42 : mcGet K_Mod_value 42 = (42, false, .iadd, 1, mcX0) := rfl
theorem kf_Mod_value_43 : mcGet K_Mod_value 43 = (43, false, .imul, 1, mcX0) := rfl
theorem kf_Mod_value_44 : mcGet K_Mod_value 44 = (44, false, .iload_n 3, 1, mcX0) := rfl
theorem kf_Mod_value_45 : mcGet K_Mod_value 45 = (45, false, .iadd, 1, mcX0) := rfl
theorem kf_Mod_value_46 : mcGet K_Mod_value 46 = (46, false, .iaload, 1, mcX0) := rfl
theorem kf_Mod_value_47 : mcGet K_Mod_value 47 = (47, false, .goto 4, 3, (51, 0, [], [])) := rfl
theorem kf_Mod_value_50 : mcGet K_Mod_value 50 = (50, false, .iconst (-1), 1, mcX0) := rfl
theorem kf_Mod_value_51 : mcGet K_Mod_value 51 = (51, false, .ireturn, 1, mcX0) := rfl
theorem kf_Mod_walk_0 : mcGet K_Mod_walk 0 = (0, false, .aload_n 0, 1, mcX0) := rfl
theorem kf_Mod_walk_1 : mcGet K_Mod_walk 1 = (1, false, .iload_n 1, 1, mcX0) := rfl
theorem kf_Mod_walk_2 : mcGet K_Mod_walk 2 = (2, false, .invokevirtual 189, 3, (10, 2, [1090, 1092, 63, 1093, 35, 2], [M_Mod_isDirectory])) := rfl
theorem kf_Mod_walk_5 : mcGet K_Mod_walk 5 = (5, false, .ifCond .ne 5, 3, (10, 0, [], [])) := rfl
theorem kf_Mod_walk_8 : mcGet K_Mod_walk 8 = (8, false, .iconst 4, 1, mcX0) := rfl
theorem kf_Mod_walk_9 : mcGet K_Mod_walk 9 = (9, false, .ireturn, 1, mcX0) := rfl
theorem kf_Mod_walk_10 : mcGet K_Mod_walk 10 = (10, false, .iload_n 2, 1, mcX0) := rfl
theorem kf_Mod_walk_11 : mcGet K_Mod_walk 11 = (11, false, .invokestatic 144, 3, (0, 1, [1075, 1076, 63, 1077, 0, 1], [M_Mod_isHandle])) := rfl
theorem kf_Mod_walk_14 : mcGet K_Mod_walk 14 = (14, false, .ifCond .ne 6, 3, (20, 0, [], [])) := rfl
theorem kf_Mod_walk_17 : mcGet K_Mod_walk 17 = (17, false, .bipush 6, 2, mcX0) := rfl
theorem kf_Mod_walk_19 : mcGet K_Mod_walk 19 = (19, false, .ireturn, 1, mcX0) := rfl
theorem kf_Mod_walk_20 : mcGet K_Mod_walk 20 = (20, false, .aload_n 0, 1, mcX0) := rfl
theorem kf_Mod_walk_21 : mcGet K_Mod_walk 21 = (21, false, .iload_n 1, 1, mcX0) := rfl
theorem kf_Mod_walk_22 : mcGet K_Mod_walk 22 = (22, false, .iload_n 3, 1, mcX0) := rfl
theorem kf_Mod_walk_23 : mcGet K_Mod_walk 23 = (23, false, .invokevirtual 192, 3, (10, 3, [1094, 1096, 63, 1097, 36, 4], [M_Mod_find])) := rfl
theorem kf_Mod_walk_26 : mcGet K_Mod_walk 26 = (26, false, .istore 4, 2, mcX0) := rfl
theorem kf_Mod_walk_28 : mcGet K_Mod_walk 28 = (28, false, .iload 4, 2, mcX0) := rfl
theorem kf_Mod_walk_30 : mcGet K_Mod_walk 30 = (30, false, .ifCond .ge 5, 3, (35, 0, [], [])) := rfl
theorem kf_Mod_walk_33 : mcGet K_Mod_walk 33 = (33, false, .iconst 2, 1, mcX0) := rfl
theorem kf_Mod_walk_34 : mcGet K_Mod_walk 34 = (34, false, .ireturn, 1, mcX0) := rfl
theorem kf_Mod_walk_35 : mcGet K_Mod_walk 35 = (35, false, .aload_n 0, 1, mcX0) := rfl
theorem kf_Mod_walk_36 : mcGet K_Mod_walk 36 = (36, false, .iload_n 2, 1, mcX0) := rfl
theorem kf_Mod_walk_37 : mcGet K_Mod_walk 37 = (37, false, .iload 4, 2, mcX0) := rfl
theorem kf_Mod_walk_39 : mcGet K_Mod_walk 39 = (39, false, .invokevirtual 147, 3, (10, 3, [1078, 1080, 63, 1081, 32, 3], [M_Mod_bind])) := rfl
theorem kf_Mod_walk_42 : mcGet K_Mod_walk 42 = (42, false, .aload_n 0, 1, mcX0) := rfl
theorem kf_Mod_walk_43 : mcGet K_Mod_walk 43 = (43, false, .iload 4, 2, mcX0) := rfl
theorem kf_Mod_walk_45 : mcGet K_Mod_walk 45 = (45, false, .putfield 137, 3, (10, 25, [946, 0], [])) := rfl
theorem kf_Mod_walk_48 : mcGet K_Mod_walk 48 = (48, false, .iconst 0, 1, mcX0) := rfl
theorem kf_Mod_walk_49 : mcGet K_Mod_walk 49 = (49, false, .ireturn, 1, mcX0) := rfl
theorem kf_Mod_write_0 : mcGet K_Mod_write 0 = (0, false, .aload_n 0, 1, mcX0) := rfl
theorem kf_Mod_write_1 : mcGet K_Mod_write 1 = (1, false, .iload_n 1, 1, mcX0) := rfl
theorem kf_Mod_write_2 : mcGet K_Mod_write 2 = (2, false, .invokevirtual 189, 3, (10, 2, [1090, 1092, 63, 1093, 35, 2], [M_Mod_isDirectory])) := rfl
theorem kf_Mod_write_5 : mcGet K_Mod_write 5 = (5, false, .ifCond .eq 5, 3, (10, 0, [], [])) := rfl
theorem kf_Mod_write_8 : mcGet K_Mod_write 8 = (8, false, .iconst 4, 1, mcX0) := rfl
theorem kf_Mod_write_9 : mcGet K_Mod_write 9 = (9, false, .ireturn, 1, mcX0) := rfl
theorem kf_Mod_write_10 : mcGet K_Mod_write 10 = (10, false, .iload_n 2, 1, mcX0) := rfl
theorem kf_Mod_write_11 : mcGet K_Mod_write 11 = (11, false, .ifCond .lt 20, 3, (31, 0, [], [])) := rfl
theorem kf_Mod_write_14 : mcGet K_Mod_write 14 = (14, false, .iload_n 2, 1, mcX0) := rfl
theorem kf_Mod_write_15 : mcGet K_Mod_write 15 = (15, false, .bipush 64, 2, mcX0) := rfl
theorem kf_Mod_write_17 : mcGet K_Mod_write 17 = (17, false, .if_icmp .ge 14, 3, (31, 0, [], [])) := rfl
theorem kf_Mod_write_20 : mcGet K_Mod_write 20 = (20, false, .iload_n 3, 1, mcX0) := rfl
theorem kf_Mod_write_21 : mcGet K_Mod_write 21 = (21, false, .ifCond .lt 10, 3, (31, 0, [], [])) := rfl
theorem kf_Mod_write_24 : mcGet K_Mod_write 24 = (24, false, .iload_n 3, 1, mcX0) := rfl
theorem kf_Mod_write_25 : mcGet K_Mod_write 25 = (25, false, .sipush 255, 3, mcX0) := rfl
theorem kf_Mod_write_28 : mcGet K_Mod_write 28 = (28, false, .if_icmp .le 6, 3, (34, 0, [], [])) := rfl
theorem kf_Mod_write_31 : mcGet K_Mod_write 31 = (31, false, .bipush 6, 2, mcX0) := rfl
theorem kf_Mod_write_33 : mcGet K_Mod_write 33 = (33, false, .ireturn, 1, mcX0) := rfl
theorem kf_Mod_write_34 : mcGet K_Mod_write 34 = (34, false, .iload 4, 2, mcX0) := rfl
theorem kf_Mod_write_36 : mcGet K_Mod_write 36 = (36, false, .ifCond .ne 16, 3, (52, 0, [], [])) := rfl
theorem kf_Mod_write_39 : mcGet K_Mod_write 39 = (39, false, .aload_n 0, 1, mcX0) := rfl
theorem kf_Mod_write_40 : mcGet K_Mod_write 40 = (40, false, .iload_n 1, 1, mcX0) := rfl
theorem kf_Mod_write_41 : mcGet K_Mod_write 41 = (41, false, .iload_n 2, 1, mcX0) := rfl
theorem kf_Mod_write_42 : mcGet K_Mod_write 42 = (42, false, .iconst 1, 1, mcX0) := rfl
theorem kf_Mod_write_43 : mcGet K_Mod_write 43 = (43, false, .invokevirtual 199, 3, (10, 4, [1118, 1120, 63, 1121, 42, 6], [M_Mod_hasOther])) := rfl
theorem kf_Mod_write_46 : mcGet K_Mod_write 46 = (46, false, .ifCond .eq 6, 3, (52, 0, [], [])) := rfl
theorem kf_Mod_write_49 : mcGet K_Mod_write 49 = (49, false, .bipush 9, 2, mcX0) := rfl
theorem kf_Mod_write_51 : mcGet K_Mod_write 51 = (51, false, .ireturn, 1, mcX0) := rfl
theorem kf_Mod_write_52 : mcGet K_Mod_write 52 = (52, false, .iload 4, 2, mcX0) := rfl
theorem kf_Mod_write_54 : mcGet K_Mod_write 54 = (54, false, .ifCond .eq 24, 3, (78, 0, [], [])) := rfl
theorem kf_Mod_write_57 : mcGet K_Mod_write 57 = (57, false, .aload_n 0, 1, mcX0) := rfl
theorem kf_Mod_write_58 : mcGet K_Mod_write 58 = (58, false, .getfield 47, 3, (10, 14, [935, 1], [])) := rfl
theorem kf_Mod_write_61 : mcGet K_Mod_write 61 = (61, false, .aload_n 0, 1, mcX0) := rfl
theorem kf_Mod_write_62 : mcGet K_Mod_write 62 = (62, false, .getfield 107, 3, (10, 24, [945, 0], [])) := rfl
theorem kf_Mod_write_65 : mcGet K_Mod_write 65 = (65, false, .iload_n 1, 1, mcX0) := rfl
theorem kf_Mod_write_66 : mcGet K_Mod_write 66 = (66, false, .iload_n 2, 1, mcX0) := rfl
theorem kf_Mod_write_67 : mcGet K_Mod_write 67 = (67, false, .invokestatic 99, 3, (0, 3, [1052, 1053, 63, 1054, 0, 3], [M_Mod_lockAt])) := rfl
theorem kf_Mod_write_70 : mcGet K_Mod_write 70 = (70, false, .baload, 1, mcX0) := rfl
theorem kf_Mod_write_71 : mcGet K_Mod_write 71 = (71, false, .iconst 2, 1, mcX0) := rfl
theorem kf_Mod_write_72 : mcGet K_Mod_write 72 = (72, false, .if_icmp .eq 6, 3, (78, 0, [], [])) := rfl
theorem kf_Mod_write_75 : mcGet K_Mod_write 75 = (75, false, .bipush 10, 2, mcX0) := rfl
theorem kf_Mod_write_77 : mcGet K_Mod_write 77 = (77, false, .ireturn, 1, mcX0) := rfl
theorem kf_Mod_write_78 : mcGet K_Mod_write 78 = (78, false, .aload_n 0, 1, mcX0) := rfl
theorem kf_Mod_write_79 : mcGet K_Mod_write 79 = (79, false, .getfield 41, 3, (10, 12, [933, 1], [])) := rfl
theorem kf_Mod_write_82 : mcGet K_Mod_write 82 = (82, false, .sipush 316, 3, mcX0) := rfl
theorem kf_Mod_write_85 : mcGet K_Mod_write 85 = (85, false, .iload_n 1, 1, mcX0) := rfl
theorem kf_Mod_write_86 : mcGet K_Mod_write 86 = (86, false, .iadd, 1, mcX0) := rfl
theorem kf_Mod_write_87 : mcGet K_Mod_write 87 = (87, false, .iaload, 1, mcX0) := rfl
theorem kf_Mod_write_88 : mcGet K_Mod_write 88 = (88, false, .istore 5, 2, mcX0) := rfl
theorem kf_Mod_write_90 : mcGet K_Mod_write 90 = (90, true, .iload 5, 2, mcX0) := rfl
theorem kf_Mod_write_92 : mcGet K_Mod_write 92 = (92, false, .iload_n 2, 1, mcX0) := rfl
theorem kf_Mod_write_93 : mcGet K_Mod_write 93 = (93, false, .if_icmp .ge 26, 3, (119, 0, [], [])) := rfl
theorem kf_Mod_write_96 : mcGet K_Mod_write 96 = (96, false, .aload_n 0, 1, mcX0) := rfl
theorem kf_Mod_write_97 : mcGet K_Mod_write 97 = (97, false, .getfield 41, 3, (10, 12, [933, 1], [])) := rfl
theorem kf_Mod_write_100 : mcGet K_Mod_write 100 = (100, false, .sipush 348, 3, mcX0) := rfl
theorem kf_Mod_write_103 : mcGet K_Mod_write 103 = (103, false, .bipush 64, 2, mcX0) := rfl
theorem kf_Mod_write_105 : mcGet K_Mod_write 105 = (105, false, .iload_n 1, 1, mcX0) := rfl
theorem kf_Mod_write_106 : mcGet K_Mod_write 106 = (106, false, .imul, 1, mcX0) := rfl
theorem kf_Mod_write_107 : mcGet K_Mod_write 107 = (107, false, .iadd, 1, mcX0) := rfl
theorem kf_Mod_write_108 : mcGet K_Mod_write 108 = (108, false, .iload 5, 2, mcX0) := rfl
theorem kf_Mod_write_110 : mcGet K_Mod_write 110 = (110, false, .iadd, 1, mcX0) := rfl
theorem kf_Mod_write_111 : mcGet K_Mod_write 111 = (111, false, .iconst 0, 1, mcX0) := rfl
theorem kf_Mod_write_112 : mcGet K_Mod_write 112 = (112, false, .iastore, 1, mcX0) := rfl
theorem kf_Mod_write_113 : mcGet K_Mod_write 113 = (113, false, .iinc 5 1, 3, mcX0) := rfl
theorem kf_Mod_write_116 : mcGet K_Mod_write 116 = (116, false, .goto (-26), 3, (90, 0, [], [])) := rfl
theorem kf_Mod_write_119 : mcGet K_Mod_write 119 = (119, false, .aload_n 0, 1, mcX0) := rfl
theorem kf_Mod_write_120 : mcGet K_Mod_write 120 = (120, false, .getfield 41, 3, (10, 12, [933, 1], [])) := rfl
theorem kf_Mod_write_123 : mcGet K_Mod_write 123 = (123, false, .sipush 348, 3, mcX0) := rfl
theorem kf_Mod_write_126 : mcGet K_Mod_write 126 = (126, false, .bipush 64, 2, mcX0) := rfl
theorem kf_Mod_write_128 : mcGet K_Mod_write 128 = (128, false, .iload_n 1, 1, mcX0) := rfl
theorem kf_Mod_write_129 : mcGet K_Mod_write 129 = (129, false, .imul, 1, mcX0) := rfl
theorem kf_Mod_write_130 : mcGet K_Mod_write 130 = (130, false, .iadd, 1, mcX0) := rfl
theorem kf_Mod_write_131 : mcGet K_Mod_write 131 = (131, false, .iload_n 2, 1, mcX0) := rfl
theorem kf_Mod_write_132 : mcGet K_Mod_write 132 = (132, false, .iadd, 1, mcX0) := rfl
theorem kf_Mod_write_133 : mcGet K_Mod_write 133 = (133, false, .iload_n 3, 1, mcX0) := rfl
theorem kf_Mod_write_134 : mcGet K_Mod_write 134 = (134, false, .iastore, 1, mcX0) := rfl
theorem kf_Mod_write_135 : mcGet K_Mod_write 135 = (135, false, .aload_n 0, 1, mcX0) := rfl
theorem kf_Mod_write_136 : mcGet K_Mod_write 136 = (136, false, .getfield 41, 3, (10, 12, [933, 1], [])) := rfl
theorem kf_Mod_write_139 : mcGet K_Mod_write 139 = (139, false, .sipush 316, 3, mcX0) := rfl
theorem kf_Mod_write_142 : mcGet K_Mod_write 142 = (142, false, .iload_n 1, 1, mcX0) := rfl
theorem kf_Mod_write_143 : mcGet K_Mod_write 143 = (143, false, .iadd, 1, mcX0) := rfl
theorem kf_Mod_write_144 : mcGet K_Mod_write 144 = (144, false, .aload_n 0, 1, mcX0) := rfl
theorem kf_Mod_write_145 : mcGet K_Mod_write 145 = (145, false, .getfield 41, 3, (10, 12, [933, 1], [])) := rfl
theorem kf_Mod_write_148 : mcGet K_Mod_write 148 = (148, false, .sipush 316, 3, mcX0) := rfl
theorem kf_Mod_write_151 : mcGet K_Mod_write 151 = (151, false, .iload_n 1, 1, mcX0) := rfl
theorem kf_Mod_write_152 : mcGet K_Mod_write 152 = (152, false, .iadd, 1, mcX0) := rfl
theorem kf_Mod_write_153 : mcGet K_Mod_write 153 = (153, false, .iaload, 1, mcX0) := rfl
theorem kf_Mod_write_154 : mcGet K_Mod_write 154 = (154, false, .iload_n 2, 1, mcX0) := rfl
theorem kf_Mod_write_155 : mcGet K_Mod_write 155 = (155, false, .if_icmp .le 16, 3, (171, 0, [], [])) := rfl
theorem kf_Mod_write_158 : mcGet K_Mod_write 158 = (158, false, .aload_n 0, 1, mcX0) := rfl
theorem kf_Mod_write_159 : mcGet K_Mod_write 159 = (159, false, .getfield 41, 3, (10, 12, [933, 1], [])) := rfl
theorem kf_Mod_write_162 : mcGet K_Mod_write 162 = (162, false, .sipush 316, 3, mcX0) := rfl
theorem kf_Mod_write_165 : mcGet K_Mod_write 165 = (165, false, .iload_n 1, 1, mcX0) := rfl
theorem kf_Mod_write_166 : mcGet K_Mod_write 166 = (166, false, .iadd, 1, mcX0) := rfl
theorem kf_Mod_write_167 : mcGet K_Mod_write 167 = (167, false, .iaload, 1, mcX0) := rfl
theorem kf_Mod_write_168 : mcGet K_Mod_write 168 = (168, false, .goto 6, 3, (174, 0, [], [])) := rfl
theorem kf_Mod_write_171 : mcGet K_Mod_write 171 = (171, false, .iload_n 2, 1, mcX0) := rfl
theorem kf_Mod_write_172 : mcGet K_Mod_write 172 = (172, false, .iconst 1, 1, mcX0) := rfl
theorem kf_Mod_write_173 : mcGet K_Mod_write 173 = (173, false, .iadd, 1, mcX0) := rfl
theorem kf_Mod_write_174 : mcGet K_Mod_write 174 = (174, false, .iastore, 1, mcX0) := rfl
theorem kf_Mod_write_175 : mcGet K_Mod_write 175 = (175, false, .aload_n 0, 1, mcX0) := rfl
theorem kf_Mod_write_176 : mcGet K_Mod_write 176 = (176, false, .aload_n 0, 1, mcX0) := rfl
theorem kf_Mod_write_177 : mcGet K_Mod_write 177 = (177, false, .getfield 41, 3, (10, 12, [933, 1], [])) := rfl
theorem kf_Mod_write_180 : mcGet K_Mod_write 180 = (180, false, .sipush 316, 3, mcX0) := rfl
theorem kf_Mod_write_183 : mcGet K_Mod_write 183 = (183, false, .iload_n 1, 1, mcX0) := rfl
theorem kf_Mod_write_184 : mcGet K_Mod_write 184 = (184, false, .iadd, 1, mcX0) := rfl
theorem kf_Mod_write_185 : mcGet K_Mod_write 185 = (185, false, .iaload, 1, mcX0) := rfl
theorem kf_Mod_write_186 : mcGet K_Mod_write 186 = (186, false, .putfield 137, 3, (10, 25, [946, 0], [])) := rfl
theorem kf_Mod_write_189 : mcGet K_Mod_write 189 = (189, false, .iconst 0, 1, mcX0) := rfl
theorem kf_Mod_write_190 : mcGet K_Mod_write 190 = (190, false, .ireturn, 1, mcX0) := rfl
theorem kf_Mod_wrong_0 : mcGet K_Mod_wrong 0 = (0, false, .aload_n 0, 1, mcX0) := rfl
theorem kf_Mod_wrong_1 : mcGet K_Mod_wrong 1 = (1, false, .iconst 0, 1, mcX0) := rfl
theorem kf_Mod_wrong_2 : mcGet K_Mod_wrong 2 = (2, false, .putfield 71, 3, (10, 0, [921, 0], [])) := rfl
theorem kf_Mod_wrong_5 : mcGet K_Mod_wrong 5 = (5, false, .iconst 0, 1, mcX0) := rfl
theorem kf_Mod_wrong_6 : mcGet K_Mod_wrong 6 = (6, false, .ireturn, 1, mcX0) := rfl
