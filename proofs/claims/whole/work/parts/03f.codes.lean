/-! 03.codes d: printed by wip/whole/prog/codes.py -/
theorem kf_Law_boot_0 : mcGet K_Law_boot 0 = (0, false, .aload_n 0, 1, mcX0) := rfl
theorem kf_Law_boot_1 : mcGet K_Law_boot 1 = (1, false, .invokevirtual 40, 3, (9, 1, [840, 841, 52, 843, 842, 1], [M_Srv_boot])) := rfl
theorem kf_Law_boot_4 : mcGet K_Law_boot 4 = (4, false, .goto 6, 3, (10, 0, [], [])) := rfl
theorem kf_Law_boot_7 : mcGet K_Law_boot 7 = (7, false, .astore_n 1, 1, mcX0) := rfl
theorem kf_Law_boot_8 : mcGet K_Law_boot 8 = (8, false, .iconst 1, 1, mcX0) := rfl
theorem kf_Law_boot_9 : mcGet K_Law_boot 9 = (9, false, .ireturn, 1, mcX0) := rfl
theorem kf_Law_boot_10 : mcGet K_Law_boot 10 = (10, false, .iconst 0, 1, mcX0) := rfl
theorem kf_Law_boot_11 : mcGet K_Law_boot 11 = (11, false, .ireturn, 1, mcX0) := rfl
theorem kf_Law_carry_0 : mcGet K_Law_carry 0 = (0, false, .aload_n 3, 1, mcX0) := rfl
theorem kf_Law_carry_1 : mcGet K_Law_carry 1 = (1, false, .iconst 0, 1, mcX0) := rfl
theorem kf_Law_carry_2 : mcGet K_Law_carry 2 = (2, false, .aload_n 0, 1, mcX0) := rfl
theorem kf_Law_carry_3 : mcGet K_Law_carry 3 = (3, false, .iload_n 1, 1, mcX0) := rfl
theorem kf_Law_carry_4 : mcGet K_Law_carry 4 = (4, false, .iload_n 2, 1, mcX0) := rfl
theorem kf_Law_carry_5 : mcGet K_Law_carry 5 = (5, false, .invokevirtual 25, 3, (9, 3, [535, 536, 52, 538, 537, 5], [M_Srv_carry])) := rfl
theorem kf_Law_carry_8 : mcGet K_Law_carry 8 = (8, false, .i2l, 1, mcX0) := rfl
theorem kf_Law_carry_9 : mcGet K_Law_carry 9 = (9, false, .lastore, 1, mcX0) := rfl
theorem kf_Law_carry_10 : mcGet K_Law_carry 10 = (10, false, .goto 7, 3, (17, 0, [], [])) := rfl
theorem kf_Law_carry_13 : mcGet K_Law_carry 13 = (13, false, .astore 4, 2, mcX0) := rfl
theorem kf_Law_carry_15 : mcGet K_Law_carry 15 = (15, false, .iconst 1, 1, mcX0) := rfl
theorem kf_Law_carry_16 : mcGet K_Law_carry 16 = (16, false, .ireturn, 1, mcX0) := rfl
theorem kf_Law_carry_17 : mcGet K_Law_carry 17 = (17, false, .iconst 0, 1, mcX0) := rfl
theorem kf_Law_carry_18 : mcGet K_Law_carry 18 = (18, false, .ireturn, 1, mcX0) := rfl
theorem kf_Law_code_0 : mcGet K_Law_code 0 = (0, false, .aload 4, 2, mcX0) := rfl
theorem kf_Law_code_2 : mcGet K_Law_code 2 = (2, false, .iconst 0, 1, mcX0) := rfl
theorem kf_Law_code_3 : mcGet K_Law_code 3 = (3, false, .aload_n 0, 1, mcX0) := rfl
theorem kf_Law_code_4 : mcGet K_Law_code 4 = (4, false, .iload_n 1, 1, mcX0) := rfl
theorem kf_Law_code_5 : mcGet K_Law_code 5 = (5, false, .iload_n 2, 1, mcX0) := rfl
theorem kf_Law_code_6 : mcGet K_Law_code 6 = (6, false, .iload_n 3, 1, mcX0) := rfl
theorem kf_Law_code_7 : mcGet K_Law_code 7 = (7, false, .invokevirtual 29, 3, (9, 4, [814, 815, 52, 817, 816, 5], [M_Srv_code])) := rfl
theorem kf_Law_code_10 : mcGet K_Law_code 10 = (10, false, .i2l, 1, mcX0) := rfl
theorem kf_Law_code_11 : mcGet K_Law_code 11 = (11, false, .lastore, 1, mcX0) := rfl
theorem kf_Law_code_12 : mcGet K_Law_code 12 = (12, false, .goto 7, 3, (19, 0, [], [])) := rfl
theorem kf_Law_code_15 : mcGet K_Law_code 15 = (15, false, .astore 5, 2, mcX0) := rfl
theorem kf_Law_code_17 : mcGet K_Law_code 17 = (17, false, .iconst 1, 1, mcX0) := rfl
theorem kf_Law_code_18 : mcGet K_Law_code 18 = (18, false, .ireturn, 1, mcX0) := rfl
theorem kf_Law_code_19 : mcGet K_Law_code 19 = (19, false, .iconst 0, 1, mcX0) := rfl
theorem kf_Law_code_20 : mcGet K_Law_code 20 = (20, false, .ireturn, 1, mcX0) := rfl
theorem kf_Law_handle_0 : mcGet K_Law_handle 0 = (0, false, .aload_n 3, 1, mcX0) := rfl
theorem kf_Law_handle_1 : mcGet K_Law_handle 1 = (1, false, .iconst 0, 1, mcX0) := rfl
theorem kf_Law_handle_2 : mcGet K_Law_handle 2 = (2, false, .aload_n 0, 1, mcX0) := rfl
theorem kf_Law_handle_3 : mcGet K_Law_handle 3 = (3, false, .iload_n 1, 1, mcX0) := rfl
theorem kf_Law_handle_4 : mcGet K_Law_handle 4 = (4, false, .iload_n 2, 1, mcX0) := rfl
theorem kf_Law_handle_5 : mcGet K_Law_handle 5 = (5, false, .invokevirtual 49, 3, (9, 3, [888, 889, 52, 891, 890, 3], [M_Srv_handle])) := rfl
theorem kf_Law_handle_8 : mcGet K_Law_handle 8 = (8, false, .i2l, 1, mcX0) := rfl
theorem kf_Law_handle_9 : mcGet K_Law_handle 9 = (9, false, .lastore, 1, mcX0) := rfl
theorem kf_Law_handle_10 : mcGet K_Law_handle 10 = (10, false, .goto 7, 3, (17, 0, [], [])) := rfl
theorem kf_Law_handle_13 : mcGet K_Law_handle 13 = (13, false, .astore 4, 2, mcX0) := rfl
theorem kf_Law_handle_15 : mcGet K_Law_handle 15 = (15, false, .iconst 1, 1, mcX0) := rfl
theorem kf_Law_handle_16 : mcGet K_Law_handle 16 = (16, false, .ireturn, 1, mcX0) := rfl
theorem kf_Law_handle_17 : mcGet K_Law_handle 17 = (17, false, .iconst 0, 1, mcX0) := rfl
theorem kf_Law_handle_18 : mcGet K_Law_handle 18 = (18, false, .ireturn, 1, mcX0) := rfl
theorem kf_Law_law_0 : mcGet K_Law_law 0 = (0, false, .new 8, 3, (9, 3, [71, 72, 52], [])) := rfl
theorem kf_Law_law_3 : mcGet K_Law_law 3 = (3, false, .dup, 1, mcX0) := rfl
theorem kf_Law_law_4 : mcGet K_Law_law 4 = (4, false, .invokespecial 58, 3, (9, 1, [73, 74, 52, 75], [M_Srv_init])) := rfl
theorem kf_Law_law_7 : mcGet K_Law_law 7 = (7, false, .astore_n 1, 1, mcX0) := rfl
theorem kf_Law_law_8 : mcGet K_Law_law 8 = (8, false, .new 59, 3, (10, 26, [915, 916, 63], [])) := rfl
theorem kf_Law_law_16 : mcGet K_Law_law 16 = (16, false, .iconst 1, 1, mcX0) := rfl
theorem kf_Law_law_17 : mcGet K_Law_law 17 = (17, false, .newarray .long, 2, (1, 0, [194], [])) := rfl
theorem kf_Law_law_19 : mcGet K_Law_law 19 = (19, false, .astore_n 3, 1, mcX0) := rfl
theorem kf_Law_law_20 : mcGet K_Law_law 20 = (20, false, .iconst 0, 1, mcX0) := rfl
theorem kf_Law_law_21 : mcGet K_Law_law 21 = (21, false, .istore 4, 2, mcX0) := rfl
theorem kf_Law_law_23 : mcGet K_Law_law 23 = (23, true, .iload 4, 2, mcX0) := rfl
theorem kf_Law_law_25 : mcGet K_Law_law 25 = (25, false, .aload_n 0, 1, mcX0) := rfl
theorem kf_Law_law_26 : mcGet K_Law_law 26 = (26, false, .arraylength, 1, mcX0) := rfl
theorem kf_Law_law_27 : mcGet K_Law_law 27 = (27, false, .bipush 8, 2, mcX0) := rfl
theorem kf_Law_law_29 : mcGet K_Law_law 29 = (29, false, .isub, 1, mcX0) := rfl
theorem kf_Law_law_30 : mcGet K_Law_law 30 = (30, false, .if_icmp .gt 1023, 3, (1053, 0, [], [])) := rfl
theorem kf_Law_law_33 : mcGet K_Law_law 33 = (33, false, .aload_n 0, 1, mcX0) := rfl
theorem kf_Law_law_34 : mcGet K_Law_law 34 = (34, false, .iload 4, 2, mcX0) := rfl
theorem kf_Law_law_36 : mcGet K_Law_law 36 = (36, false, .iaload, 1, mcX0) := rfl
theorem kf_Law_law_37 : mcGet K_Law_law 37 = (37, false, .bipush 15, 2, mcX0) := rfl
theorem kf_Law_law_39 : mcGet K_Law_law 39 = (39, false, .iand, 1, mcX0) := rfl
theorem kf_Law_law_40 : mcGet K_Law_law 40 = (40, false, .tableswitch 1007 0 15 #[80, 136, 268, 336, 420, 500, 580, 616, 640, 696, 709, 722, 790, 858, 938, 994], 80, (1047, 0, [120, 176, 308, 376, 460, 540, 620, 656, 680, 736, 749, 762, 830, 898, 978, 1034], [])) := rfl
theorem kf_Law_law_120 : mcGet K_Law_law 120 = (120, false, .aload_n 1, 1, mcX0) := rfl
theorem kf_Law_law_121 : mcGet K_Law_law 121 = (121, false, .aload_n 0, 1, mcX0) := rfl
theorem kf_Law_law_122 : mcGet K_Law_law 122 = (122, false, .iload 4, 2, mcX0) := rfl
theorem kf_Law_law_124 : mcGet K_Law_law 124 = (124, false, .iconst 1, 1, mcX0) := rfl
theorem kf_Law_law_125 : mcGet K_Law_law 125 = (125, false, .iadd, 1, mcX0) := rfl
theorem kf_Law_law_126 : mcGet K_Law_law 126 = (126, false, .iaload, 1, mcX0) := rfl
theorem kf_Law_law_127 : mcGet K_Law_law 127 = (127, false, .aload_n 3, 1, mcX0) := rfl
theorem kf_Law_law_128 : mcGet K_Law_law 128 = (128, false, .invokestatic 62, 3, (0, 3, [386, 387, 51, 388, 0, 4], [M_Law_start])) := rfl
theorem kf_Law_law_131 : mcGet K_Law_law 131 = (131, false, .istore 5, 2, mcX0) := rfl
theorem kf_Law_law_133 : mcGet K_Law_law 133 = (133, false, .aload_n 2, 1, mcX0) := rfl
theorem kf_Law_law_134 : mcGet K_Law_law 134 = (134, false, .aload_n 0, 1, mcX0) := rfl
theorem kf_Law_law_135 : mcGet K_Law_law 135 = (135, false, .iload 4, 2, mcX0) := rfl
theorem kf_Law_law_137 : mcGet K_Law_law 137 = (137, false, .iconst 1, 1, mcX0) := rfl
theorem kf_Law_law_138 : mcGet K_Law_law 138 = (138, false, .iadd, 1, mcX0) := rfl
theorem kf_Law_law_139 : mcGet K_Law_law 139 = (139, false, .iaload, 1, mcX0) := rfl
theorem kf_Law_law_140 : mcGet K_Law_law 140 = (140, false, .invokevirtual 67, 3, (10, 2, [1006, 1007, 63, 1009, 1008, 4], [M_Mod_start])) := rfl
theorem kf_Law_law_143 : mcGet K_Law_law 143 = (143, false, .istore 6, 2, mcX0) := rfl
theorem kf_Law_law_145 : mcGet K_Law_law 145 = (145, false, .aload_n 2, 1, mcX0) := rfl
theorem kf_Law_law_146 : mcGet K_Law_law 146 = (146, false, .invokevirtual 68, 3, (10, 1, [1002, 1003, 63, 1005, 1004, 1], [M_Mod_thrown])) := rfl
theorem kf_Law_law_149 : mcGet K_Law_law 149 = (149, false, .iload 5, 2, mcX0) := rfl
theorem kf_Law_law_151 : mcGet K_Law_law 151 = (151, false, .if_icmp .eq 5, 3, (156, 0, [], [])) := rfl
theorem kf_Law_law_154 : mcGet K_Law_law 154 = (154, false, .iconst 0, 1, mcX0) := rfl
theorem kf_Law_law_155 : mcGet K_Law_law 155 = (155, false, .ireturn, 1, (1, 0, [], [])) := rfl
theorem kf_Law_law_156 : mcGet K_Law_law 156 = (156, false, .iload 5, 2, mcX0) := rfl
theorem kf_Law_law_158 : mcGet K_Law_law 158 = (158, false, .ifCond .ne 15, 3, (173, 0, [], [])) := rfl
theorem kf_Law_law_161 : mcGet K_Law_law 161 = (161, false, .aload_n 3, 1, mcX0) := rfl
theorem kf_Law_law_162 : mcGet K_Law_law 162 = (162, false, .iconst 0, 1, mcX0) := rfl
theorem kf_Law_law_163 : mcGet K_Law_law 163 = (163, false, .laload, 1, mcX0) := rfl
theorem kf_Law_law_164 : mcGet K_Law_law 164 = (164, false, .iload 6, 2, mcX0) := rfl
theorem kf_Law_law_166 : mcGet K_Law_law 166 = (166, false, .i2l, 1, mcX0) := rfl
theorem kf_Law_law_167 : mcGet K_Law_law 167 = (167, false, .lcmp, 1, mcX0) := rfl
theorem kf_Law_law_168 : mcGet K_Law_law 168 = (168, false, .ifCond .eq 5, 3, (173, 0, [], [])) := rfl
theorem kf_Law_law_171 : mcGet K_Law_law 171 = (171, false, .iconst 0, 1, mcX0) := rfl
theorem kf_Law_law_172 : mcGet K_Law_law 172 = (172, false, .ireturn, 1, (1, 0, [], [])) := rfl
theorem kf_Law_law_173 : mcGet K_Law_law 173 = (173, false, .goto 874, 3, (1047, 0, [], [])) := rfl
theorem kf_Law_law_176 : mcGet K_Law_law 176 = (176, false, .aload_n 1, 1, mcX0) := rfl
theorem kf_Law_law_177 : mcGet K_Law_law 177 = (177, false, .aload_n 0, 1, mcX0) := rfl
theorem kf_Law_law_178 : mcGet K_Law_law 178 = (178, false, .iload 4, 2, mcX0) := rfl
theorem kf_Law_law_180 : mcGet K_Law_law 180 = (180, false, .iconst 1, 1, mcX0) := rfl
theorem kf_Law_law_181 : mcGet K_Law_law 181 = (181, false, .iadd, 1, mcX0) := rfl
theorem kf_Law_law_182 : mcGet K_Law_law 182 = (182, false, .iaload, 1, mcX0) := rfl
theorem kf_Law_law_183 : mcGet K_Law_law 183 = (183, false, .aload_n 0, 1, mcX0) := rfl
theorem kf_Law_law_184 : mcGet K_Law_law 184 = (184, false, .iload 4, 2, mcX0) := rfl
theorem kf_Law_law_186 : mcGet K_Law_law 186 = (186, false, .iconst 2, 1, mcX0) := rfl
theorem kf_Law_law_187 : mcGet K_Law_law 187 = (187, false, .iadd, 1, mcX0) := rfl
theorem kf_Law_law_188 : mcGet K_Law_law 188 = (188, false, .iaload, 1, mcX0) := rfl
theorem kf_Law_law_189 : mcGet K_Law_law 189 = (189, false, .aload_n 0, 1, mcX0) := rfl
theorem kf_Law_law_190 : mcGet K_Law_law 190 = (190, false, .iload 4, 2, mcX0) := rfl
theorem kf_Law_law_192 : mcGet K_Law_law 192 = (192, false, .iconst 3, 1, mcX0) := rfl
theorem kf_Law_law_193 : mcGet K_Law_law 193 = (193, false, .iadd, 1, mcX0) := rfl
theorem kf_Law_law_194 : mcGet K_Law_law 194 = (194, false, .iaload, 1, mcX0) := rfl
theorem kf_Law_law_195 : mcGet K_Law_law 195 = (195, false, .aload_n 0, 1, mcX0) := rfl
theorem kf_Law_law_196 : mcGet K_Law_law 196 = (196, false, .iload 4, 2, mcX0) := rfl
theorem kf_Law_law_198 : mcGet K_Law_law 198 = (198, false, .iconst 4, 1, mcX0) := rfl
theorem kf_Law_law_199 : mcGet K_Law_law 199 = (199, false, .iadd, 1, mcX0) := rfl
theorem kf_Law_law_200 : mcGet K_Law_law 200 = (200, false, .iaload, 1, mcX0) := rfl
theorem kf_Law_law_201 : mcGet K_Law_law 201 = (201, false, .aload_n 0, 1, mcX0) := rfl
theorem kf_Law_law_202 : mcGet K_Law_law 202 = (202, false, .iload 4, 2, mcX0) := rfl
theorem kf_Law_law_204 : mcGet K_Law_law 204 = (204, false, .iconst 5, 1, mcX0) := rfl
theorem kf_Law_law_205 : mcGet K_Law_law 205 = (205, false, .iadd, 1, mcX0) := rfl
theorem kf_Law_law_206 : mcGet K_Law_law 206 = (206, false, .iaload, 1, mcX0) := rfl
theorem kf_Law_law_207 : mcGet K_Law_law 207 = (207, false, .aload_n 0, 1, mcX0) := rfl
theorem kf_Law_law_208 : mcGet K_Law_law 208 = (208, false, .iload 4, 2, mcX0) := rfl
theorem kf_Law_law_210 : mcGet K_Law_law 210 = (210, false, .bipush 6, 2, mcX0) := rfl
theorem kf_Law_law_212 : mcGet K_Law_law 212 = (212, false, .iadd, 1, mcX0) := rfl
theorem kf_Law_law_213 : mcGet K_Law_law 213 = (213, false, .iaload, 1, mcX0) := rfl
theorem kf_Law_law_214 : mcGet K_Law_law 214 = (214, false, .aload_n 0, 1, mcX0) := rfl
theorem kf_Law_law_215 : mcGet K_Law_law 215 = (215, false, .iload 4, 2, mcX0) := rfl
theorem kf_Law_law_217 : mcGet K_Law_law 217 = (217, false, .bipush 7, 2, mcX0) := rfl
theorem kf_Law_law_219 : mcGet K_Law_law 219 = (219, false, .iadd, 1, mcX0) := rfl
theorem kf_Law_law_220 : mcGet K_Law_law 220 = (220, false, .iaload, 1, mcX0) := rfl
theorem kf_Law_law_221 : mcGet K_Law_law 221 = (221, false, .aload_n 3, 1, mcX0) := rfl
theorem kf_Law_law_222 : mcGet K_Law_law 222 = (222, false, .invokestatic 72, 3, (0, 9, [470, 471, 51, 472, 0, 10], [M_Law_step])) := rfl
theorem kf_Law_law_225 : mcGet K_Law_law 225 = (225, false, .istore 5, 2, mcX0) := rfl
theorem kf_Law_law_227 : mcGet K_Law_law 227 = (227, false, .aload_n 2, 1, mcX0) := rfl
theorem kf_Law_law_228 : mcGet K_Law_law 228 = (228, false, .aload_n 0, 1, mcX0) := rfl
theorem kf_Law_law_229 : mcGet K_Law_law 229 = (229, false, .iload 4, 2, mcX0) := rfl
theorem kf_Law_law_231 : mcGet K_Law_law 231 = (231, false, .iconst 1, 1, mcX0) := rfl
theorem kf_Law_law_232 : mcGet K_Law_law 232 = (232, false, .iadd, 1, mcX0) := rfl
theorem kf_Law_law_233 : mcGet K_Law_law 233 = (233, false, .iaload, 1, mcX0) := rfl
theorem kf_Law_law_234 : mcGet K_Law_law 234 = (234, false, .aload_n 0, 1, mcX0) := rfl
theorem kf_Law_law_235 : mcGet K_Law_law 235 = (235, false, .iload 4, 2, mcX0) := rfl
theorem kf_Law_law_237 : mcGet K_Law_law 237 = (237, false, .iconst 2, 1, mcX0) := rfl
theorem kf_Law_law_238 : mcGet K_Law_law 238 = (238, false, .iadd, 1, mcX0) := rfl
theorem kf_Law_law_239 : mcGet K_Law_law 239 = (239, false, .iaload, 1, mcX0) := rfl
theorem kf_Law_law_240 : mcGet K_Law_law 240 = (240, false, .aload_n 0, 1, mcX0) := rfl
theorem kf_Law_law_241 : mcGet K_Law_law 241 = (241, false, .iload 4, 2, mcX0) := rfl
theorem kf_Law_law_243 : mcGet K_Law_law 243 = (243, false, .iconst 3, 1, mcX0) := rfl
theorem kf_Law_law_244 : mcGet K_Law_law 244 = (244, false, .iadd, 1, mcX0) := rfl
theorem kf_Law_law_245 : mcGet K_Law_law 245 = (245, false, .iaload, 1, mcX0) := rfl
theorem kf_Law_law_246 : mcGet K_Law_law 246 = (246, false, .aload_n 0, 1, mcX0) := rfl
theorem kf_Law_law_247 : mcGet K_Law_law 247 = (247, false, .iload 4, 2, mcX0) := rfl
theorem kf_Law_law_249 : mcGet K_Law_law 249 = (249, false, .iconst 4, 1, mcX0) := rfl
theorem kf_Law_law_250 : mcGet K_Law_law 250 = (250, false, .iadd, 1, mcX0) := rfl
theorem kf_Law_law_251 : mcGet K_Law_law 251 = (251, false, .iaload, 1, mcX0) := rfl
theorem kf_Law_law_252 : mcGet K_Law_law 252 = (252, false, .aload_n 0, 1, mcX0) := rfl
theorem kf_Law_law_253 : mcGet K_Law_law 253 = (253, false, .iload 4, 2, mcX0) := rfl
theorem kf_Law_law_255 : mcGet K_Law_law 255 = (255, false, .iconst 5, 1, mcX0) := rfl
theorem kf_Law_law_256 : mcGet K_Law_law 256 = (256, false, .iadd, 1, mcX0) := rfl
theorem kf_Law_law_257 : mcGet K_Law_law 257 = (257, false, .iaload, 1, mcX0) := rfl
theorem kf_Law_law_258 : mcGet K_Law_law 258 = (258, false, .aload_n 0, 1, mcX0) := rfl
theorem kf_Law_law_259 : mcGet K_Law_law 259 = (259, false, .iload 4, 2, mcX0) := rfl
theorem kf_Law_law_261 : mcGet K_Law_law 261 = (261, false, .bipush 6, 2, mcX0) := rfl
theorem kf_Law_law_263 : mcGet K_Law_law 263 = (263, false, .iadd, 1, mcX0) := rfl
theorem kf_Law_law_264 : mcGet K_Law_law 264 = (264, false, .iaload, 1, mcX0) := rfl
theorem kf_Law_law_265 : mcGet K_Law_law 265 = (265, false, .aload_n 0, 1, mcX0) := rfl
theorem kf_Law_law_266 : mcGet K_Law_law 266 = (266, false, .iload 4, 2, mcX0) := rfl
theorem kf_Law_law_268 : mcGet K_Law_law 268 = (268, false, .bipush 7, 2, mcX0) := rfl
theorem kf_Law_law_270 : mcGet K_Law_law 270 = (270, false, .iadd, 1, mcX0) := rfl
theorem kf_Law_law_271 : mcGet K_Law_law 271 = (271, false, .iaload, 1, mcX0) := rfl
theorem kf_Law_law_272 : mcGet K_Law_law 272 = (272, false, .invokevirtual 75, 3, (10, 8, [1017, 1018, 63, 1020, 1019, 11], [M_Mod_step])) := rfl
theorem kf_Law_law_275 : mcGet K_Law_law 275 = (275, false, .istore 6, 2, mcX0) := rfl
theorem kf_Law_law_277 : mcGet K_Law_law 277 = (277, false, .aload_n 2, 1, mcX0) := rfl
theorem kf_Law_law_278 : mcGet K_Law_law 278 = (278, false, .invokevirtual 68, 3, (10, 1, [1002, 1003, 63, 1005, 1004, 1], [M_Mod_thrown])) := rfl
theorem kf_Law_law_281 : mcGet K_Law_law 281 = (281, false, .iload 5, 2, mcX0) := rfl
theorem kf_Law_law_283 : mcGet K_Law_law 283 = (283, false, .if_icmp .eq 5, 3, (288, 0, [], [])) := rfl
theorem kf_Law_law_286 : mcGet K_Law_law 286 = (286, false, .iconst 0, 1, mcX0) := rfl
theorem kf_Law_law_287 : mcGet K_Law_law 287 = (287, false, .ireturn, 1, (1, 0, [], [])) := rfl
theorem kf_Law_law_288 : mcGet K_Law_law 288 = (288, false, .iload 5, 2, mcX0) := rfl
theorem kf_Law_law_290 : mcGet K_Law_law 290 = (290, false, .ifCond .ne 15, 3, (305, 0, [], [])) := rfl
theorem kf_Law_law_293 : mcGet K_Law_law 293 = (293, false, .aload_n 3, 1, mcX0) := rfl
theorem kf_Law_law_294 : mcGet K_Law_law 294 = (294, false, .iconst 0, 1, mcX0) := rfl
theorem kf_Law_law_295 : mcGet K_Law_law 295 = (295, false, .laload, 1, mcX0) := rfl
theorem kf_Law_law_296 : mcGet K_Law_law 296 = (296, false, .iload 6, 2, mcX0) := rfl
theorem kf_Law_law_298 : mcGet K_Law_law 298 = (298, false, .i2l, 1, mcX0) := rfl
theorem kf_Law_law_299 : mcGet K_Law_law 299 = (299, false, .lcmp, 1, mcX0) := rfl
theorem kf_Law_law_300 : mcGet K_Law_law 300 = (300, false, .ifCond .eq 5, 3, (305, 0, [], [])) := rfl
theorem kf_Law_law_303 : mcGet K_Law_law 303 = (303, false, .iconst 0, 1, mcX0) := rfl
theorem kf_Law_law_304 : mcGet K_Law_law 304 = (304, false, .ireturn, 1, (1, 0, [], [])) := rfl
theorem kf_Law_law_305 : mcGet K_Law_law 305 = (305, false, .goto 742, 3, (1047, 0, [], [])) := rfl
theorem kf_Law_law_308 : mcGet K_Law_law 308 = (308, false, .aload_n 1, 1, mcX0) := rfl
theorem kf_Law_law_309 : mcGet K_Law_law 309 = (309, false, .aload_n 0, 1, mcX0) := rfl
theorem kf_Law_law_310 : mcGet K_Law_law 310 = (310, false, .iload 4, 2, mcX0) := rfl
theorem kf_Law_law_312 : mcGet K_Law_law 312 = (312, false, .iconst 1, 1, mcX0) := rfl
theorem kf_Law_law_313 : mcGet K_Law_law 313 = (313, false, .iadd, 1, mcX0) := rfl
theorem kf_Law_law_314 : mcGet K_Law_law 314 = (314, false, .iaload, 1, mcX0) := rfl
theorem kf_Law_law_315 : mcGet K_Law_law 315 = (315, false, .aload_n 0, 1, mcX0) := rfl
theorem kf_Law_law_316 : mcGet K_Law_law 316 = (316, false, .iload 4, 2, mcX0) := rfl
theorem kf_Law_law_318 : mcGet K_Law_law 318 = (318, false, .iconst 2, 1, mcX0) := rfl
theorem kf_Law_law_319 : mcGet K_Law_law 319 = (319, false, .iadd, 1, mcX0) := rfl
theorem kf_Law_law_320 : mcGet K_Law_law 320 = (320, false, .iaload, 1, mcX0) := rfl
theorem kf_Law_law_321 : mcGet K_Law_law 321 = (321, false, .aload_n 3, 1, mcX0) := rfl
theorem kf_Law_law_322 : mcGet K_Law_law 322 = (322, false, .invokestatic 76, 3, (0, 4, [510, 511, 51, 512, 0, 5], [M_Law_send])) := rfl
theorem kf_Law_law_325 : mcGet K_Law_law 325 = (325, false, .istore 5, 2, mcX0) := rfl
theorem kf_Law_law_327 : mcGet K_Law_law 327 = (327, false, .aload_n 2, 1, mcX0) := rfl
theorem kf_Law_law_328 : mcGet K_Law_law 328 = (328, false, .aload_n 0, 1, mcX0) := rfl
theorem kf_Law_law_329 : mcGet K_Law_law 329 = (329, false, .iload 4, 2, mcX0) := rfl
theorem kf_Law_law_331 : mcGet K_Law_law 331 = (331, false, .iconst 1, 1, mcX0) := rfl
theorem kf_Law_law_332 : mcGet K_Law_law 332 = (332, false, .iadd, 1, mcX0) := rfl
theorem kf_Law_law_333 : mcGet K_Law_law 333 = (333, false, .iaload, 1, mcX0) := rfl
theorem kf_Law_law_334 : mcGet K_Law_law 334 = (334, false, .aload_n 0, 1, mcX0) := rfl
theorem kf_Law_law_335 : mcGet K_Law_law 335 = (335, false, .iload 4, 2, mcX0) := rfl
theorem kf_Law_law_337 : mcGet K_Law_law 337 = (337, false, .iconst 2, 1, mcX0) := rfl
theorem kf_Law_law_338 : mcGet K_Law_law 338 = (338, false, .iadd, 1, mcX0) := rfl
theorem kf_Law_law_339 : mcGet K_Law_law 339 = (339, false, .iaload, 1, mcX0) := rfl
theorem kf_Law_law_340 : mcGet K_Law_law 340 = (340, false, .invokevirtual 79, 3, (10, 3, [1024, 1025, 63, 1027, 1026, 7], [M_Mod_send])) := rfl
theorem kf_Law_law_343 : mcGet K_Law_law 343 = (343, false, .istore 6, 2, mcX0) := rfl
theorem kf_Law_law_345 : mcGet K_Law_law 345 = (345, false, .aload_n 2, 1, mcX0) := rfl
theorem kf_Law_law_346 : mcGet K_Law_law 346 = (346, false, .invokevirtual 68, 3, (10, 1, [1002, 1003, 63, 1005, 1004, 1], [M_Mod_thrown])) := rfl
theorem kf_Law_law_349 : mcGet K_Law_law 349 = (349, false, .iload 5, 2, mcX0) := rfl
theorem kf_Law_law_351 : mcGet K_Law_law 351 = (351, false, .if_icmp .eq 5, 3, (356, 0, [], [])) := rfl
theorem kf_Law_law_354 : mcGet K_Law_law 354 = (354, false, .iconst 0, 1, mcX0) := rfl
theorem kf_Law_law_355 : mcGet K_Law_law 355 = (355, false, .ireturn, 1, (1, 0, [], [])) := rfl
theorem kf_Law_law_356 : mcGet K_Law_law 356 = (356, false, .iload 5, 2, mcX0) := rfl
theorem kf_Law_law_358 : mcGet K_Law_law 358 = (358, false, .ifCond .ne 15, 3, (373, 0, [], [])) := rfl
theorem kf_Law_law_361 : mcGet K_Law_law 361 = (361, false, .aload_n 3, 1, mcX0) := rfl
theorem kf_Law_law_362 : mcGet K_Law_law 362 = (362, false, .iconst 0, 1, mcX0) := rfl
theorem kf_Law_law_363 : mcGet K_Law_law 363 = (363, false, .laload, 1, mcX0) := rfl
theorem kf_Law_law_364 : mcGet K_Law_law 364 = (364, false, .iload 6, 2, mcX0) := rfl
theorem kf_Law_law_366 : mcGet K_Law_law 366 = (366, false, .i2l, 1, mcX0) := rfl
theorem kf_Law_law_367 : mcGet K_Law_law 367 = (367, false, .lcmp, 1, mcX0) := rfl
theorem kf_Law_law_368 : mcGet K_Law_law 368 = (368, false, .ifCond .eq 5, 3, (373, 0, [], [])) := rfl
theorem kf_Law_law_371 : mcGet K_Law_law 371 = (371, false, .iconst 0, 1, mcX0) := rfl
theorem kf_Law_law_372 : mcGet K_Law_law 372 = (372, false, .ireturn, 1, (1, 0, [], [])) := rfl
theorem kf_Law_law_373 : mcGet K_Law_law 373 = (373, false, .goto 674, 3, (1047, 0, [], [])) := rfl
theorem kf_Law_law_376 : mcGet K_Law_law 376 = (376, false, .aload_n 1, 1, mcX0) := rfl
theorem kf_Law_law_377 : mcGet K_Law_law 377 = (377, false, .aload_n 0, 1, mcX0) := rfl
theorem kf_Law_law_378 : mcGet K_Law_law 378 = (378, false, .iload 4, 2, mcX0) := rfl
theorem kf_Law_law_380 : mcGet K_Law_law 380 = (380, false, .iconst 1, 1, mcX0) := rfl
theorem kf_Law_law_381 : mcGet K_Law_law 381 = (381, false, .iadd, 1, mcX0) := rfl
theorem kf_Law_law_382 : mcGet K_Law_law 382 = (382, false, .iaload, 1, mcX0) := rfl
theorem kf_Law_law_383 : mcGet K_Law_law 383 = (383, false, .aload_n 0, 1, mcX0) := rfl
theorem kf_Law_law_384 : mcGet K_Law_law 384 = (384, false, .iload 4, 2, mcX0) := rfl
theorem kf_Law_law_386 : mcGet K_Law_law 386 = (386, false, .iconst 2, 1, mcX0) := rfl
theorem kf_Law_law_387 : mcGet K_Law_law 387 = (387, false, .iadd, 1, mcX0) := rfl
theorem kf_Law_law_388 : mcGet K_Law_law 388 = (388, false, .iaload, 1, mcX0) := rfl
theorem kf_Law_law_389 : mcGet K_Law_law 389 = (389, false, .ifCond .eq 7, 3, (396, 0, [], [])) := rfl
theorem kf_Law_law_392 : mcGet K_Law_law 392 = (392, false, .iconst 1, 1, mcX0) := rfl
theorem kf_Law_law_393 : mcGet K_Law_law 393 = (393, false, .goto 4, 3, (397, 0, [], [])) := rfl
theorem kf_Law_law_396 : mcGet K_Law_law 396 = (396, false, .iconst 0, 1, mcX0) := rfl
theorem kf_Law_law_397 : mcGet K_Law_law 397 = (397, false, .aload_n 3, 1, mcX0) := rfl
theorem kf_Law_law_398 : mcGet K_Law_law 398 = (398, false, .invokestatic 80, 3, (0, 4, [532, 533, 51, 534, 0, 5], [M_Law_carry])) := rfl
theorem kf_Law_law_401 : mcGet K_Law_law 401 = (401, false, .istore 5, 2, mcX0) := rfl
theorem kf_Law_law_403 : mcGet K_Law_law 403 = (403, false, .aload_n 2, 1, mcX0) := rfl
theorem kf_Law_law_404 : mcGet K_Law_law 404 = (404, false, .aload_n 0, 1, mcX0) := rfl
theorem kf_Law_law_405 : mcGet K_Law_law 405 = (405, false, .iload 4, 2, mcX0) := rfl
theorem kf_Law_law_407 : mcGet K_Law_law 407 = (407, false, .iconst 1, 1, mcX0) := rfl
theorem kf_Law_law_408 : mcGet K_Law_law 408 = (408, false, .iadd, 1, mcX0) := rfl
theorem kf_Law_law_409 : mcGet K_Law_law 409 = (409, false, .iaload, 1, mcX0) := rfl
theorem kf_Law_law_410 : mcGet K_Law_law 410 = (410, false, .aload_n 0, 1, mcX0) := rfl
theorem kf_Law_law_411 : mcGet K_Law_law 411 = (411, false, .iload 4, 2, mcX0) := rfl
theorem kf_Law_law_413 : mcGet K_Law_law 413 = (413, false, .iconst 2, 1, mcX0) := rfl
theorem kf_Law_law_414 : mcGet K_Law_law 414 = (414, false, .iadd, 1, mcX0) := rfl
theorem kf_Law_law_415 : mcGet K_Law_law 415 = (415, false, .iaload, 1, mcX0) := rfl
theorem kf_Law_law_416 : mcGet K_Law_law 416 = (416, false, .ifCond .eq 7, 3, (423, 0, [], [])) := rfl
theorem kf_Law_law_419 : mcGet K_Law_law 419 = (419, false, .iconst 1, 1, mcX0) := rfl
theorem kf_Law_law_420 : mcGet K_Law_law 420 = (420, false, .goto 4, 3, (424, 0, [], [])) := rfl
theorem kf_Law_law_423 : mcGet K_Law_law 423 = (423, false, .iconst 0, 1, mcX0) := rfl
theorem kf_Law_law_424 : mcGet K_Law_law 424 = (424, false, .invokevirtual 83, 3, (10, 3, [1040, 1041, 63, 1043, 1042, 13], [M_Mod_carry])) := rfl
theorem kf_Law_law_427 : mcGet K_Law_law 427 = (427, false, .istore 6, 2, mcX0) := rfl
theorem kf_Law_law_429 : mcGet K_Law_law 429 = (429, false, .aload_n 2, 1, mcX0) := rfl
theorem kf_Law_law_430 : mcGet K_Law_law 430 = (430, false, .invokevirtual 68, 3, (10, 1, [1002, 1003, 63, 1005, 1004, 1], [M_Mod_thrown])) := rfl
theorem kf_Law_law_433 : mcGet K_Law_law 433 = (433, false, .iload 5, 2, mcX0) := rfl
theorem kf_Law_law_435 : mcGet K_Law_law 435 = (435, false, .if_icmp .eq 5, 3, (440, 0, [], [])) := rfl
theorem kf_Law_law_438 : mcGet K_Law_law 438 = (438, false, .iconst 0, 1, mcX0) := rfl
theorem kf_Law_law_439 : mcGet K_Law_law 439 = (439, false, .ireturn, 1, (1, 0, [], [])) := rfl
theorem kf_Law_law_440 : mcGet K_Law_law 440 = (440, false, .iload 5, 2, mcX0) := rfl
theorem kf_Law_law_442 : mcGet K_Law_law 442 = (442, false, .ifCond .ne 15, 3, (457, 0, [], [])) := rfl
theorem kf_Law_law_445 : mcGet K_Law_law 445 = (445, false, .aload_n 3, 1, mcX0) := rfl
theorem kf_Law_law_446 : mcGet K_Law_law 446 = (446, false, .iconst 0, 1, mcX0) := rfl
theorem kf_Law_law_447 : mcGet K_Law_law 447 = (447, false, .laload, 1, mcX0) := rfl
theorem kf_Law_law_448 : mcGet K_Law_law 448 = (448, false, .iload 6, 2, mcX0) := rfl
theorem kf_Law_law_450 : mcGet K_Law_law 450 = (450, false, .i2l, 1, mcX0) := rfl
theorem kf_Law_law_451 : mcGet K_Law_law 451 = (451, false, .lcmp, 1, mcX0) := rfl
theorem kf_Law_law_452 : mcGet K_Law_law 452 = (452, false, .ifCond .eq 5, 3, (457, 0, [], [])) := rfl
theorem kf_Law_law_455 : mcGet K_Law_law 455 = (455, false, .iconst 0, 1, mcX0) := rfl
theorem kf_Law_law_456 : mcGet K_Law_law 456 = (456, false, .ireturn, 1, (1, 0, [], [])) := rfl
theorem kf_Law_law_457 : mcGet K_Law_law 457 = (457, false, .goto 590, 3, (1047, 0, [], [])) := rfl
theorem kf_Law_law_460 : mcGet K_Law_law 460 = (460, false, .aload_n 1, 1, mcX0) := rfl
theorem kf_Law_law_461 : mcGet K_Law_law 461 = (461, false, .aload_n 0, 1, mcX0) := rfl
theorem kf_Law_law_462 : mcGet K_Law_law 462 = (462, false, .iload 4, 2, mcX0) := rfl
theorem kf_Law_law_464 : mcGet K_Law_law 464 = (464, false, .iconst 1, 1, mcX0) := rfl
theorem kf_Law_law_465 : mcGet K_Law_law 465 = (465, false, .iadd, 1, mcX0) := rfl
theorem kf_Law_law_466 : mcGet K_Law_law 466 = (466, false, .iaload, 1, mcX0) := rfl
theorem kf_Law_law_467 : mcGet K_Law_law 467 = (467, false, .aload_n 0, 1, mcX0) := rfl
theorem kf_Law_law_468 : mcGet K_Law_law 468 = (468, false, .iload 4, 2, mcX0) := rfl
theorem kf_Law_law_470 : mcGet K_Law_law 470 = (470, false, .iconst 2, 1, mcX0) := rfl
theorem kf_Law_law_471 : mcGet K_Law_law 471 = (471, false, .iadd, 1, mcX0) := rfl
theorem kf_Law_law_472 : mcGet K_Law_law 472 = (472, false, .iaload, 1, mcX0) := rfl
theorem kf_Law_law_473 : mcGet K_Law_law 473 = (473, false, .aload_n 0, 1, mcX0) := rfl
theorem kf_Law_law_474 : mcGet K_Law_law 474 = (474, false, .iload 4, 2, mcX0) := rfl
theorem kf_Law_law_476 : mcGet K_Law_law 476 = (476, false, .iconst 3, 1, mcX0) := rfl
theorem kf_Law_law_477 : mcGet K_Law_law 477 = (477, false, .iadd, 1, mcX0) := rfl
theorem kf_Law_law_478 : mcGet K_Law_law 478 = (478, false, .iaload, 1, mcX0) := rfl
theorem kf_Law_law_479 : mcGet K_Law_law 479 = (479, false, .aload_n 3, 1, mcX0) := rfl
theorem kf_Law_law_480 : mcGet K_Law_law 480 = (480, false, .invokestatic 84, 3, (0, 5, [811, 812, 51, 813, 0, 6], [M_Law_code])) := rfl
theorem kf_Law_law_483 : mcGet K_Law_law 483 = (483, false, .istore 5, 2, mcX0) := rfl
theorem kf_Law_law_485 : mcGet K_Law_law 485 = (485, false, .aload_n 2, 1, mcX0) := rfl
theorem kf_Law_law_486 : mcGet K_Law_law 486 = (486, false, .aload_n 0, 1, mcX0) := rfl
theorem kf_Law_law_487 : mcGet K_Law_law 487 = (487, false, .iload 4, 2, mcX0) := rfl
theorem kf_Law_law_489 : mcGet K_Law_law 489 = (489, false, .iconst 1, 1, mcX0) := rfl
theorem kf_Law_law_490 : mcGet K_Law_law 490 = (490, false, .iadd, 1, mcX0) := rfl
theorem kf_Law_law_491 : mcGet K_Law_law 491 = (491, false, .iaload, 1, mcX0) := rfl
theorem kf_Law_law_492 : mcGet K_Law_law 492 = (492, false, .aload_n 0, 1, mcX0) := rfl
theorem kf_Law_law_493 : mcGet K_Law_law 493 = (493, false, .iload 4, 2, mcX0) := rfl
theorem kf_Law_law_495 : mcGet K_Law_law 495 = (495, false, .iconst 2, 1, mcX0) := rfl
theorem kf_Law_law_496 : mcGet K_Law_law 496 = (496, false, .iadd, 1, mcX0) := rfl
theorem kf_Law_law_497 : mcGet K_Law_law 497 = (497, false, .iaload, 1, mcX0) := rfl
theorem kf_Law_law_498 : mcGet K_Law_law 498 = (498, false, .aload_n 0, 1, mcX0) := rfl
theorem kf_Law_law_499 : mcGet K_Law_law 499 = (499, false, .iload 4, 2, mcX0) := rfl
theorem kf_Law_law_501 : mcGet K_Law_law 501 = (501, false, .iconst 3, 1, mcX0) := rfl
theorem kf_Law_law_502 : mcGet K_Law_law 502 = (502, false, .iadd, 1, mcX0) := rfl
theorem kf_Law_law_503 : mcGet K_Law_law 503 = (503, false, .iaload, 1, mcX0) := rfl
theorem kf_Law_law_504 : mcGet K_Law_law 504 = (504, false, .invokevirtual 87, 3, (10, 4, [1028, 1029, 63, 1031, 1030, 5], [M_Mod_code])) := rfl
theorem kf_Law_law_507 : mcGet K_Law_law 507 = (507, false, .istore 6, 2, mcX0) := rfl
theorem kf_Law_law_509 : mcGet K_Law_law 509 = (509, false, .aload_n 2, 1, mcX0) := rfl
theorem kf_Law_law_510 : mcGet K_Law_law 510 = (510, false, .invokevirtual 68, 3, (10, 1, [1002, 1003, 63, 1005, 1004, 1], [M_Mod_thrown])) := rfl
theorem kf_Law_law_513 : mcGet K_Law_law 513 = (513, false, .iload 5, 2, mcX0) := rfl
theorem kf_Law_law_515 : mcGet K_Law_law 515 = (515, false, .if_icmp .eq 5, 3, (520, 0, [], [])) := rfl
theorem kf_Law_law_518 : mcGet K_Law_law 518 = (518, false, .iconst 0, 1, mcX0) := rfl
theorem kf_Law_law_519 : mcGet K_Law_law 519 = (519, false, .ireturn, 1, (1, 0, [], [])) := rfl
theorem kf_Law_law_520 : mcGet K_Law_law 520 = (520, false, .iload 5, 2, mcX0) := rfl
theorem kf_Law_law_522 : mcGet K_Law_law 522 = (522, false, .ifCond .ne 15, 3, (537, 0, [], [])) := rfl
theorem kf_Law_law_525 : mcGet K_Law_law 525 = (525, false, .aload_n 3, 1, mcX0) := rfl
theorem kf_Law_law_526 : mcGet K_Law_law 526 = (526, false, .iconst 0, 1, mcX0) := rfl
theorem kf_Law_law_527 : mcGet K_Law_law 527 = (527, false, .laload, 1, mcX0) := rfl
theorem kf_Law_law_528 : mcGet K_Law_law 528 = (528, false, .iload 6, 2, mcX0) := rfl
theorem kf_Law_law_530 : mcGet K_Law_law 530 = (530, false, .i2l, 1, mcX0) := rfl
theorem kf_Law_law_531 : mcGet K_Law_law 531 = (531, false, .lcmp, 1, mcX0) := rfl
theorem kf_Law_law_532 : mcGet K_Law_law 532 = (532, false, .ifCond .eq 5, 3, (537, 0, [], [])) := rfl
theorem kf_Law_law_535 : mcGet K_Law_law 535 = (535, false, .iconst 0, 1, mcX0) := rfl
theorem kf_Law_law_536 : mcGet K_Law_law 536 = (536, false, .ireturn, 1, (1, 0, [], [])) := rfl
theorem kf_Law_law_537 : mcGet K_Law_law 537 = (537, false, .goto 510, 3, (1047, 0, [], [])) := rfl
theorem kf_Law_law_540 : mcGet K_Law_law 540 = (540, false, .aload_n 1, 1, mcX0) := rfl
theorem kf_Law_law_541 : mcGet K_Law_law 541 = (541, false, .aload_n 0, 1, mcX0) := rfl
theorem kf_Law_law_542 : mcGet K_Law_law 542 = (542, false, .iload 4, 2, mcX0) := rfl
theorem kf_Law_law_544 : mcGet K_Law_law 544 = (544, false, .iconst 1, 1, mcX0) := rfl
theorem kf_Law_law_545 : mcGet K_Law_law 545 = (545, false, .iadd, 1, mcX0) := rfl
theorem kf_Law_law_546 : mcGet K_Law_law 546 = (546, false, .iaload, 1, mcX0) := rfl
theorem kf_Law_law_547 : mcGet K_Law_law 547 = (547, false, .aload_n 0, 1, mcX0) := rfl
theorem kf_Law_law_548 : mcGet K_Law_law 548 = (548, false, .iload 4, 2, mcX0) := rfl
theorem kf_Law_law_550 : mcGet K_Law_law 550 = (550, false, .iconst 2, 1, mcX0) := rfl
theorem kf_Law_law_551 : mcGet K_Law_law 551 = (551, false, .iadd, 1, mcX0) := rfl
theorem kf_Law_law_552 : mcGet K_Law_law 552 = (552, false, .iaload, 1, mcX0) := rfl
theorem kf_Law_law_553 : mcGet K_Law_law 553 = (553, false, .aload_n 0, 1, mcX0) := rfl
theorem kf_Law_law_554 : mcGet K_Law_law 554 = (554, false, .iload 4, 2, mcX0) := rfl
theorem kf_Law_law_556 : mcGet K_Law_law 556 = (556, false, .iconst 3, 1, mcX0) := rfl
theorem kf_Law_law_557 : mcGet K_Law_law 557 = (557, false, .iadd, 1, mcX0) := rfl
theorem kf_Law_law_558 : mcGet K_Law_law 558 = (558, false, .iaload, 1, mcX0) := rfl
theorem kf_Law_law_559 : mcGet K_Law_law 559 = (559, false, .aload_n 3, 1, mcX0) := rfl
theorem kf_Law_law_560 : mcGet K_Law_law 560 = (560, false, .invokestatic 88, 3, (0, 5, [822, 823, 51, 824, 0, 6], [M_Law_value])) := rfl
theorem kf_Law_law_563 : mcGet K_Law_law 563 = (563, false, .istore 5, 2, mcX0) := rfl
theorem kf_Law_law_565 : mcGet K_Law_law 565 = (565, false, .aload_n 2, 1, mcX0) := rfl
theorem kf_Law_law_566 : mcGet K_Law_law 566 = (566, false, .aload_n 0, 1, mcX0) := rfl
theorem kf_Law_law_567 : mcGet K_Law_law 567 = (567, false, .iload 4, 2, mcX0) := rfl
theorem kf_Law_law_569 : mcGet K_Law_law 569 = (569, false, .iconst 1, 1, mcX0) := rfl
theorem kf_Law_law_570 : mcGet K_Law_law 570 = (570, false, .iadd, 1, mcX0) := rfl
theorem kf_Law_law_571 : mcGet K_Law_law 571 = (571, false, .iaload, 1, mcX0) := rfl
theorem kf_Law_law_572 : mcGet K_Law_law 572 = (572, false, .aload_n 0, 1, mcX0) := rfl
theorem kf_Law_law_573 : mcGet K_Law_law 573 = (573, false, .iload 4, 2, mcX0) := rfl
theorem kf_Law_law_575 : mcGet K_Law_law 575 = (575, false, .iconst 2, 1, mcX0) := rfl
theorem kf_Law_law_576 : mcGet K_Law_law 576 = (576, false, .iadd, 1, mcX0) := rfl
theorem kf_Law_law_577 : mcGet K_Law_law 577 = (577, false, .iaload, 1, mcX0) := rfl
theorem kf_Law_law_578 : mcGet K_Law_law 578 = (578, false, .aload_n 0, 1, mcX0) := rfl
theorem kf_Law_law_579 : mcGet K_Law_law 579 = (579, false, .iload 4, 2, mcX0) := rfl
theorem kf_Law_law_581 : mcGet K_Law_law 581 = (581, false, .iconst 3, 1, mcX0) := rfl
theorem kf_Law_law_582 : mcGet K_Law_law 582 = (582, false, .iadd, 1, mcX0) := rfl
theorem kf_Law_law_583 : mcGet K_Law_law 583 = (583, false, .iaload, 1, mcX0) := rfl
theorem kf_Law_law_584 : mcGet K_Law_law 584 = (584, false, .invokevirtual 90, 3, (10, 4, [1036, 1037, 63, 1039, 1038, 4], [M_Mod_value])) := rfl
theorem kf_Law_law_587 : mcGet K_Law_law 587 = (587, false, .istore 6, 2, mcX0) := rfl
theorem kf_Law_law_589 : mcGet K_Law_law 589 = (589, false, .aload_n 2, 1, mcX0) := rfl
theorem kf_Law_law_590 : mcGet K_Law_law 590 = (590, false, .invokevirtual 68, 3, (10, 1, [1002, 1003, 63, 1005, 1004, 1], [M_Mod_thrown])) := rfl
theorem kf_Law_law_593 : mcGet K_Law_law 593 = (593, false, .iload 5, 2, mcX0) := rfl
theorem kf_Law_law_595 : mcGet K_Law_law 595 = (595, false, .if_icmp .eq 5, 3, (600, 0, [], [])) := rfl
theorem kf_Law_law_598 : mcGet K_Law_law 598 = (598, false, .iconst 0, 1, mcX0) := rfl
theorem kf_Law_law_599 : mcGet K_Law_law 599 = (599, false, .ireturn, 1, (1, 0, [], [])) := rfl
theorem kf_Law_law_600 : mcGet K_Law_law 600 = (600, false, .iload 5, 2, mcX0) := rfl
theorem kf_Law_law_602 : mcGet K_Law_law 602 = (602, false, .ifCond .ne 15, 3, (617, 0, [], [])) := rfl
theorem kf_Law_law_605 : mcGet K_Law_law 605 = (605, false, .aload_n 3, 1, mcX0) := rfl
theorem kf_Law_law_606 : mcGet K_Law_law 606 = (606, false, .iconst 0, 1, mcX0) := rfl
theorem kf_Law_law_607 : mcGet K_Law_law 607 = (607, false, .laload, 1, mcX0) := rfl
theorem kf_Law_law_608 : mcGet K_Law_law 608 = (608, false, .iload 6, 2, mcX0) := rfl
theorem kf_Law_law_610 : mcGet K_Law_law 610 = (610, false, .i2l, 1, mcX0) := rfl
theorem kf_Law_law_611 : mcGet K_Law_law 611 = (611, false, .lcmp, 1, mcX0) := rfl
theorem kf_Law_law_612 : mcGet K_Law_law 612 = (612, false, .ifCond .eq 5, 3, (617, 0, [], [])) := rfl
theorem kf_Law_law_615 : mcGet K_Law_law 615 = (615, false, .iconst 0, 1, mcX0) := rfl
theorem kf_Law_law_616 : mcGet K_Law_law 616 = (616, false, .ireturn, 1, (1, 0, [], [])) := rfl
theorem kf_Law_law_617 : mcGet K_Law_law 617 = (617, false, .goto 430, 3, (1047, 0, [], [])) := rfl
theorem kf_Law_law_620 : mcGet K_Law_law 620 = (620, false, .aload_n 1, 1, mcX0) := rfl
theorem kf_Law_law_621 : mcGet K_Law_law 621 = (621, false, .aload_n 0, 1, mcX0) := rfl
theorem kf_Law_law_622 : mcGet K_Law_law 622 = (622, false, .iload 4, 2, mcX0) := rfl
theorem kf_Law_law_624 : mcGet K_Law_law 624 = (624, false, .iconst 1, 1, mcX0) := rfl
theorem kf_Law_law_625 : mcGet K_Law_law 625 = (625, false, .iadd, 1, mcX0) := rfl
theorem kf_Law_law_626 : mcGet K_Law_law 626 = (626, false, .iaload, 1, mcX0) := rfl
theorem kf_Law_law_627 : mcGet K_Law_law 627 = (627, false, .invokestatic 91, 3, (0, 2, [829, 830, 51, 831, 0, 3], [M_Law_stop])) := rfl
theorem kf_Law_law_630 : mcGet K_Law_law 630 = (630, false, .istore 5, 2, mcX0) := rfl
theorem kf_Law_law_632 : mcGet K_Law_law 632 = (632, false, .aload_n 2, 1, mcX0) := rfl
theorem kf_Law_law_633 : mcGet K_Law_law 633 = (633, false, .aload_n 0, 1, mcX0) := rfl
theorem kf_Law_law_634 : mcGet K_Law_law 634 = (634, false, .iload 4, 2, mcX0) := rfl
theorem kf_Law_law_636 : mcGet K_Law_law 636 = (636, false, .iconst 1, 1, mcX0) := rfl
theorem kf_Law_law_637 : mcGet K_Law_law 637 = (637, false, .iadd, 1, mcX0) := rfl
theorem kf_Law_law_638 : mcGet K_Law_law 638 = (638, false, .iaload, 1, mcX0) := rfl
theorem kf_Law_law_639 : mcGet K_Law_law 639 = (639, false, .invokevirtual 94, 3, (10, 2, [1157, 1158, 63, 1160, 1159, 2], [M_Mod_stop])) := rfl
theorem kf_Law_law_642 : mcGet K_Law_law 642 = (642, false, .aload_n 2, 1, mcX0) := rfl
theorem kf_Law_law_643 : mcGet K_Law_law 643 = (643, false, .invokevirtual 68, 3, (10, 1, [1002, 1003, 63, 1005, 1004, 1], [M_Mod_thrown])) := rfl
theorem kf_Law_law_646 : mcGet K_Law_law 646 = (646, false, .iload 5, 2, mcX0) := rfl
theorem kf_Law_law_648 : mcGet K_Law_law 648 = (648, false, .if_icmp .eq 5, 3, (653, 0, [], [])) := rfl
theorem kf_Law_law_651 : mcGet K_Law_law 651 = (651, false, .iconst 0, 1, mcX0) := rfl
theorem kf_Law_law_652 : mcGet K_Law_law 652 = (652, false, .ireturn, 1, (1, 0, [], [])) := rfl
theorem kf_Law_law_653 : mcGet K_Law_law 653 = (653, false, .goto 394, 3, (1047, 0, [], [])) := rfl
theorem kf_Law_law_656 : mcGet K_Law_law 656 = (656, false, .aload_n 1, 1, mcX0) := rfl
theorem kf_Law_law_657 : mcGet K_Law_law 657 = (657, false, .invokestatic 95, 3, (0, 1, [837, 838, 51, 839, 0, 2], [M_Law_boot])) := rfl
theorem kf_Law_law_660 : mcGet K_Law_law 660 = (660, false, .istore 5, 2, mcX0) := rfl
theorem kf_Law_law_662 : mcGet K_Law_law 662 = (662, false, .aload_n 2, 1, mcX0) := rfl
theorem kf_Law_law_663 : mcGet K_Law_law 663 = (663, false, .invokevirtual 98, 3, (10, 1, [1161, 1162, 63, 1164, 1163, 1], [M_Mod_boot])) := rfl
theorem kf_Law_law_666 : mcGet K_Law_law 666 = (666, false, .aload_n 2, 1, mcX0) := rfl
theorem kf_Law_law_667 : mcGet K_Law_law 667 = (667, false, .invokevirtual 68, 3, (10, 1, [1002, 1003, 63, 1005, 1004, 1], [M_Mod_thrown])) := rfl
theorem kf_Law_law_670 : mcGet K_Law_law 670 = (670, false, .iload 5, 2, mcX0) := rfl
theorem kf_Law_law_672 : mcGet K_Law_law 672 = (672, false, .if_icmp .eq 5, 3, (677, 0, [], [])) := rfl
theorem kf_Law_law_675 : mcGet K_Law_law 675 = (675, false, .iconst 0, 1, mcX0) := rfl
theorem kf_Law_law_676 : mcGet K_Law_law 676 = (676, false, .ireturn, 1, (1, 0, [], [])) := rfl
theorem kf_Law_law_677 : mcGet K_Law_law 677 = (677, false, .goto 370, 3, (1047, 0, [], [])) := rfl
theorem kf_Law_law_680 : mcGet K_Law_law 680 = (680, false, .aload_n 1, 1, mcX0) := rfl
theorem kf_Law_law_681 : mcGet K_Law_law 681 = (681, false, .aload_n 0, 1, mcX0) := rfl
theorem kf_Law_law_682 : mcGet K_Law_law 682 = (682, false, .iload 4, 2, mcX0) := rfl
theorem kf_Law_law_684 : mcGet K_Law_law 684 = (684, false, .iconst 1, 1, mcX0) := rfl
theorem kf_Law_law_685 : mcGet K_Law_law 685 = (685, false, .iadd, 1, mcX0) := rfl
theorem kf_Law_law_686 : mcGet K_Law_law 686 = (686, false, .iaload, 1, mcX0) := rfl
theorem kf_Law_law_687 : mcGet K_Law_law 687 = (687, false, .aload_n 3, 1, mcX0) := rfl
theorem kf_Law_law_688 : mcGet K_Law_law 688 = (688, false, .invokestatic 99, 3, (0, 3, [852, 853, 51, 854, 0, 4], [M_Law_time])) := rfl
theorem kf_Law_law_691 : mcGet K_Law_law 691 = (691, false, .istore 5, 2, mcX0) := rfl
theorem kf_Law_law_693 : mcGet K_Law_law 693 = (693, false, .aload_n 2, 1, mcX0) := rfl
theorem kf_Law_law_694 : mcGet K_Law_law 694 = (694, false, .aload_n 0, 1, mcX0) := rfl
theorem kf_Law_law_695 : mcGet K_Law_law 695 = (695, false, .iload 4, 2, mcX0) := rfl
theorem kf_Law_law_697 : mcGet K_Law_law 697 = (697, false, .iconst 1, 1, mcX0) := rfl
theorem kf_Law_law_698 : mcGet K_Law_law 698 = (698, false, .iadd, 1, mcX0) := rfl
theorem kf_Law_law_699 : mcGet K_Law_law 699 = (699, false, .iaload, 1, mcX0) := rfl
theorem kf_Law_law_700 : mcGet K_Law_law 700 = (700, false, .invokevirtual 101, 3, (10, 2, [1165, 1166, 63, 1168, 1167, 2], [M_Mod_time])) := rfl
theorem kf_Law_law_703 : mcGet K_Law_law 703 = (703, false, .istore 6, 2, mcX0) := rfl
theorem kf_Law_law_705 : mcGet K_Law_law 705 = (705, false, .aload_n 2, 1, mcX0) := rfl
theorem kf_Law_law_706 : mcGet K_Law_law 706 = (706, false, .invokevirtual 68, 3, (10, 1, [1002, 1003, 63, 1005, 1004, 1], [M_Mod_thrown])) := rfl
theorem kf_Law_law_709 : mcGet K_Law_law 709 = (709, false, .iload 5, 2, mcX0) := rfl
theorem kf_Law_law_711 : mcGet K_Law_law 711 = (711, false, .if_icmp .eq 5, 3, (716, 0, [], [])) := rfl
theorem kf_Law_law_714 : mcGet K_Law_law 714 = (714, false, .iconst 0, 1, mcX0) := rfl
theorem kf_Law_law_715 : mcGet K_Law_law 715 = (715, false, .ireturn, 1, (1, 0, [], [])) := rfl
theorem kf_Law_law_716 : mcGet K_Law_law 716 = (716, false, .iload 5, 2, mcX0) := rfl
theorem kf_Law_law_718 : mcGet K_Law_law 718 = (718, false, .ifCond .ne 15, 3, (733, 0, [], [])) := rfl
theorem kf_Law_law_721 : mcGet K_Law_law 721 = (721, false, .aload_n 3, 1, mcX0) := rfl
theorem kf_Law_law_722 : mcGet K_Law_law 722 = (722, false, .iconst 0, 1, mcX0) := rfl
theorem kf_Law_law_723 : mcGet K_Law_law 723 = (723, false, .laload, 1, mcX0) := rfl
theorem kf_Law_law_724 : mcGet K_Law_law 724 = (724, false, .iload 6, 2, mcX0) := rfl
theorem kf_Law_law_726 : mcGet K_Law_law 726 = (726, false, .i2l, 1, mcX0) := rfl
theorem kf_Law_law_727 : mcGet K_Law_law 727 = (727, false, .lcmp, 1, mcX0) := rfl
theorem kf_Law_law_728 : mcGet K_Law_law 728 = (728, false, .ifCond .eq 5, 3, (733, 0, [], [])) := rfl
theorem kf_Law_law_731 : mcGet K_Law_law 731 = (731, false, .iconst 0, 1, mcX0) := rfl
theorem kf_Law_law_732 : mcGet K_Law_law 732 = (732, false, .ireturn, 1, (1, 0, [], [])) := rfl
theorem kf_Law_law_733 : mcGet K_Law_law 733 = (733, false, .goto 314, 3, (1047, 0, [], [])) := rfl
theorem kf_Law_law_736 : mcGet K_Law_law 736 = (736, false, .aload_n 1, 1, mcX0) := rfl
theorem kf_Law_law_737 : mcGet K_Law_law 737 = (737, false, .invokevirtual 102, 3, (9, 1, [370, 371, 52, 373, 372, 1], [M_Srv_runs])) := rfl
theorem kf_Law_law_740 : mcGet K_Law_law 740 = (740, false, .aload_n 2, 1, mcX0) := rfl
theorem kf_Law_law_741 : mcGet K_Law_law 741 = (741, false, .invokevirtual 106, 3, (10, 1, [1170, 1171, 63, 1173, 1172, 1], [M_Mod_runs])) := rfl
theorem kf_Law_law_744 : mcGet K_Law_law 744 = (744, false, .if_icmp .eq 303, 3, (1047, 0, [], [])) := rfl
theorem kf_Law_law_747 : mcGet K_Law_law 747 = (747, false, .iconst 0, 1, mcX0) := rfl
theorem kf_Law_law_748 : mcGet K_Law_law 748 = (748, false, .ireturn, 1, (1, 0, [], [])) := rfl
theorem kf_Law_law_749 : mcGet K_Law_law 749 = (749, false, .aload_n 1, 1, mcX0) := rfl
theorem kf_Law_law_750 : mcGet K_Law_law 750 = (750, false, .invokevirtual 107, 3, (9, 1, [374, 375, 52, 377, 376, 1], [M_Srv_nodes])) := rfl
theorem kf_Law_law_753 : mcGet K_Law_law 753 = (753, false, .aload_n 2, 1, mcX0) := rfl
theorem kf_Law_law_754 : mcGet K_Law_law 754 = (754, false, .invokevirtual 110, 3, (10, 1, [1174, 1175, 63, 1177, 1176, 3], [M_Mod_nodes])) := rfl
theorem kf_Law_law_757 : mcGet K_Law_law 757 = (757, false, .if_icmp .eq 290, 3, (1047, 0, [], [])) := rfl
theorem kf_Law_law_760 : mcGet K_Law_law 760 = (760, false, .iconst 0, 1, mcX0) := rfl
theorem kf_Law_law_761 : mcGet K_Law_law 761 = (761, false, .ireturn, 1, (1, 0, [], [])) := rfl
theorem kf_Law_law_762 : mcGet K_Law_law 762 = (762, false, .aload_n 1, 1, mcX0) := rfl
theorem kf_Law_law_763 : mcGet K_Law_law 763 = (763, false, .aload_n 0, 1, mcX0) := rfl
theorem kf_Law_law_764 : mcGet K_Law_law 764 = (764, false, .iload 4, 2, mcX0) := rfl
theorem kf_Law_law_766 : mcGet K_Law_law 766 = (766, false, .iconst 1, 1, mcX0) := rfl
theorem kf_Law_law_767 : mcGet K_Law_law 767 = (767, false, .iadd, 1, mcX0) := rfl
theorem kf_Law_law_768 : mcGet K_Law_law 768 = (768, false, .iaload, 1, mcX0) := rfl
theorem kf_Law_law_769 : mcGet K_Law_law 769 = (769, false, .aload_n 0, 1, mcX0) := rfl
theorem kf_Law_law_770 : mcGet K_Law_law 770 = (770, false, .iload 4, 2, mcX0) := rfl
theorem kf_Law_law_772 : mcGet K_Law_law 772 = (772, false, .iconst 2, 1, mcX0) := rfl
theorem kf_Law_law_773 : mcGet K_Law_law 773 = (773, false, .iadd, 1, mcX0) := rfl
theorem kf_Law_law_774 : mcGet K_Law_law 774 = (774, false, .iaload, 1, mcX0) := rfl
theorem kf_Law_law_775 : mcGet K_Law_law 775 = (775, false, .aload_n 3, 1, mcX0) := rfl
theorem kf_Law_law_776 : mcGet K_Law_law 776 = (776, false, .invokestatic 111, 3, (0, 4, [875, 876, 51, 877, 0, 5], [M_Law_node])) := rfl
theorem kf_Law_law_779 : mcGet K_Law_law 779 = (779, false, .istore 5, 2, mcX0) := rfl
theorem kf_Law_law_781 : mcGet K_Law_law 781 = (781, false, .aload_n 2, 1, mcX0) := rfl
theorem kf_Law_law_782 : mcGet K_Law_law 782 = (782, false, .aload_n 0, 1, mcX0) := rfl
theorem kf_Law_law_783 : mcGet K_Law_law 783 = (783, false, .iload 4, 2, mcX0) := rfl
theorem kf_Law_law_785 : mcGet K_Law_law 785 = (785, false, .iconst 1, 1, mcX0) := rfl
theorem kf_Law_law_786 : mcGet K_Law_law 786 = (786, false, .iadd, 1, mcX0) := rfl
theorem kf_Law_law_787 : mcGet K_Law_law 787 = (787, false, .iaload, 1, mcX0) := rfl
theorem kf_Law_law_788 : mcGet K_Law_law 788 = (788, false, .aload_n 0, 1, mcX0) := rfl
theorem kf_Law_law_789 : mcGet K_Law_law 789 = (789, false, .iload 4, 2, mcX0) := rfl
theorem kf_Law_law_791 : mcGet K_Law_law 791 = (791, false, .iconst 2, 1, mcX0) := rfl
theorem kf_Law_law_792 : mcGet K_Law_law 792 = (792, false, .iadd, 1, mcX0) := rfl
theorem kf_Law_law_793 : mcGet K_Law_law 793 = (793, false, .iaload, 1, mcX0) := rfl
theorem kf_Law_law_794 : mcGet K_Law_law 794 = (794, false, .invokevirtual 113, 3, (10, 3, [1178, 1179, 63, 1181, 1180, 4], [M_Mod_node])) := rfl
theorem kf_Law_law_797 : mcGet K_Law_law 797 = (797, false, .istore 6, 2, mcX0) := rfl
theorem kf_Law_law_799 : mcGet K_Law_law 799 = (799, false, .aload_n 2, 1, mcX0) := rfl
theorem kf_Law_law_800 : mcGet K_Law_law 800 = (800, false, .invokevirtual 68, 3, (10, 1, [1002, 1003, 63, 1005, 1004, 1], [M_Mod_thrown])) := rfl
theorem kf_Law_law_803 : mcGet K_Law_law 803 = (803, false, .iload 5, 2, mcX0) := rfl
theorem kf_Law_law_805 : mcGet K_Law_law 805 = (805, false, .if_icmp .eq 5, 3, (810, 0, [], [])) := rfl
theorem kf_Law_law_808 : mcGet K_Law_law 808 = (808, false, .iconst 0, 1, mcX0) := rfl
theorem kf_Law_law_809 : mcGet K_Law_law 809 = (809, false, .ireturn, 1, (1, 0, [], [])) := rfl
theorem kf_Law_law_810 : mcGet K_Law_law 810 = (810, false, .iload 5, 2, mcX0) := rfl
theorem kf_Law_law_812 : mcGet K_Law_law 812 = (812, false, .ifCond .ne 15, 3, (827, 0, [], [])) := rfl
theorem kf_Law_law_815 : mcGet K_Law_law 815 = (815, false, .aload_n 3, 1, mcX0) := rfl
theorem kf_Law_law_816 : mcGet K_Law_law 816 = (816, false, .iconst 0, 1, mcX0) := rfl
theorem kf_Law_law_817 : mcGet K_Law_law 817 = (817, false, .laload, 1, mcX0) := rfl
theorem kf_Law_law_818 : mcGet K_Law_law 818 = (818, false, .iload 6, 2, mcX0) := rfl
theorem kf_Law_law_820 : mcGet K_Law_law 820 = (820, false, .i2l, 1, mcX0) := rfl
theorem kf_Law_law_821 : mcGet K_Law_law 821 = (821, false, .lcmp, 1, mcX0) := rfl
theorem kf_Law_law_822 : mcGet K_Law_law 822 = (822, false, .ifCond .eq 5, 3, (827, 0, [], [])) := rfl
theorem kf_Law_law_825 : mcGet K_Law_law 825 = (825, false, .iconst 0, 1, mcX0) := rfl
theorem kf_Law_law_826 : mcGet K_Law_law 826 = (826, false, .ireturn, 1, (1, 0, [], [])) := rfl
theorem kf_Law_law_827 : mcGet K_Law_law 827 = (827, false, .goto 220, 3, (1047, 0, [], [])) := rfl
theorem kf_Law_law_830 : mcGet K_Law_law 830 = (830, false, .aload_n 1, 1, mcX0) := rfl
theorem kf_Law_law_831 : mcGet K_Law_law 831 = (831, false, .aload_n 0, 1, mcX0) := rfl
theorem kf_Law_law_832 : mcGet K_Law_law 832 = (832, false, .iload 4, 2, mcX0) := rfl
theorem kf_Law_law_834 : mcGet K_Law_law 834 = (834, false, .iconst 1, 1, mcX0) := rfl
theorem kf_Law_law_835 : mcGet K_Law_law 835 = (835, false, .iadd, 1, mcX0) := rfl
theorem kf_Law_law_836 : mcGet K_Law_law 836 = (836, false, .iaload, 1, mcX0) := rfl
theorem kf_Law_law_837 : mcGet K_Law_law 837 = (837, false, .aload_n 0, 1, mcX0) := rfl
theorem kf_Law_law_838 : mcGet K_Law_law 838 = (838, false, .iload 4, 2, mcX0) := rfl
theorem kf_Law_law_840 : mcGet K_Law_law 840 = (840, false, .iconst 2, 1, mcX0) := rfl
theorem kf_Law_law_841 : mcGet K_Law_law 841 = (841, false, .iadd, 1, mcX0) := rfl
theorem kf_Law_law_842 : mcGet K_Law_law 842 = (842, false, .iaload, 1, mcX0) := rfl
theorem kf_Law_law_843 : mcGet K_Law_law 843 = (843, false, .aload_n 3, 1, mcX0) := rfl
theorem kf_Law_law_844 : mcGet K_Law_law 844 = (844, false, .invokestatic 114, 3, (0, 4, [885, 886, 51, 887, 0, 5], [M_Law_handle])) := rfl
theorem kf_Law_law_847 : mcGet K_Law_law 847 = (847, false, .istore 5, 2, mcX0) := rfl
theorem kf_Law_law_849 : mcGet K_Law_law 849 = (849, false, .aload_n 2, 1, mcX0) := rfl
theorem kf_Law_law_850 : mcGet K_Law_law 850 = (850, false, .aload_n 0, 1, mcX0) := rfl
theorem kf_Law_law_851 : mcGet K_Law_law 851 = (851, false, .iload 4, 2, mcX0) := rfl
theorem kf_Law_law_853 : mcGet K_Law_law 853 = (853, false, .iconst 1, 1, mcX0) := rfl
theorem kf_Law_law_854 : mcGet K_Law_law 854 = (854, false, .iadd, 1, mcX0) := rfl
theorem kf_Law_law_855 : mcGet K_Law_law 855 = (855, false, .iaload, 1, mcX0) := rfl
theorem kf_Law_law_856 : mcGet K_Law_law 856 = (856, false, .aload_n 0, 1, mcX0) := rfl
theorem kf_Law_law_857 : mcGet K_Law_law 857 = (857, false, .iload 4, 2, mcX0) := rfl
theorem kf_Law_law_859 : mcGet K_Law_law 859 = (859, false, .iconst 2, 1, mcX0) := rfl
theorem kf_Law_law_860 : mcGet K_Law_law 860 = (860, false, .iadd, 1, mcX0) := rfl
theorem kf_Law_law_861 : mcGet K_Law_law 861 = (861, false, .iaload, 1, mcX0) := rfl
theorem kf_Law_law_862 : mcGet K_Law_law 862 = (862, false, .invokevirtual 116, 3, (10, 3, [1182, 1183, 63, 1185, 1184, 3], [M_Mod_handle])) := rfl
theorem kf_Law_law_865 : mcGet K_Law_law 865 = (865, false, .istore 6, 2, mcX0) := rfl
theorem kf_Law_law_867 : mcGet K_Law_law 867 = (867, false, .aload_n 2, 1, mcX0) := rfl
theorem kf_Law_law_868 : mcGet K_Law_law 868 = (868, false, .invokevirtual 68, 3, (10, 1, [1002, 1003, 63, 1005, 1004, 1], [M_Mod_thrown])) := rfl
theorem kf_Law_law_871 : mcGet K_Law_law 871 = (871, false, .iload 5, 2, mcX0) := rfl
theorem kf_Law_law_873 : mcGet K_Law_law 873 = (873, false, .if_icmp .eq 5, 3, (878, 0, [], [])) := rfl
theorem kf_Law_law_876 : mcGet K_Law_law 876 = (876, false, .iconst 0, 1, mcX0) := rfl
theorem kf_Law_law_877 : mcGet K_Law_law 877 = (877, false, .ireturn, 1, (1, 0, [], [])) := rfl
theorem kf_Law_law_878 : mcGet K_Law_law 878 = (878, false, .iload 5, 2, mcX0) := rfl
theorem kf_Law_law_880 : mcGet K_Law_law 880 = (880, false, .ifCond .ne 15, 3, (895, 0, [], [])) := rfl
theorem kf_Law_law_883 : mcGet K_Law_law 883 = (883, false, .aload_n 3, 1, mcX0) := rfl
theorem kf_Law_law_884 : mcGet K_Law_law 884 = (884, false, .iconst 0, 1, mcX0) := rfl
theorem kf_Law_law_885 : mcGet K_Law_law 885 = (885, false, .laload, 1, mcX0) := rfl
theorem kf_Law_law_886 : mcGet K_Law_law 886 = (886, false, .iload 6, 2, mcX0) := rfl
theorem kf_Law_law_888 : mcGet K_Law_law 888 = (888, false, .i2l, 1, mcX0) := rfl
theorem kf_Law_law_889 : mcGet K_Law_law 889 = (889, false, .lcmp, 1, mcX0) := rfl
theorem kf_Law_law_890 : mcGet K_Law_law 890 = (890, false, .ifCond .eq 5, 3, (895, 0, [], [])) := rfl
theorem kf_Law_law_893 : mcGet K_Law_law 893 = (893, false, .iconst 0, 1, mcX0) := rfl
theorem kf_Law_law_894 : mcGet K_Law_law 894 = (894, false, .ireturn, 1, (1, 0, [], [])) := rfl
theorem kf_Law_law_895 : mcGet K_Law_law 895 = (895, false, .goto 152, 3, (1047, 0, [], [])) := rfl
theorem kf_Law_law_898 : mcGet K_Law_law 898 = (898, false, .aload_n 1, 1, mcX0) := rfl
theorem kf_Law_law_899 : mcGet K_Law_law 899 = (899, false, .aload_n 0, 1, mcX0) := rfl
theorem kf_Law_law_900 : mcGet K_Law_law 900 = (900, false, .iload 4, 2, mcX0) := rfl
theorem kf_Law_law_902 : mcGet K_Law_law 902 = (902, false, .iconst 1, 1, mcX0) := rfl
theorem kf_Law_law_903 : mcGet K_Law_law 903 = (903, false, .iadd, 1, mcX0) := rfl
theorem kf_Law_law_904 : mcGet K_Law_law 904 = (904, false, .iaload, 1, mcX0) := rfl
theorem kf_Law_law_905 : mcGet K_Law_law 905 = (905, false, .aload_n 0, 1, mcX0) := rfl
theorem kf_Law_law_906 : mcGet K_Law_law 906 = (906, false, .iload 4, 2, mcX0) := rfl
theorem kf_Law_law_908 : mcGet K_Law_law 908 = (908, false, .iconst 2, 1, mcX0) := rfl
theorem kf_Law_law_909 : mcGet K_Law_law 909 = (909, false, .iadd, 1, mcX0) := rfl
theorem kf_Law_law_910 : mcGet K_Law_law 910 = (910, false, .iaload, 1, mcX0) := rfl
theorem kf_Law_law_911 : mcGet K_Law_law 911 = (911, false, .aload_n 0, 1, mcX0) := rfl
theorem kf_Law_law_912 : mcGet K_Law_law 912 = (912, false, .iload 4, 2, mcX0) := rfl
theorem kf_Law_law_914 : mcGet K_Law_law 914 = (914, false, .iconst 3, 1, mcX0) := rfl
theorem kf_Law_law_915 : mcGet K_Law_law 915 = (915, false, .iadd, 1, mcX0) := rfl
theorem kf_Law_law_916 : mcGet K_Law_law 916 = (916, false, .iaload, 1, mcX0) := rfl
theorem kf_Law_law_917 : mcGet K_Law_law 917 = (917, false, .aload_n 3, 1, mcX0) := rfl
theorem kf_Law_law_918 : mcGet K_Law_law 918 = (918, false, .invokestatic 117, 3, (0, 5, [894, 895, 51, 896, 0, 6], [M_Law_lock])) := rfl
theorem kf_Law_law_921 : mcGet K_Law_law 921 = (921, false, .istore 5, 2, mcX0) := rfl
theorem kf_Law_law_923 : mcGet K_Law_law 923 = (923, false, .aload_n 2, 1, mcX0) := rfl
theorem kf_Law_law_924 : mcGet K_Law_law 924 = (924, false, .aload_n 0, 1, mcX0) := rfl
theorem kf_Law_law_925 : mcGet K_Law_law 925 = (925, false, .iload 4, 2, mcX0) := rfl
theorem kf_Law_law_927 : mcGet K_Law_law 927 = (927, false, .iconst 1, 1, mcX0) := rfl
theorem kf_Law_law_928 : mcGet K_Law_law 928 = (928, false, .iadd, 1, mcX0) := rfl
theorem kf_Law_law_929 : mcGet K_Law_law 929 = (929, false, .iaload, 1, mcX0) := rfl
theorem kf_Law_law_930 : mcGet K_Law_law 930 = (930, false, .aload_n 0, 1, mcX0) := rfl
theorem kf_Law_law_931 : mcGet K_Law_law 931 = (931, false, .iload 4, 2, mcX0) := rfl
theorem kf_Law_law_933 : mcGet K_Law_law 933 = (933, false, .iconst 2, 1, mcX0) := rfl
theorem kf_Law_law_934 : mcGet K_Law_law 934 = (934, false, .iadd, 1, mcX0) := rfl
theorem kf_Law_law_935 : mcGet K_Law_law 935 = (935, false, .iaload, 1, mcX0) := rfl
theorem kf_Law_law_936 : mcGet K_Law_law 936 = (936, false, .aload_n 0, 1, mcX0) := rfl
theorem kf_Law_law_937 : mcGet K_Law_law 937 = (937, false, .iload 4, 2, mcX0) := rfl
theorem kf_Law_law_939 : mcGet K_Law_law 939 = (939, false, .iconst 3, 1, mcX0) := rfl
theorem kf_Law_law_940 : mcGet K_Law_law 940 = (940, false, .iadd, 1, mcX0) := rfl
theorem kf_Law_law_941 : mcGet K_Law_law 941 = (941, false, .iaload, 1, mcX0) := rfl
theorem kf_Law_law_942 : mcGet K_Law_law 942 = (942, false, .invokevirtual 119, 3, (10, 4, [1186, 1187, 63, 1189, 1188, 4], [M_Mod_lock])) := rfl
theorem kf_Law_law_945 : mcGet K_Law_law 945 = (945, false, .istore 6, 2, mcX0) := rfl
theorem kf_Law_law_947 : mcGet K_Law_law 947 = (947, false, .aload_n 2, 1, mcX0) := rfl
theorem kf_Law_law_948 : mcGet K_Law_law 948 = (948, false, .invokevirtual 68, 3, (10, 1, [1002, 1003, 63, 1005, 1004, 1], [M_Mod_thrown])) := rfl
theorem kf_Law_law_951 : mcGet K_Law_law 951 = (951, false, .iload 5, 2, mcX0) := rfl
theorem kf_Law_law_953 : mcGet K_Law_law 953 = (953, false, .if_icmp .eq 5, 3, (958, 0, [], [])) := rfl
theorem kf_Law_law_956 : mcGet K_Law_law 956 = (956, false, .iconst 0, 1, mcX0) := rfl
theorem kf_Law_law_957 : mcGet K_Law_law 957 = (957, false, .ireturn, 1, (1, 0, [], [])) := rfl
theorem kf_Law_law_958 : mcGet K_Law_law 958 = (958, false, .iload 5, 2, mcX0) := rfl
theorem kf_Law_law_960 : mcGet K_Law_law 960 = (960, false, .ifCond .ne 15, 3, (975, 0, [], [])) := rfl
theorem kf_Law_law_963 : mcGet K_Law_law 963 = (963, false, .aload_n 3, 1, mcX0) := rfl
theorem kf_Law_law_964 : mcGet K_Law_law 964 = (964, false, .iconst 0, 1, mcX0) := rfl
theorem kf_Law_law_965 : mcGet K_Law_law 965 = (965, false, .laload, 1, mcX0) := rfl
theorem kf_Law_law_966 : mcGet K_Law_law 966 = (966, false, .iload 6, 2, mcX0) := rfl
theorem kf_Law_law_968 : mcGet K_Law_law 968 = (968, false, .i2l, 1, mcX0) := rfl
theorem kf_Law_law_969 : mcGet K_Law_law 969 = (969, false, .lcmp, 1, mcX0) := rfl
theorem kf_Law_law_970 : mcGet K_Law_law 970 = (970, false, .ifCond .eq 5, 3, (975, 0, [], [])) := rfl
theorem kf_Law_law_973 : mcGet K_Law_law 973 = (973, false, .iconst 0, 1, mcX0) := rfl
theorem kf_Law_law_974 : mcGet K_Law_law 974 = (974, false, .ireturn, 1, (1, 0, [], [])) := rfl
theorem kf_Law_law_975 : mcGet K_Law_law 975 = (975, false, .goto 72, 3, (1047, 0, [], [])) := rfl
theorem kf_Law_law_978 : mcGet K_Law_law 978 = (978, false, .aload_n 1, 1, mcX0) := rfl
theorem kf_Law_law_979 : mcGet K_Law_law 979 = (979, false, .aload_n 0, 1, mcX0) := rfl
theorem kf_Law_law_980 : mcGet K_Law_law 980 = (980, false, .iload 4, 2, mcX0) := rfl
theorem kf_Law_law_982 : mcGet K_Law_law 982 = (982, false, .iconst 1, 1, mcX0) := rfl
theorem kf_Law_law_983 : mcGet K_Law_law 983 = (983, false, .iadd, 1, mcX0) := rfl
theorem kf_Law_law_984 : mcGet K_Law_law 984 = (984, false, .iaload, 1, mcX0) := rfl
theorem kf_Law_law_985 : mcGet K_Law_law 985 = (985, false, .aload_n 3, 1, mcX0) := rfl
theorem kf_Law_law_986 : mcGet K_Law_law 986 = (986, false, .invokestatic 120, 3, (0, 3, [903, 904, 51, 905, 0, 4], [M_Law_lease])) := rfl
theorem kf_Law_law_989 : mcGet K_Law_law 989 = (989, false, .istore 5, 2, mcX0) := rfl
theorem kf_Law_law_991 : mcGet K_Law_law 991 = (991, false, .aload_n 2, 1, mcX0) := rfl
theorem kf_Law_law_992 : mcGet K_Law_law 992 = (992, false, .aload_n 0, 1, mcX0) := rfl
theorem kf_Law_law_993 : mcGet K_Law_law 993 = (993, false, .iload 4, 2, mcX0) := rfl
theorem kf_Law_law_995 : mcGet K_Law_law 995 = (995, false, .iconst 1, 1, mcX0) := rfl
theorem kf_Law_law_996 : mcGet K_Law_law 996 = (996, false, .iadd, 1, mcX0) := rfl
theorem kf_Law_law_997 : mcGet K_Law_law 997 = (997, false, .iaload, 1, mcX0) := rfl
theorem kf_Law_law_998 : mcGet K_Law_law 998 = (998, false, .invokevirtual 122, 3, (10, 2, [1190, 1191, 63, 1193, 1192, 2], [M_Mod_lease])) := rfl
theorem kf_Law_law_1001 : mcGet K_Law_law 1001 = (1001, false, .istore 6, 2, mcX0) := rfl
theorem kf_Law_law_1003 : mcGet K_Law_law 1003 = (1003, false, .aload_n 2, 1, mcX0) := rfl
theorem kf_Law_law_1004 : mcGet K_Law_law 1004 = (1004, false, .invokevirtual 68, 3, (10, 1, [1002, 1003, 63, 1005, 1004, 1], [M_Mod_thrown])) := rfl
theorem kf_Law_law_1007 : mcGet K_Law_law 1007 = (1007, false, .iload 5, 2, mcX0) := rfl
theorem kf_Law_law_1009 : mcGet K_Law_law 1009 = (1009, false, .if_icmp .eq 5, 3, (1014, 0, [], [])) := rfl
theorem kf_Law_law_1012 : mcGet K_Law_law 1012 = (1012, false, .iconst 0, 1, mcX0) := rfl
theorem kf_Law_law_1013 : mcGet K_Law_law 1013 = (1013, false, .ireturn, 1, (1, 0, [], [])) := rfl
theorem kf_Law_law_1014 : mcGet K_Law_law 1014 = (1014, false, .iload 5, 2, mcX0) := rfl
theorem kf_Law_law_1016 : mcGet K_Law_law 1016 = (1016, false, .ifCond .ne 15, 3, (1031, 0, [], [])) := rfl
theorem kf_Law_law_1019 : mcGet K_Law_law 1019 = (1019, false, .aload_n 3, 1, mcX0) := rfl
theorem kf_Law_law_1020 : mcGet K_Law_law 1020 = (1020, false, .iconst 0, 1, mcX0) := rfl
theorem kf_Law_law_1021 : mcGet K_Law_law 1021 = (1021, false, .laload, 1, mcX0) := rfl
theorem kf_Law_law_1022 : mcGet K_Law_law 1022 = (1022, false, .iload 6, 2, mcX0) := rfl
theorem kf_Law_law_1024 : mcGet K_Law_law 1024 = (1024, false, .i2l, 1, mcX0) := rfl
theorem kf_Law_law_1025 : mcGet K_Law_law 1025 = (1025, false, .lcmp, 1, mcX0) := rfl
theorem kf_Law_law_1026 : mcGet K_Law_law 1026 = (1026, false, .ifCond .eq 5, 3, (1031, 0, [], [])) := rfl
theorem kf_Law_law_1029 : mcGet K_Law_law 1029 = (1029, false, .iconst 0, 1, mcX0) := rfl
theorem kf_Law_law_1030 : mcGet K_Law_law 1030 = (1030, false, .ireturn, 1, (1, 0, [], [])) := rfl
theorem kf_Law_law_1031 : mcGet K_Law_law 1031 = (1031, false, .goto 16, 3, (1047, 0, [], [])) := rfl
theorem kf_Law_law_1034 : mcGet K_Law_law 1034 = (1034, false, .aload_n 1, 1, mcX0) := rfl
theorem kf_Law_law_1035 : mcGet K_Law_law 1035 = (1035, false, .invokevirtual 123, 3, (9, 1, [382, 383, 52, 385, 384, 1], [M_Srv_wrong])) := rfl
theorem kf_Law_law_1038 : mcGet K_Law_law 1038 = (1038, false, .aload_n 2, 1, mcX0) := rfl
theorem kf_Law_law_1039 : mcGet K_Law_law 1039 = (1039, false, .invokevirtual 126, 3, (10, 1, [1194, 1195, 63, 1197, 1196, 1], [M_Mod_wrong])) := rfl
theorem kf_Law_law_1042 : mcGet K_Law_law 1042 = (1042, false, .if_icmp .eq 5, 3, (1047, 0, [], [])) := rfl
theorem kf_Law_law_1045 : mcGet K_Law_law 1045 = (1045, false, .iconst 0, 1, mcX0) := rfl
theorem kf_Law_law_1046 : mcGet K_Law_law 1046 = (1046, false, .ireturn, 1, (1, 0, [], [])) := rfl
theorem kf_Law_law_1047 : mcGet K_Law_law 1047 = (1047, false, .iinc 4 8, 3, mcX0) := rfl
theorem kf_Law_law_1050 : mcGet K_Law_law 1050 = (1050, false, .goto (-1027), 3, (23, 0, [], [])) := rfl
theorem kf_Law_law_1053 : mcGet K_Law_law 1053 = (1053, false, .iconst 1, 1, mcX0) := rfl
theorem kf_Law_law_1054 : mcGet K_Law_law 1054 = (1054, false, .ireturn, 1, (1, 0, [], [])) := rfl
theorem kf_Law_lease_0 : mcGet K_Law_lease 0 = (0, false, .aload_n 2, 1, mcX0) := rfl
theorem kf_Law_lease_1 : mcGet K_Law_lease 1 = (1, false, .iconst 0, 1, mcX0) := rfl
theorem kf_Law_lease_2 : mcGet K_Law_lease 2 = (2, false, .aload_n 0, 1, mcX0) := rfl
theorem kf_Law_lease_3 : mcGet K_Law_lease 3 = (3, false, .iload_n 1, 1, mcX0) := rfl
theorem kf_Law_lease_4 : mcGet K_Law_lease 4 = (4, false, .invokevirtual 55, 3, (9, 2, [906, 907, 52, 909, 908, 2], [M_Srv_lease])) := rfl
theorem kf_Law_lease_7 : mcGet K_Law_lease 7 = (7, false, .i2l, 1, mcX0) := rfl
theorem kf_Law_lease_8 : mcGet K_Law_lease 8 = (8, false, .lastore, 1, mcX0) := rfl
theorem kf_Law_lease_9 : mcGet K_Law_lease 9 = (9, false, .goto 6, 3, (15, 0, [], [])) := rfl
theorem kf_Law_lease_12 : mcGet K_Law_lease 12 = (12, false, .astore_n 3, 1, mcX0) := rfl
theorem kf_Law_lease_13 : mcGet K_Law_lease 13 = (13, false, .iconst 1, 1, mcX0) := rfl
theorem kf_Law_lease_14 : mcGet K_Law_lease 14 = (14, false, .ireturn, 1, mcX0) := rfl
theorem kf_Law_lease_15 : mcGet K_Law_lease 15 = (15, false, .iconst 0, 1, mcX0) := rfl
theorem kf_Law_lease_16 : mcGet K_Law_lease 16 = (16, false, .ireturn, 1, mcX0) := rfl
theorem kf_Law_lock_0 : mcGet K_Law_lock 0 = (0, false, .aload 4, 2, mcX0) := rfl
theorem kf_Law_lock_2 : mcGet K_Law_lock 2 = (2, false, .iconst 0, 1, mcX0) := rfl
theorem kf_Law_lock_3 : mcGet K_Law_lock 3 = (3, false, .aload_n 0, 1, mcX0) := rfl
theorem kf_Law_lock_4 : mcGet K_Law_lock 4 = (4, false, .iload_n 1, 1, mcX0) := rfl
theorem kf_Law_lock_5 : mcGet K_Law_lock 5 = (5, false, .iload_n 2, 1, mcX0) := rfl
theorem kf_Law_lock_6 : mcGet K_Law_lock 6 = (6, false, .iload_n 3, 1, mcX0) := rfl
theorem kf_Law_lock_7 : mcGet K_Law_lock 7 = (7, false, .invokevirtual 52, 3, (9, 4, [897, 898, 52, 900, 899, 4], [M_Srv_lock])) := rfl
theorem kf_Law_lock_10 : mcGet K_Law_lock 10 = (10, false, .i2l, 1, mcX0) := rfl
theorem kf_Law_lock_11 : mcGet K_Law_lock 11 = (11, false, .lastore, 1, mcX0) := rfl
theorem kf_Law_lock_12 : mcGet K_Law_lock 12 = (12, false, .goto 7, 3, (19, 0, [], [])) := rfl
theorem kf_Law_lock_15 : mcGet K_Law_lock 15 = (15, false, .astore 5, 2, mcX0) := rfl
theorem kf_Law_lock_17 : mcGet K_Law_lock 17 = (17, false, .iconst 1, 1, mcX0) := rfl
theorem kf_Law_lock_18 : mcGet K_Law_lock 18 = (18, false, .ireturn, 1, mcX0) := rfl
theorem kf_Law_lock_19 : mcGet K_Law_lock 19 = (19, false, .iconst 0, 1, mcX0) := rfl
theorem kf_Law_lock_20 : mcGet K_Law_lock 20 = (20, false, .ireturn, 1, mcX0) := rfl
theorem kf_Law_node_0 : mcGet K_Law_node 0 = (0, false, .aload_n 3, 1, mcX0) := rfl
theorem kf_Law_node_1 : mcGet K_Law_node 1 = (1, false, .iconst 0, 1, mcX0) := rfl
theorem kf_Law_node_2 : mcGet K_Law_node 2 = (2, false, .aload_n 0, 1, mcX0) := rfl
theorem kf_Law_node_3 : mcGet K_Law_node 3 = (3, false, .iload_n 1, 1, mcX0) := rfl
theorem kf_Law_node_4 : mcGet K_Law_node 4 = (4, false, .iload_n 2, 1, mcX0) := rfl
theorem kf_Law_node_5 : mcGet K_Law_node 5 = (5, false, .invokevirtual 46, 3, (9, 3, [878, 879, 52, 881, 880, 4], [M_Srv_node])) := rfl
theorem kf_Law_node_8 : mcGet K_Law_node 8 = (8, false, .i2l, 1, mcX0) := rfl
theorem kf_Law_node_9 : mcGet K_Law_node 9 = (9, false, .lastore, 1, mcX0) := rfl
theorem kf_Law_node_10 : mcGet K_Law_node 10 = (10, false, .goto 7, 3, (17, 0, [], [])) := rfl
theorem kf_Law_node_13 : mcGet K_Law_node 13 = (13, false, .astore 4, 2, mcX0) := rfl
theorem kf_Law_node_15 : mcGet K_Law_node 15 = (15, false, .iconst 1, 1, mcX0) := rfl
theorem kf_Law_node_16 : mcGet K_Law_node 16 = (16, false, .ireturn, 1, mcX0) := rfl
theorem kf_Law_node_17 : mcGet K_Law_node 17 = (17, false, .iconst 0, 1, mcX0) := rfl
theorem kf_Law_node_18 : mcGet K_Law_node 18 = (18, false, .ireturn, 1, mcX0) := rfl
theorem kf_Law_send_0 : mcGet K_Law_send 0 = (0, false, .aload_n 3, 1, mcX0) := rfl
theorem kf_Law_send_1 : mcGet K_Law_send 1 = (1, false, .iconst 0, 1, mcX0) := rfl
theorem kf_Law_send_2 : mcGet K_Law_send 2 = (2, false, .aload_n 0, 1, mcX0) := rfl
theorem kf_Law_send_3 : mcGet K_Law_send 3 = (3, false, .iload_n 1, 1, mcX0) := rfl
theorem kf_Law_send_4 : mcGet K_Law_send 4 = (4, false, .iload_n 2, 1, mcX0) := rfl
theorem kf_Law_send_5 : mcGet K_Law_send 5 = (5, false, .invokevirtual 21, 3, (9, 3, [513, 514, 52, 516, 515, 4], [M_Srv_send])) := rfl
theorem kf_Law_send_8 : mcGet K_Law_send 8 = (8, false, .i2l, 1, mcX0) := rfl
theorem kf_Law_send_9 : mcGet K_Law_send 9 = (9, false, .lastore, 1, mcX0) := rfl
theorem kf_Law_send_10 : mcGet K_Law_send 10 = (10, false, .goto 11, 3, (21, 0, [], [])) := rfl
theorem kf_Law_send_13 : mcGet K_Law_send 13 = (13, false, .astore 4, 2, mcX0) := rfl
theorem kf_Law_send_15 : mcGet K_Law_send 15 = (15, false, .iconst 1, 1, mcX0) := rfl
theorem kf_Law_send_16 : mcGet K_Law_send 16 = (16, false, .ireturn, 1, mcX0) := rfl
theorem kf_Law_send_17 : mcGet K_Law_send 17 = (17, false, .astore 4, 2, mcX0) := rfl
theorem kf_Law_send_19 : mcGet K_Law_send 19 = (19, false, .iconst 2, 1, mcX0) := rfl
theorem kf_Law_send_20 : mcGet K_Law_send 20 = (20, false, .ireturn, 1, mcX0) := rfl
theorem kf_Law_send_21 : mcGet K_Law_send 21 = (21, false, .iconst 0, 1, mcX0) := rfl
theorem kf_Law_send_22 : mcGet K_Law_send 22 = (22, false, .ireturn, 1, mcX0) := rfl
theorem kf_Law_start_0 : mcGet K_Law_start 0 = (0, false, .aload_n 2, 1, mcX0) := rfl
theorem kf_Law_start_1 : mcGet K_Law_start 1 = (1, false, .iconst 0, 1, mcX0) := rfl
theorem kf_Law_start_2 : mcGet K_Law_start 2 = (2, false, .aload_n 0, 1, mcX0) := rfl
theorem kf_Law_start_3 : mcGet K_Law_start 3 = (3, false, .iload_n 1, 1, mcX0) := rfl
theorem kf_Law_start_4 : mcGet K_Law_start 4 = (4, false, .invokevirtual 7, 3, (9, 2, [390, 391, 52, 393, 392, 2], [M_Srv_start])) := rfl
theorem kf_Law_start_7 : mcGet K_Law_start 7 = (7, false, .i2l, 1, mcX0) := rfl
theorem kf_Law_start_8 : mcGet K_Law_start 8 = (8, false, .lastore, 1, mcX0) := rfl
theorem kf_Law_start_9 : mcGet K_Law_start 9 = (9, false, .goto 6, 3, (15, 0, [], [])) := rfl
theorem kf_Law_start_12 : mcGet K_Law_start 12 = (12, false, .astore_n 3, 1, mcX0) := rfl
theorem kf_Law_start_13 : mcGet K_Law_start 13 = (13, false, .iconst 1, 1, mcX0) := rfl
theorem kf_Law_start_14 : mcGet K_Law_start 14 = (14, false, .ireturn, 1, mcX0) := rfl
theorem kf_Law_start_15 : mcGet K_Law_start 15 = (15, false, .iconst 0, 1, mcX0) := rfl
theorem kf_Law_start_16 : mcGet K_Law_start 16 = (16, false, .ireturn, 1, mcX0) := rfl
theorem kf_Law_step_0 : mcGet K_Law_step 0 = (0, false, .aload 8, 2, mcX0) := rfl
theorem kf_Law_step_2 : mcGet K_Law_step 2 = (2, false, .iconst 0, 1, mcX0) := rfl
theorem kf_Law_step_3 : mcGet K_Law_step 3 = (3, false, .aload_n 0, 1, mcX0) := rfl
theorem kf_Law_step_4 : mcGet K_Law_step 4 = (4, false, .iload_n 1, 1, mcX0) := rfl
theorem kf_Law_step_5 : mcGet K_Law_step 5 = (5, false, .iload_n 2, 1, mcX0) := rfl
theorem kf_Law_step_6 : mcGet K_Law_step 6 = (6, false, .iload_n 3, 1, mcX0) := rfl
theorem kf_Law_step_7 : mcGet K_Law_step 7 = (7, false, .iload 4, 2, mcX0) := rfl
theorem kf_Law_step_9 : mcGet K_Law_step 9 = (9, false, .iload 5, 2, mcX0) := rfl
theorem kf_Law_step_11 : mcGet K_Law_step 11 = (11, false, .iload 6, 2, mcX0) := rfl
theorem kf_Law_step_13 : mcGet K_Law_step 13 = (13, false, .iload 7, 2, mcX0) := rfl
theorem kf_Law_step_15 : mcGet K_Law_step 15 = (15, false, .invokevirtual 15, 3, (9, 8, [474, 475, 52, 477, 476, 9], [M_Srv_step])) := rfl
theorem kf_Law_step_18 : mcGet K_Law_step 18 = (18, false, .i2l, 1, mcX0) := rfl
theorem kf_Law_step_19 : mcGet K_Law_step 19 = (19, false, .lastore, 1, mcX0) := rfl
theorem kf_Law_step_20 : mcGet K_Law_step 20 = (20, false, .goto 11, 3, (31, 0, [], [])) := rfl
theorem kf_Law_step_23 : mcGet K_Law_step 23 = (23, false, .astore 9, 2, mcX0) := rfl
theorem kf_Law_step_25 : mcGet K_Law_step 25 = (25, false, .iconst 1, 1, mcX0) := rfl
theorem kf_Law_step_26 : mcGet K_Law_step 26 = (26, false, .ireturn, 1, mcX0) := rfl
theorem kf_Law_step_27 : mcGet K_Law_step 27 = (27, false, .astore 9, 2, mcX0) := rfl
theorem kf_Law_step_29 : mcGet K_Law_step 29 = (29, false, .iconst 2, 1, mcX0) := rfl
theorem kf_Law_step_30 : mcGet K_Law_step 30 = (30, false, .ireturn, 1, mcX0) := rfl
theorem kf_Law_step_31 : mcGet K_Law_step 31 = (31, false, .iconst 0, 1, mcX0) := rfl
theorem kf_Law_step_32 : mcGet K_Law_step 32 = (32, false, .ireturn, 1, mcX0) := rfl
theorem kf_Law_stop_0 : mcGet K_Law_stop 0 = (0, false, .aload_n 0, 1, mcX0) := rfl
theorem kf_Law_stop_1 : mcGet K_Law_stop 1 = (1, false, .iload_n 1, 1, mcX0) := rfl
theorem kf_Law_stop_2 : mcGet K_Law_stop 2 = (2, false, .invokevirtual 36, 3, (9, 2, [832, 833, 52, 835, 834, 2], [M_Srv_stop])) := rfl
theorem kf_Law_stop_5 : mcGet K_Law_stop 5 = (5, false, .goto 6, 3, (11, 0, [], [])) := rfl
theorem kf_Law_stop_8 : mcGet K_Law_stop 8 = (8, false, .astore_n 2, 1, mcX0) := rfl
theorem kf_Law_stop_9 : mcGet K_Law_stop 9 = (9, false, .iconst 1, 1, mcX0) := rfl
theorem kf_Law_stop_10 : mcGet K_Law_stop 10 = (10, false, .ireturn, 1, mcX0) := rfl
theorem kf_Law_stop_11 : mcGet K_Law_stop 11 = (11, false, .iconst 0, 1, mcX0) := rfl
theorem kf_Law_stop_12 : mcGet K_Law_stop 12 = (12, false, .ireturn, 1, mcX0) := rfl
theorem kf_Law_time_0 : mcGet K_Law_time 0 = (0, false, .aload_n 2, 1, mcX0) := rfl
theorem kf_Law_time_1 : mcGet K_Law_time 1 = (1, false, .iconst 0, 1, mcX0) := rfl
theorem kf_Law_time_2 : mcGet K_Law_time 2 = (2, false, .aload_n 0, 1, mcX0) := rfl
theorem kf_Law_time_3 : mcGet K_Law_time 3 = (3, false, .iload_n 1, 1, mcX0) := rfl
theorem kf_Law_time_4 : mcGet K_Law_time 4 = (4, false, .invokevirtual 43, 3, (9, 2, [855, 856, 52, 858, 857, 2], [M_Srv_time])) := rfl
theorem kf_Law_time_7 : mcGet K_Law_time 7 = (7, false, .i2l, 1, mcX0) := rfl
theorem kf_Law_time_8 : mcGet K_Law_time 8 = (8, false, .lastore, 1, mcX0) := rfl
theorem kf_Law_time_9 : mcGet K_Law_time 9 = (9, false, .goto 6, 3, (15, 0, [], [])) := rfl
theorem kf_Law_time_12 : mcGet K_Law_time 12 = (12, false, .astore_n 3, 1, mcX0) := rfl
theorem kf_Law_time_13 : mcGet K_Law_time 13 = (13, false, .iconst 1, 1, mcX0) := rfl
theorem kf_Law_time_14 : mcGet K_Law_time 14 = (14, false, .ireturn, 1, mcX0) := rfl
theorem kf_Law_time_15 : mcGet K_Law_time 15 = (15, false, .iconst 0, 1, mcX0) := rfl
theorem kf_Law_time_16 : mcGet K_Law_time 16 = (16, false, .ireturn, 1, mcX0) := rfl
theorem kf_Law_value_0 : mcGet K_Law_value 0 = (0, false, .aload 4, 2, mcX0) := rfl
theorem kf_Law_value_2 : mcGet K_Law_value 2 = (2, false, .iconst 0, 1, mcX0) := rfl
theorem kf_Law_value_3 : mcGet K_Law_value 3 = (3, false, .aload_n 0, 1, mcX0) := rfl
theorem kf_Law_value_4 : mcGet K_Law_value 4 = (4, false, .iload_n 1, 1, mcX0) := rfl
theorem kf_Law_value_5 : mcGet K_Law_value 5 = (5, false, .iload_n 2, 1, mcX0) := rfl
theorem kf_Law_value_6 : mcGet K_Law_value 6 = (6, false, .iload_n 3, 1, mcX0) := rfl
theorem kf_Law_value_7 : mcGet K_Law_value 7 = (7, false, .invokevirtual 33, 3, (9, 4, [825, 826, 52, 828, 827, 5], [M_Srv_value])) := rfl
theorem kf_Law_value_10 : mcGet K_Law_value 10 = (10, false, .i2l, 1, mcX0) := rfl
theorem kf_Law_value_11 : mcGet K_Law_value 11 = (11, false, .lastore, 1, mcX0) := rfl
theorem kf_Law_value_12 : mcGet K_Law_value 12 = (12, false, .goto 7, 3, (19, 0, [], [])) := rfl
theorem kf_Law_value_15 : mcGet K_Law_value 15 = (15, false, .astore 5, 2, mcX0) := rfl
theorem kf_Law_value_17 : mcGet K_Law_value 17 = (17, false, .iconst 1, 1, mcX0) := rfl
theorem kf_Law_value_18 : mcGet K_Law_value 18 = (18, false, .ireturn, 1, mcX0) := rfl
theorem kf_Law_value_19 : mcGet K_Law_value 19 = (19, false, .iconst 0, 1, mcX0) := rfl
theorem kf_Law_value_20 : mcGet K_Law_value 20 = (20, false, .ireturn, 1, mcX0) := rfl
