/-! 61.lawcodes: printed by wip/whole/prog/lc.py: the law's loop in pieces -/
def K_Lh : List mcEn := [(20, false, .iconst 0, 1, mcX0), (21, false, .istore 4, 2, mcX0), (23, true, .iload 4, 2, mcX0), (25, false, .aload_n 0, 1, mcX0), (26, false, .arraylength, 1, mcX0), (27, false, .bipush 8, 2, mcX0), (29, false, .isub, 1, mcX0), (30, false, .if_icmp .gt 1023, 3, (1053, 0, [], [])), (33, false, .aload_n 0, 1, mcX0), (34, false, .iload 4, 2, mcX0), (36, false, .iaload, 1, mcX0), (37, false, .bipush 15, 2, mcX0), (39, false, .iand, 1, mcX0), (40, false, .tableswitch 1007 0 15 #[80, 136, 268, 336, 420, 500, 580, 616, 640, 696, 709, 722, 790, 858, 938, 994], 80, (1047, 0, [120, 176, 308, 376, 460, 540, 620, 656, 680, 736, 749, 762, 830, 898, 978, 1034], [])), (1047, false, .iinc 4 8, 3, mcX0), (1050, false, .goto (-1027), 3, (23, 0, [], [])), (1053, false, .iconst 1, 1, mcX0), (1054, false, .ireturn, 1, (1, 0, [], [])), (120, true, .aload_n 1, 1, mcX0), (176, true, .aload_n 1, 1, mcX0), (308, true, .aload_n 1, 1, mcX0), (376, true, .aload_n 1, 1, mcX0), (460, true, .aload_n 1, 1, mcX0), (540, true, .aload_n 1, 1, mcX0), (620, true, .aload_n 1, 1, mcX0), (656, true, .aload_n 1, 1, mcX0), (680, true, .aload_n 1, 1, mcX0), (736, true, .aload_n 1, 1, mcX0), (749, true, .aload_n 1, 1, mcX0), (762, true, .aload_n 1, 1, mcX0), (830, true, .aload_n 1, 1, mcX0), (898, true, .aload_n 1, 1, mcX0), (978, true, .aload_n 1, 1, mcX0), (1034, true, .aload_n 1, 1, mcX0)]
theorem ok_Lh : mcKok M_Law_law K_Lh = true := by decide +kernel
theorem kf_Lh_20 : mcGet K_Lh 20 = (20, false, .iconst 0, 1, mcX0) := rfl
theorem kf_Lh_21 : mcGet K_Lh 21 = (21, false, .istore 4, 2, mcX0) := rfl
theorem kf_Lh_23 : mcGet K_Lh 23 = (23, true, .iload 4, 2, mcX0) := rfl
theorem kf_Lh_25 : mcGet K_Lh 25 = (25, false, .aload_n 0, 1, mcX0) := rfl
theorem kf_Lh_26 : mcGet K_Lh 26 = (26, false, .arraylength, 1, mcX0) := rfl
theorem kf_Lh_27 : mcGet K_Lh 27 = (27, false, .bipush 8, 2, mcX0) := rfl
theorem kf_Lh_29 : mcGet K_Lh 29 = (29, false, .isub, 1, mcX0) := rfl
theorem kf_Lh_30 : mcGet K_Lh 30 = (30, false, .if_icmp .gt 1023, 3, (1053, 0, [], [])) := rfl
theorem kf_Lh_33 : mcGet K_Lh 33 = (33, false, .aload_n 0, 1, mcX0) := rfl
theorem kf_Lh_34 : mcGet K_Lh 34 = (34, false, .iload 4, 2, mcX0) := rfl
theorem kf_Lh_36 : mcGet K_Lh 36 = (36, false, .iaload, 1, mcX0) := rfl
theorem kf_Lh_37 : mcGet K_Lh 37 = (37, false, .bipush 15, 2, mcX0) := rfl
theorem kf_Lh_39 : mcGet K_Lh 39 = (39, false, .iand, 1, mcX0) := rfl
theorem kf_Lh_40 : mcGet K_Lh 40 = (40, false, .tableswitch 1007 0 15 #[80, 136, 268, 336, 420, 500, 580, 616, 640, 696, 709, 722, 790, 858, 938, 994], 80, (1047, 0, [120, 176, 308, 376, 460, 540, 620, 656, 680, 736, 749, 762, 830, 898, 978, 1034], [])) := rfl
theorem kf_Lh_1047 : mcGet K_Lh 1047 = (1047, false, .iinc 4 8, 3, mcX0) := rfl
theorem kf_Lh_1050 : mcGet K_Lh 1050 = (1050, false, .goto (-1027), 3, (23, 0, [], [])) := rfl
theorem kf_Lh_1053 : mcGet K_Lh 1053 = (1053, false, .iconst 1, 1, mcX0) := rfl
theorem kf_Lh_1054 : mcGet K_Lh 1054 = (1054, false, .ireturn, 1, (1, 0, [], [])) := rfl
theorem kf_Lh_120 : mcGet K_Lh 120 = (120, true, .aload_n 1, 1, mcX0) := rfl
theorem kf_Lh_176 : mcGet K_Lh 176 = (176, true, .aload_n 1, 1, mcX0) := rfl
theorem kf_Lh_308 : mcGet K_Lh 308 = (308, true, .aload_n 1, 1, mcX0) := rfl
theorem kf_Lh_376 : mcGet K_Lh 376 = (376, true, .aload_n 1, 1, mcX0) := rfl
theorem kf_Lh_460 : mcGet K_Lh 460 = (460, true, .aload_n 1, 1, mcX0) := rfl
theorem kf_Lh_540 : mcGet K_Lh 540 = (540, true, .aload_n 1, 1, mcX0) := rfl
theorem kf_Lh_620 : mcGet K_Lh 620 = (620, true, .aload_n 1, 1, mcX0) := rfl
theorem kf_Lh_656 : mcGet K_Lh 656 = (656, true, .aload_n 1, 1, mcX0) := rfl
theorem kf_Lh_680 : mcGet K_Lh 680 = (680, true, .aload_n 1, 1, mcX0) := rfl
theorem kf_Lh_736 : mcGet K_Lh 736 = (736, true, .aload_n 1, 1, mcX0) := rfl
theorem kf_Lh_749 : mcGet K_Lh 749 = (749, true, .aload_n 1, 1, mcX0) := rfl
theorem kf_Lh_762 : mcGet K_Lh 762 = (762, true, .aload_n 1, 1, mcX0) := rfl
theorem kf_Lh_830 : mcGet K_Lh 830 = (830, true, .aload_n 1, 1, mcX0) := rfl
theorem kf_Lh_898 : mcGet K_Lh 898 = (898, true, .aload_n 1, 1, mcX0) := rfl
theorem kf_Lh_978 : mcGet K_Lh 978 = (978, true, .aload_n 1, 1, mcX0) := rfl
theorem kf_Lh_1034 : mcGet K_Lh 1034 = (1034, true, .aload_n 1, 1, mcX0) := rfl
def K_Lc0 : List mcEn := [(120, false, .aload_n 1, 1, mcX0), (121, false, .aload_n 0, 1, mcX0), (122, false, .iload 4, 2, mcX0), (124, false, .iconst 1, 1, mcX0), (125, false, .iadd, 1, mcX0), (126, false, .iaload, 1, mcX0), (127, false, .aload_n 3, 1, mcX0), (128, false, .invokestatic 62, 3, (0, 3, [386, 387, 51, 388, 0, 4], [M_Law_start])), (131, false, .istore 5, 2, mcX0), (133, false, .aload_n 2, 1, mcX0), (134, false, .aload_n 0, 1, mcX0), (135, false, .iload 4, 2, mcX0), (137, false, .iconst 1, 1, mcX0), (138, false, .iadd, 1, mcX0), (139, false, .iaload, 1, mcX0), (140, false, .invokevirtual 67, 3, (10, 2, [1006, 1007, 63, 1009, 1008, 4], [M_Mod_start])), (143, false, .istore 6, 2, mcX0), (145, false, .aload_n 2, 1, mcX0), (146, false, .invokevirtual 68, 3, (10, 1, [1002, 1003, 63, 1005, 1004, 1], [M_Mod_thrown])), (149, false, .iload 5, 2, mcX0), (151, false, .if_icmp .eq 5, 3, (156, 0, [], [])), (154, false, .iconst 0, 1, mcX0), (155, false, .ireturn, 1, (1, 0, [], [])), (156, false, .iload 5, 2, mcX0), (158, false, .ifCond .ne 15, 3, (173, 0, [], [])), (161, false, .aload_n 3, 1, mcX0), (162, false, .iconst 0, 1, mcX0), (163, false, .laload, 1, mcX0), (164, false, .iload 6, 2, mcX0), (166, false, .i2l, 1, mcX0), (167, false, .lcmp, 1, mcX0), (168, false, .ifCond .eq 5, 3, (173, 0, [], [])), (171, false, .iconst 0, 1, mcX0), (172, false, .ireturn, 1, (1, 0, [], [])), (173, false, .goto 874, 3, (1047, 0, [], [])), (1047, true, .iinc 4 8, 3, mcX0)]
theorem ok_Lc0 : mcKok M_Law_law K_Lc0 = true := by decide +kernel
theorem kf_Lc0_120 : mcGet K_Lc0 120 = (120, false, .aload_n 1, 1, mcX0) := rfl
theorem kf_Lc0_121 : mcGet K_Lc0 121 = (121, false, .aload_n 0, 1, mcX0) := rfl
theorem kf_Lc0_122 : mcGet K_Lc0 122 = (122, false, .iload 4, 2, mcX0) := rfl
theorem kf_Lc0_124 : mcGet K_Lc0 124 = (124, false, .iconst 1, 1, mcX0) := rfl
theorem kf_Lc0_125 : mcGet K_Lc0 125 = (125, false, .iadd, 1, mcX0) := rfl
theorem kf_Lc0_126 : mcGet K_Lc0 126 = (126, false, .iaload, 1, mcX0) := rfl
theorem kf_Lc0_127 : mcGet K_Lc0 127 = (127, false, .aload_n 3, 1, mcX0) := rfl
theorem kf_Lc0_128 : mcGet K_Lc0 128 = (128, false, .invokestatic 62, 3, (0, 3, [386, 387, 51, 388, 0, 4], [M_Law_start])) := rfl
theorem kf_Lc0_131 : mcGet K_Lc0 131 = (131, false, .istore 5, 2, mcX0) := rfl
theorem kf_Lc0_133 : mcGet K_Lc0 133 = (133, false, .aload_n 2, 1, mcX0) := rfl
theorem kf_Lc0_134 : mcGet K_Lc0 134 = (134, false, .aload_n 0, 1, mcX0) := rfl
theorem kf_Lc0_135 : mcGet K_Lc0 135 = (135, false, .iload 4, 2, mcX0) := rfl
theorem kf_Lc0_137 : mcGet K_Lc0 137 = (137, false, .iconst 1, 1, mcX0) := rfl
theorem kf_Lc0_138 : mcGet K_Lc0 138 = (138, false, .iadd, 1, mcX0) := rfl
theorem kf_Lc0_139 : mcGet K_Lc0 139 = (139, false, .iaload, 1, mcX0) := rfl
theorem kf_Lc0_140 : mcGet K_Lc0 140 = (140, false, .invokevirtual 67, 3, (10, 2, [1006, 1007, 63, 1009, 1008, 4], [M_Mod_start])) := rfl
theorem kf_Lc0_143 : mcGet K_Lc0 143 = (143, false, .istore 6, 2, mcX0) := rfl
theorem kf_Lc0_145 : mcGet K_Lc0 145 = (145, false, .aload_n 2, 1, mcX0) := rfl
theorem kf_Lc0_146 : mcGet K_Lc0 146 = (146, false, .invokevirtual 68, 3, (10, 1, [1002, 1003, 63, 1005, 1004, 1], [M_Mod_thrown])) := rfl
theorem kf_Lc0_149 : mcGet K_Lc0 149 = (149, false, .iload 5, 2, mcX0) := rfl
theorem kf_Lc0_151 : mcGet K_Lc0 151 = (151, false, .if_icmp .eq 5, 3, (156, 0, [], [])) := rfl
theorem kf_Lc0_154 : mcGet K_Lc0 154 = (154, false, .iconst 0, 1, mcX0) := rfl
theorem kf_Lc0_155 : mcGet K_Lc0 155 = (155, false, .ireturn, 1, (1, 0, [], [])) := rfl
theorem kf_Lc0_156 : mcGet K_Lc0 156 = (156, false, .iload 5, 2, mcX0) := rfl
theorem kf_Lc0_158 : mcGet K_Lc0 158 = (158, false, .ifCond .ne 15, 3, (173, 0, [], [])) := rfl
theorem kf_Lc0_161 : mcGet K_Lc0 161 = (161, false, .aload_n 3, 1, mcX0) := rfl
theorem kf_Lc0_162 : mcGet K_Lc0 162 = (162, false, .iconst 0, 1, mcX0) := rfl
theorem kf_Lc0_163 : mcGet K_Lc0 163 = (163, false, .laload, 1, mcX0) := rfl
theorem kf_Lc0_164 : mcGet K_Lc0 164 = (164, false, .iload 6, 2, mcX0) := rfl
theorem kf_Lc0_166 : mcGet K_Lc0 166 = (166, false, .i2l, 1, mcX0) := rfl
theorem kf_Lc0_167 : mcGet K_Lc0 167 = (167, false, .lcmp, 1, mcX0) := rfl
theorem kf_Lc0_168 : mcGet K_Lc0 168 = (168, false, .ifCond .eq 5, 3, (173, 0, [], [])) := rfl
theorem kf_Lc0_171 : mcGet K_Lc0 171 = (171, false, .iconst 0, 1, mcX0) := rfl
theorem kf_Lc0_172 : mcGet K_Lc0 172 = (172, false, .ireturn, 1, (1, 0, [], [])) := rfl
theorem kf_Lc0_173 : mcGet K_Lc0 173 = (173, false, .goto 874, 3, (1047, 0, [], [])) := rfl
theorem kf_Lc0_1047 : mcGet K_Lc0 1047 = (1047, true, .iinc 4 8, 3, mcX0) := rfl
def K_Lc1 : List mcEn := [(176, false, .aload_n 1, 1, mcX0), (177, false, .aload_n 0, 1, mcX0), (178, false, .iload 4, 2, mcX0), (180, false, .iconst 1, 1, mcX0), (181, false, .iadd, 1, mcX0), (182, false, .iaload, 1, mcX0), (183, false, .aload_n 0, 1, mcX0), (184, false, .iload 4, 2, mcX0), (186, false, .iconst 2, 1, mcX0), (187, false, .iadd, 1, mcX0), (188, false, .iaload, 1, mcX0), (189, false, .aload_n 0, 1, mcX0), (190, false, .iload 4, 2, mcX0), (192, false, .iconst 3, 1, mcX0), (193, false, .iadd, 1, mcX0), (194, false, .iaload, 1, mcX0), (195, false, .aload_n 0, 1, mcX0), (196, false, .iload 4, 2, mcX0), (198, false, .iconst 4, 1, mcX0), (199, false, .iadd, 1, mcX0), (200, false, .iaload, 1, mcX0), (201, false, .aload_n 0, 1, mcX0), (202, false, .iload 4, 2, mcX0), (204, false, .iconst 5, 1, mcX0), (205, false, .iadd, 1, mcX0), (206, false, .iaload, 1, mcX0), (207, false, .aload_n 0, 1, mcX0), (208, false, .iload 4, 2, mcX0), (210, false, .bipush 6, 2, mcX0), (212, false, .iadd, 1, mcX0), (213, false, .iaload, 1, mcX0), (214, false, .aload_n 0, 1, mcX0), (215, false, .iload 4, 2, mcX0), (217, false, .bipush 7, 2, mcX0), (219, false, .iadd, 1, mcX0), (220, false, .iaload, 1, mcX0), (221, false, .aload_n 3, 1, mcX0), (222, false, .invokestatic 72, 3, (0, 9, [470, 471, 51, 472, 0, 10], [M_Law_step])), (225, false, .istore 5, 2, mcX0), (227, false, .aload_n 2, 1, mcX0), (228, false, .aload_n 0, 1, mcX0), (229, false, .iload 4, 2, mcX0), (231, false, .iconst 1, 1, mcX0), (232, false, .iadd, 1, mcX0), (233, false, .iaload, 1, mcX0), (234, false, .aload_n 0, 1, mcX0), (235, false, .iload 4, 2, mcX0), (237, false, .iconst 2, 1, mcX0), (238, false, .iadd, 1, mcX0), (239, false, .iaload, 1, mcX0), (240, false, .aload_n 0, 1, mcX0), (241, false, .iload 4, 2, mcX0), (243, false, .iconst 3, 1, mcX0), (244, false, .iadd, 1, mcX0), (245, false, .iaload, 1, mcX0), (246, false, .aload_n 0, 1, mcX0), (247, false, .iload 4, 2, mcX0), (249, false, .iconst 4, 1, mcX0), (250, false, .iadd, 1, mcX0), (251, false, .iaload, 1, mcX0), (252, false, .aload_n 0, 1, mcX0), (253, false, .iload 4, 2, mcX0), (255, false, .iconst 5, 1, mcX0), (256, false, .iadd, 1, mcX0), (257, false, .iaload, 1, mcX0), (258, false, .aload_n 0, 1, mcX0), (259, false, .iload 4, 2, mcX0), (261, false, .bipush 6, 2, mcX0), (263, false, .iadd, 1, mcX0), (264, false, .iaload, 1, mcX0), (265, false, .aload_n 0, 1, mcX0), (266, false, .iload 4, 2, mcX0), (268, false, .bipush 7, 2, mcX0), (270, false, .iadd, 1, mcX0), (271, false, .iaload, 1, mcX0), (272, false, .invokevirtual 75, 3, (10, 8, [1017, 1018, 63, 1020, 1019, 11], [M_Mod_step])), (275, false, .istore 6, 2, mcX0), (277, false, .aload_n 2, 1, mcX0), (278, false, .invokevirtual 68, 3, (10, 1, [1002, 1003, 63, 1005, 1004, 1], [M_Mod_thrown])), (281, false, .iload 5, 2, mcX0), (283, false, .if_icmp .eq 5, 3, (288, 0, [], [])), (286, false, .iconst 0, 1, mcX0), (287, false, .ireturn, 1, (1, 0, [], [])), (288, false, .iload 5, 2, mcX0), (290, false, .ifCond .ne 15, 3, (305, 0, [], [])), (293, false, .aload_n 3, 1, mcX0), (294, false, .iconst 0, 1, mcX0), (295, false, .laload, 1, mcX0), (296, false, .iload 6, 2, mcX0), (298, false, .i2l, 1, mcX0), (299, false, .lcmp, 1, mcX0), (300, false, .ifCond .eq 5, 3, (305, 0, [], [])), (303, false, .iconst 0, 1, mcX0), (304, false, .ireturn, 1, (1, 0, [], [])), (305, false, .goto 742, 3, (1047, 0, [], [])), (1047, true, .iinc 4 8, 3, mcX0)]
theorem ok_Lc1 : mcKok M_Law_law K_Lc1 = true := by decide +kernel
theorem kf_Lc1_176 : mcGet K_Lc1 176 = (176, false, .aload_n 1, 1, mcX0) := rfl
theorem kf_Lc1_177 : mcGet K_Lc1 177 = (177, false, .aload_n 0, 1, mcX0) := rfl
theorem kf_Lc1_178 : mcGet K_Lc1 178 = (178, false, .iload 4, 2, mcX0) := rfl
theorem kf_Lc1_180 : mcGet K_Lc1 180 = (180, false, .iconst 1, 1, mcX0) := rfl
theorem kf_Lc1_181 : mcGet K_Lc1 181 = (181, false, .iadd, 1, mcX0) := rfl
theorem kf_Lc1_182 : mcGet K_Lc1 182 = (182, false, .iaload, 1, mcX0) := rfl
theorem kf_Lc1_183 : mcGet K_Lc1 183 = (183, false, .aload_n 0, 1, mcX0) := rfl
theorem kf_Lc1_184 : mcGet K_Lc1 184 = (184, false, .iload 4, 2, mcX0) := rfl
theorem kf_Lc1_186 : mcGet K_Lc1 186 = (186, false, .iconst 2, 1, mcX0) := rfl
theorem kf_Lc1_187 : mcGet K_Lc1 187 = (187, false, .iadd, 1, mcX0) := rfl
theorem kf_Lc1_188 : mcGet K_Lc1 188 = (188, false, .iaload, 1, mcX0) := rfl
theorem kf_Lc1_189 : mcGet K_Lc1 189 = (189, false, .aload_n 0, 1, mcX0) := rfl
theorem kf_Lc1_190 : mcGet K_Lc1 190 = (190, false, .iload 4, 2, mcX0) := rfl
theorem kf_Lc1_192 : mcGet K_Lc1 192 = (192, false, .iconst 3, 1, mcX0) := rfl
theorem kf_Lc1_193 : mcGet K_Lc1 193 = (193, false, .iadd, 1, mcX0) := rfl
theorem kf_Lc1_194 : mcGet K_Lc1 194 = (194, false, .iaload, 1, mcX0) := rfl
theorem kf_Lc1_195 : mcGet K_Lc1 195 = (195, false, .aload_n 0, 1, mcX0) := rfl
theorem kf_Lc1_196 : mcGet K_Lc1 196 = (196, false, .iload 4, 2, mcX0) := rfl
theorem kf_Lc1_198 : mcGet K_Lc1 198 = (198, false, .iconst 4, 1, mcX0) := rfl
theorem kf_Lc1_199 : mcGet K_Lc1 199 = (199, false, .iadd, 1, mcX0) := rfl
theorem kf_Lc1_200 : mcGet K_Lc1 200 = (200, false, .iaload, 1, mcX0) := rfl
theorem kf_Lc1_201 : mcGet K_Lc1 201 = (201, false, .aload_n 0, 1, mcX0) := rfl
theorem kf_Lc1_202 : mcGet K_Lc1 202 = (202, false, .iload 4, 2, mcX0) := rfl
theorem kf_Lc1_204 : mcGet K_Lc1 204 = (204, false, .iconst 5, 1, mcX0) := rfl
theorem kf_Lc1_205 : mcGet K_Lc1 205 = (205, false, .iadd, 1, mcX0) := rfl
theorem kf_Lc1_206 : mcGet K_Lc1 206 = (206, false, .iaload, 1, mcX0) := rfl
theorem kf_Lc1_207 : mcGet K_Lc1 207 = (207, false, .aload_n 0, 1, mcX0) := rfl
theorem kf_Lc1_208 : mcGet K_Lc1 208 = (208, false, .iload 4, 2, mcX0) := rfl
theorem kf_Lc1_210 : mcGet K_Lc1 210 = (210, false, .bipush 6, 2, mcX0) := rfl
theorem kf_Lc1_212 : mcGet K_Lc1 212 = (212, false, .iadd, 1, mcX0) := rfl
theorem kf_Lc1_213 : mcGet K_Lc1 213 = (213, false, .iaload, 1, mcX0) := rfl
theorem kf_Lc1_214 : mcGet K_Lc1 214 = (214, false, .aload_n 0, 1, mcX0) := rfl
theorem kf_Lc1_215 : mcGet K_Lc1 215 = (215, false, .iload 4, 2, mcX0) := rfl
theorem kf_Lc1_217 : mcGet K_Lc1 217 = (217, false, .bipush 7, 2, mcX0) := rfl
theorem kf_Lc1_219 : mcGet K_Lc1 219 = (219, false, .iadd, 1, mcX0) := rfl
theorem kf_Lc1_220 : mcGet K_Lc1 220 = (220, false, .iaload, 1, mcX0) := rfl
theorem kf_Lc1_221 : mcGet K_Lc1 221 = (221, false, .aload_n 3, 1, mcX0) := rfl
theorem kf_Lc1_222 : mcGet K_Lc1 222 = (222, false, .invokestatic 72, 3, (0, 9, [470, 471, 51, 472, 0, 10], [M_Law_step])) := rfl
theorem kf_Lc1_225 : mcGet K_Lc1 225 = (225, false, .istore 5, 2, mcX0) := rfl
theorem kf_Lc1_227 : mcGet K_Lc1 227 = (227, false, .aload_n 2, 1, mcX0) := rfl
theorem kf_Lc1_228 : mcGet K_Lc1 228 = (228, false, .aload_n 0, 1, mcX0) := rfl
theorem kf_Lc1_229 : mcGet K_Lc1 229 = (229, false, .iload 4, 2, mcX0) := rfl
theorem kf_Lc1_231 : mcGet K_Lc1 231 = (231, false, .iconst 1, 1, mcX0) := rfl
theorem kf_Lc1_232 : mcGet K_Lc1 232 = (232, false, .iadd, 1, mcX0) := rfl
theorem kf_Lc1_233 : mcGet K_Lc1 233 = (233, false, .iaload, 1, mcX0) := rfl
theorem kf_Lc1_234 : mcGet K_Lc1 234 = (234, false, .aload_n 0, 1, mcX0) := rfl
theorem kf_Lc1_235 : mcGet K_Lc1 235 = (235, false, .iload 4, 2, mcX0) := rfl
theorem kf_Lc1_237 : mcGet K_Lc1 237 = (237, false, .iconst 2, 1, mcX0) := rfl
theorem kf_Lc1_238 : mcGet K_Lc1 238 = (238, false, .iadd, 1, mcX0) := rfl
theorem kf_Lc1_239 : mcGet K_Lc1 239 = (239, false, .iaload, 1, mcX0) := rfl
theorem kf_Lc1_240 : mcGet K_Lc1 240 = (240, false, .aload_n 0, 1, mcX0) := rfl
theorem kf_Lc1_241 : mcGet K_Lc1 241 = (241, false, .iload 4, 2, mcX0) := rfl
theorem kf_Lc1_243 : mcGet K_Lc1 243 = (243, false, .iconst 3, 1, mcX0) := rfl
theorem kf_Lc1_244 : mcGet K_Lc1 244 = (244, false, .iadd, 1, mcX0) := rfl
theorem kf_Lc1_245 : mcGet K_Lc1 245 = (245, false, .iaload, 1, mcX0) := rfl
theorem kf_Lc1_246 : mcGet K_Lc1 246 = (246, false, .aload_n 0, 1, mcX0) := rfl
theorem kf_Lc1_247 : mcGet K_Lc1 247 = (247, false, .iload 4, 2, mcX0) := rfl
theorem kf_Lc1_249 : mcGet K_Lc1 249 = (249, false, .iconst 4, 1, mcX0) := rfl
theorem kf_Lc1_250 : mcGet K_Lc1 250 = (250, false, .iadd, 1, mcX0) := rfl
theorem kf_Lc1_251 : mcGet K_Lc1 251 = (251, false, .iaload, 1, mcX0) := rfl
theorem kf_Lc1_252 : mcGet K_Lc1 252 = (252, false, .aload_n 0, 1, mcX0) := rfl
theorem kf_Lc1_253 : mcGet K_Lc1 253 = (253, false, .iload 4, 2, mcX0) := rfl
theorem kf_Lc1_255 : mcGet K_Lc1 255 = (255, false, .iconst 5, 1, mcX0) := rfl
theorem kf_Lc1_256 : mcGet K_Lc1 256 = (256, false, .iadd, 1, mcX0) := rfl
theorem kf_Lc1_257 : mcGet K_Lc1 257 = (257, false, .iaload, 1, mcX0) := rfl
theorem kf_Lc1_258 : mcGet K_Lc1 258 = (258, false, .aload_n 0, 1, mcX0) := rfl
theorem kf_Lc1_259 : mcGet K_Lc1 259 = (259, false, .iload 4, 2, mcX0) := rfl
theorem kf_Lc1_261 : mcGet K_Lc1 261 = (261, false, .bipush 6, 2, mcX0) := rfl
theorem kf_Lc1_263 : mcGet K_Lc1 263 = (263, false, .iadd, 1, mcX0) := rfl
theorem kf_Lc1_264 : mcGet K_Lc1 264 = (264, false, .iaload, 1, mcX0) := rfl
theorem kf_Lc1_265 : mcGet K_Lc1 265 = (265, false, .aload_n 0, 1, mcX0) := rfl
theorem kf_Lc1_266 : mcGet K_Lc1 266 = (266, false, .iload 4, 2, mcX0) := rfl
theorem kf_Lc1_268 : mcGet K_Lc1 268 = (268, false, .bipush 7, 2, mcX0) := rfl
theorem kf_Lc1_270 : mcGet K_Lc1 270 = (270, false, .iadd, 1, mcX0) := rfl
theorem kf_Lc1_271 : mcGet K_Lc1 271 = (271, false, .iaload, 1, mcX0) := rfl
theorem kf_Lc1_272 : mcGet K_Lc1 272 = (272, false, .invokevirtual 75, 3, (10, 8, [1017, 1018, 63, 1020, 1019, 11], [M_Mod_step])) := rfl
theorem kf_Lc1_275 : mcGet K_Lc1 275 = (275, false, .istore 6, 2, mcX0) := rfl
theorem kf_Lc1_277 : mcGet K_Lc1 277 = (277, false, .aload_n 2, 1, mcX0) := rfl
theorem kf_Lc1_278 : mcGet K_Lc1 278 = (278, false, .invokevirtual 68, 3, (10, 1, [1002, 1003, 63, 1005, 1004, 1], [M_Mod_thrown])) := rfl
theorem kf_Lc1_281 : mcGet K_Lc1 281 = (281, false, .iload 5, 2, mcX0) := rfl
theorem kf_Lc1_283 : mcGet K_Lc1 283 = (283, false, .if_icmp .eq 5, 3, (288, 0, [], [])) := rfl
theorem kf_Lc1_286 : mcGet K_Lc1 286 = (286, false, .iconst 0, 1, mcX0) := rfl
theorem kf_Lc1_287 : mcGet K_Lc1 287 = (287, false, .ireturn, 1, (1, 0, [], [])) := rfl
theorem kf_Lc1_288 : mcGet K_Lc1 288 = (288, false, .iload 5, 2, mcX0) := rfl
theorem kf_Lc1_290 : mcGet K_Lc1 290 = (290, false, .ifCond .ne 15, 3, (305, 0, [], [])) := rfl
theorem kf_Lc1_293 : mcGet K_Lc1 293 = (293, false, .aload_n 3, 1, mcX0) := rfl
theorem kf_Lc1_294 : mcGet K_Lc1 294 = (294, false, .iconst 0, 1, mcX0) := rfl
theorem kf_Lc1_295 : mcGet K_Lc1 295 = (295, false, .laload, 1, mcX0) := rfl
theorem kf_Lc1_296 : mcGet K_Lc1 296 = (296, false, .iload 6, 2, mcX0) := rfl
theorem kf_Lc1_298 : mcGet K_Lc1 298 = (298, false, .i2l, 1, mcX0) := rfl
theorem kf_Lc1_299 : mcGet K_Lc1 299 = (299, false, .lcmp, 1, mcX0) := rfl
theorem kf_Lc1_300 : mcGet K_Lc1 300 = (300, false, .ifCond .eq 5, 3, (305, 0, [], [])) := rfl
theorem kf_Lc1_303 : mcGet K_Lc1 303 = (303, false, .iconst 0, 1, mcX0) := rfl
theorem kf_Lc1_304 : mcGet K_Lc1 304 = (304, false, .ireturn, 1, (1, 0, [], [])) := rfl
theorem kf_Lc1_305 : mcGet K_Lc1 305 = (305, false, .goto 742, 3, (1047, 0, [], [])) := rfl
theorem kf_Lc1_1047 : mcGet K_Lc1 1047 = (1047, true, .iinc 4 8, 3, mcX0) := rfl
def K_Lc2 : List mcEn := [(308, false, .aload_n 1, 1, mcX0), (309, false, .aload_n 0, 1, mcX0), (310, false, .iload 4, 2, mcX0), (312, false, .iconst 1, 1, mcX0), (313, false, .iadd, 1, mcX0), (314, false, .iaload, 1, mcX0), (315, false, .aload_n 0, 1, mcX0), (316, false, .iload 4, 2, mcX0), (318, false, .iconst 2, 1, mcX0), (319, false, .iadd, 1, mcX0), (320, false, .iaload, 1, mcX0), (321, false, .aload_n 3, 1, mcX0), (322, false, .invokestatic 76, 3, (0, 4, [510, 511, 51, 512, 0, 5], [M_Law_send])), (325, false, .istore 5, 2, mcX0), (327, false, .aload_n 2, 1, mcX0), (328, false, .aload_n 0, 1, mcX0), (329, false, .iload 4, 2, mcX0), (331, false, .iconst 1, 1, mcX0), (332, false, .iadd, 1, mcX0), (333, false, .iaload, 1, mcX0), (334, false, .aload_n 0, 1, mcX0), (335, false, .iload 4, 2, mcX0), (337, false, .iconst 2, 1, mcX0), (338, false, .iadd, 1, mcX0), (339, false, .iaload, 1, mcX0), (340, false, .invokevirtual 79, 3, (10, 3, [1024, 1025, 63, 1027, 1026, 7], [M_Mod_send])), (343, false, .istore 6, 2, mcX0), (345, false, .aload_n 2, 1, mcX0), (346, false, .invokevirtual 68, 3, (10, 1, [1002, 1003, 63, 1005, 1004, 1], [M_Mod_thrown])), (349, false, .iload 5, 2, mcX0), (351, false, .if_icmp .eq 5, 3, (356, 0, [], [])), (354, false, .iconst 0, 1, mcX0), (355, false, .ireturn, 1, (1, 0, [], [])), (356, false, .iload 5, 2, mcX0), (358, false, .ifCond .ne 15, 3, (373, 0, [], [])), (361, false, .aload_n 3, 1, mcX0), (362, false, .iconst 0, 1, mcX0), (363, false, .laload, 1, mcX0), (364, false, .iload 6, 2, mcX0), (366, false, .i2l, 1, mcX0), (367, false, .lcmp, 1, mcX0), (368, false, .ifCond .eq 5, 3, (373, 0, [], [])), (371, false, .iconst 0, 1, mcX0), (372, false, .ireturn, 1, (1, 0, [], [])), (373, false, .goto 674, 3, (1047, 0, [], [])), (1047, true, .iinc 4 8, 3, mcX0)]
theorem ok_Lc2 : mcKok M_Law_law K_Lc2 = true := by decide +kernel
theorem kf_Lc2_308 : mcGet K_Lc2 308 = (308, false, .aload_n 1, 1, mcX0) := rfl
theorem kf_Lc2_309 : mcGet K_Lc2 309 = (309, false, .aload_n 0, 1, mcX0) := rfl
theorem kf_Lc2_310 : mcGet K_Lc2 310 = (310, false, .iload 4, 2, mcX0) := rfl
theorem kf_Lc2_312 : mcGet K_Lc2 312 = (312, false, .iconst 1, 1, mcX0) := rfl
theorem kf_Lc2_313 : mcGet K_Lc2 313 = (313, false, .iadd, 1, mcX0) := rfl
theorem kf_Lc2_314 : mcGet K_Lc2 314 = (314, false, .iaload, 1, mcX0) := rfl
theorem kf_Lc2_315 : mcGet K_Lc2 315 = (315, false, .aload_n 0, 1, mcX0) := rfl
theorem kf_Lc2_316 : mcGet K_Lc2 316 = (316, false, .iload 4, 2, mcX0) := rfl
theorem kf_Lc2_318 : mcGet K_Lc2 318 = (318, false, .iconst 2, 1, mcX0) := rfl
theorem kf_Lc2_319 : mcGet K_Lc2 319 = (319, false, .iadd, 1, mcX0) := rfl
theorem kf_Lc2_320 : mcGet K_Lc2 320 = (320, false, .iaload, 1, mcX0) := rfl
theorem kf_Lc2_321 : mcGet K_Lc2 321 = (321, false, .aload_n 3, 1, mcX0) := rfl
theorem kf_Lc2_322 : mcGet K_Lc2 322 = (322, false, .invokestatic 76, 3, (0, 4, [510, 511, 51, 512, 0, 5], [M_Law_send])) := rfl
theorem kf_Lc2_325 : mcGet K_Lc2 325 = (325, false, .istore 5, 2, mcX0) := rfl
theorem kf_Lc2_327 : mcGet K_Lc2 327 = (327, false, .aload_n 2, 1, mcX0) := rfl
theorem kf_Lc2_328 : mcGet K_Lc2 328 = (328, false, .aload_n 0, 1, mcX0) := rfl
theorem kf_Lc2_329 : mcGet K_Lc2 329 = (329, false, .iload 4, 2, mcX0) := rfl
theorem kf_Lc2_331 : mcGet K_Lc2 331 = (331, false, .iconst 1, 1, mcX0) := rfl
theorem kf_Lc2_332 : mcGet K_Lc2 332 = (332, false, .iadd, 1, mcX0) := rfl
theorem kf_Lc2_333 : mcGet K_Lc2 333 = (333, false, .iaload, 1, mcX0) := rfl
theorem kf_Lc2_334 : mcGet K_Lc2 334 = (334, false, .aload_n 0, 1, mcX0) := rfl
theorem kf_Lc2_335 : mcGet K_Lc2 335 = (335, false, .iload 4, 2, mcX0) := rfl
theorem kf_Lc2_337 : mcGet K_Lc2 337 = (337, false, .iconst 2, 1, mcX0) := rfl
theorem kf_Lc2_338 : mcGet K_Lc2 338 = (338, false, .iadd, 1, mcX0) := rfl
theorem kf_Lc2_339 : mcGet K_Lc2 339 = (339, false, .iaload, 1, mcX0) := rfl
theorem kf_Lc2_340 : mcGet K_Lc2 340 = (340, false, .invokevirtual 79, 3, (10, 3, [1024, 1025, 63, 1027, 1026, 7], [M_Mod_send])) := rfl
theorem kf_Lc2_343 : mcGet K_Lc2 343 = (343, false, .istore 6, 2, mcX0) := rfl
theorem kf_Lc2_345 : mcGet K_Lc2 345 = (345, false, .aload_n 2, 1, mcX0) := rfl
theorem kf_Lc2_346 : mcGet K_Lc2 346 = (346, false, .invokevirtual 68, 3, (10, 1, [1002, 1003, 63, 1005, 1004, 1], [M_Mod_thrown])) := rfl
theorem kf_Lc2_349 : mcGet K_Lc2 349 = (349, false, .iload 5, 2, mcX0) := rfl
theorem kf_Lc2_351 : mcGet K_Lc2 351 = (351, false, .if_icmp .eq 5, 3, (356, 0, [], [])) := rfl
theorem kf_Lc2_354 : mcGet K_Lc2 354 = (354, false, .iconst 0, 1, mcX0) := rfl
theorem kf_Lc2_355 : mcGet K_Lc2 355 = (355, false, .ireturn, 1, (1, 0, [], [])) := rfl
theorem kf_Lc2_356 : mcGet K_Lc2 356 = (356, false, .iload 5, 2, mcX0) := rfl
theorem kf_Lc2_358 : mcGet K_Lc2 358 = (358, false, .ifCond .ne 15, 3, (373, 0, [], [])) := rfl
theorem kf_Lc2_361 : mcGet K_Lc2 361 = (361, false, .aload_n 3, 1, mcX0) := rfl
theorem kf_Lc2_362 : mcGet K_Lc2 362 = (362, false, .iconst 0, 1, mcX0) := rfl
theorem kf_Lc2_363 : mcGet K_Lc2 363 = (363, false, .laload, 1, mcX0) := rfl
theorem kf_Lc2_364 : mcGet K_Lc2 364 = (364, false, .iload 6, 2, mcX0) := rfl
theorem kf_Lc2_366 : mcGet K_Lc2 366 = (366, false, .i2l, 1, mcX0) := rfl
theorem kf_Lc2_367 : mcGet K_Lc2 367 = (367, false, .lcmp, 1, mcX0) := rfl
theorem kf_Lc2_368 : mcGet K_Lc2 368 = (368, false, .ifCond .eq 5, 3, (373, 0, [], [])) := rfl
theorem kf_Lc2_371 : mcGet K_Lc2 371 = (371, false, .iconst 0, 1, mcX0) := rfl
theorem kf_Lc2_372 : mcGet K_Lc2 372 = (372, false, .ireturn, 1, (1, 0, [], [])) := rfl
theorem kf_Lc2_373 : mcGet K_Lc2 373 = (373, false, .goto 674, 3, (1047, 0, [], [])) := rfl
theorem kf_Lc2_1047 : mcGet K_Lc2 1047 = (1047, true, .iinc 4 8, 3, mcX0) := rfl
def K_Lc3 : List mcEn := [(376, false, .aload_n 1, 1, mcX0), (377, false, .aload_n 0, 1, mcX0), (378, false, .iload 4, 2, mcX0), (380, false, .iconst 1, 1, mcX0), (381, false, .iadd, 1, mcX0), (382, false, .iaload, 1, mcX0), (383, false, .aload_n 0, 1, mcX0), (384, false, .iload 4, 2, mcX0), (386, false, .iconst 2, 1, mcX0), (387, false, .iadd, 1, mcX0), (388, false, .iaload, 1, mcX0), (389, false, .ifCond .eq 7, 3, (396, 0, [], [])), (392, false, .iconst 1, 1, mcX0), (393, false, .goto 4, 3, (397, 0, [], [])), (396, false, .iconst 0, 1, mcX0), (397, false, .aload_n 3, 1, mcX0), (398, false, .invokestatic 80, 3, (0, 4, [532, 533, 51, 534, 0, 5], [M_Law_carry])), (401, false, .istore 5, 2, mcX0), (403, false, .aload_n 2, 1, mcX0), (404, false, .aload_n 0, 1, mcX0), (405, false, .iload 4, 2, mcX0), (407, false, .iconst 1, 1, mcX0), (408, false, .iadd, 1, mcX0), (409, false, .iaload, 1, mcX0), (410, false, .aload_n 0, 1, mcX0), (411, false, .iload 4, 2, mcX0), (413, false, .iconst 2, 1, mcX0), (414, false, .iadd, 1, mcX0), (415, false, .iaload, 1, mcX0), (416, false, .ifCond .eq 7, 3, (423, 0, [], [])), (419, false, .iconst 1, 1, mcX0), (420, false, .goto 4, 3, (424, 0, [], [])), (423, false, .iconst 0, 1, mcX0), (424, false, .invokevirtual 83, 3, (10, 3, [1040, 1041, 63, 1043, 1042, 13], [M_Mod_carry])), (427, false, .istore 6, 2, mcX0), (429, false, .aload_n 2, 1, mcX0), (430, false, .invokevirtual 68, 3, (10, 1, [1002, 1003, 63, 1005, 1004, 1], [M_Mod_thrown])), (433, false, .iload 5, 2, mcX0), (435, false, .if_icmp .eq 5, 3, (440, 0, [], [])), (438, false, .iconst 0, 1, mcX0), (439, false, .ireturn, 1, (1, 0, [], [])), (440, false, .iload 5, 2, mcX0), (442, false, .ifCond .ne 15, 3, (457, 0, [], [])), (445, false, .aload_n 3, 1, mcX0), (446, false, .iconst 0, 1, mcX0), (447, false, .laload, 1, mcX0), (448, false, .iload 6, 2, mcX0), (450, false, .i2l, 1, mcX0), (451, false, .lcmp, 1, mcX0), (452, false, .ifCond .eq 5, 3, (457, 0, [], [])), (455, false, .iconst 0, 1, mcX0), (456, false, .ireturn, 1, (1, 0, [], [])), (457, false, .goto 590, 3, (1047, 0, [], [])), (1047, true, .iinc 4 8, 3, mcX0)]
theorem ok_Lc3 : mcKok M_Law_law K_Lc3 = true := by decide +kernel
theorem kf_Lc3_376 : mcGet K_Lc3 376 = (376, false, .aload_n 1, 1, mcX0) := rfl
theorem kf_Lc3_377 : mcGet K_Lc3 377 = (377, false, .aload_n 0, 1, mcX0) := rfl
theorem kf_Lc3_378 : mcGet K_Lc3 378 = (378, false, .iload 4, 2, mcX0) := rfl
theorem kf_Lc3_380 : mcGet K_Lc3 380 = (380, false, .iconst 1, 1, mcX0) := rfl
theorem kf_Lc3_381 : mcGet K_Lc3 381 = (381, false, .iadd, 1, mcX0) := rfl
theorem kf_Lc3_382 : mcGet K_Lc3 382 = (382, false, .iaload, 1, mcX0) := rfl
theorem kf_Lc3_383 : mcGet K_Lc3 383 = (383, false, .aload_n 0, 1, mcX0) := rfl
theorem kf_Lc3_384 : mcGet K_Lc3 384 = (384, false, .iload 4, 2, mcX0) := rfl
theorem kf_Lc3_386 : mcGet K_Lc3 386 = (386, false, .iconst 2, 1, mcX0) := rfl
theorem kf_Lc3_387 : mcGet K_Lc3 387 = (387, false, .iadd, 1, mcX0) := rfl
theorem kf_Lc3_388 : mcGet K_Lc3 388 = (388, false, .iaload, 1, mcX0) := rfl
theorem kf_Lc3_389 : mcGet K_Lc3 389 = (389, false, .ifCond .eq 7, 3, (396, 0, [], [])) := rfl
theorem kf_Lc3_392 : mcGet K_Lc3 392 = (392, false, .iconst 1, 1, mcX0) := rfl
theorem kf_Lc3_393 : mcGet K_Lc3 393 = (393, false, .goto 4, 3, (397, 0, [], [])) := rfl
theorem kf_Lc3_396 : mcGet K_Lc3 396 = (396, false, .iconst 0, 1, mcX0) := rfl
theorem kf_Lc3_397 : mcGet K_Lc3 397 = (397, false, .aload_n 3, 1, mcX0) := rfl
theorem kf_Lc3_398 : mcGet K_Lc3 398 = (398, false, .invokestatic 80, 3, (0, 4, [532, 533, 51, 534, 0, 5], [M_Law_carry])) := rfl
theorem kf_Lc3_401 : mcGet K_Lc3 401 = (401, false, .istore 5, 2, mcX0) := rfl
theorem kf_Lc3_403 : mcGet K_Lc3 403 = (403, false, .aload_n 2, 1, mcX0) := rfl
theorem kf_Lc3_404 : mcGet K_Lc3 404 = (404, false, .aload_n 0, 1, mcX0) := rfl
theorem kf_Lc3_405 : mcGet K_Lc3 405 = (405, false, .iload 4, 2, mcX0) := rfl
theorem kf_Lc3_407 : mcGet K_Lc3 407 = (407, false, .iconst 1, 1, mcX0) := rfl
theorem kf_Lc3_408 : mcGet K_Lc3 408 = (408, false, .iadd, 1, mcX0) := rfl
theorem kf_Lc3_409 : mcGet K_Lc3 409 = (409, false, .iaload, 1, mcX0) := rfl
theorem kf_Lc3_410 : mcGet K_Lc3 410 = (410, false, .aload_n 0, 1, mcX0) := rfl
theorem kf_Lc3_411 : mcGet K_Lc3 411 = (411, false, .iload 4, 2, mcX0) := rfl
theorem kf_Lc3_413 : mcGet K_Lc3 413 = (413, false, .iconst 2, 1, mcX0) := rfl
theorem kf_Lc3_414 : mcGet K_Lc3 414 = (414, false, .iadd, 1, mcX0) := rfl
theorem kf_Lc3_415 : mcGet K_Lc3 415 = (415, false, .iaload, 1, mcX0) := rfl
theorem kf_Lc3_416 : mcGet K_Lc3 416 = (416, false, .ifCond .eq 7, 3, (423, 0, [], [])) := rfl
theorem kf_Lc3_419 : mcGet K_Lc3 419 = (419, false, .iconst 1, 1, mcX0) := rfl
theorem kf_Lc3_420 : mcGet K_Lc3 420 = (420, false, .goto 4, 3, (424, 0, [], [])) := rfl
theorem kf_Lc3_423 : mcGet K_Lc3 423 = (423, false, .iconst 0, 1, mcX0) := rfl
theorem kf_Lc3_424 : mcGet K_Lc3 424 = (424, false, .invokevirtual 83, 3, (10, 3, [1040, 1041, 63, 1043, 1042, 13], [M_Mod_carry])) := rfl
theorem kf_Lc3_427 : mcGet K_Lc3 427 = (427, false, .istore 6, 2, mcX0) := rfl
theorem kf_Lc3_429 : mcGet K_Lc3 429 = (429, false, .aload_n 2, 1, mcX0) := rfl
theorem kf_Lc3_430 : mcGet K_Lc3 430 = (430, false, .invokevirtual 68, 3, (10, 1, [1002, 1003, 63, 1005, 1004, 1], [M_Mod_thrown])) := rfl
theorem kf_Lc3_433 : mcGet K_Lc3 433 = (433, false, .iload 5, 2, mcX0) := rfl
theorem kf_Lc3_435 : mcGet K_Lc3 435 = (435, false, .if_icmp .eq 5, 3, (440, 0, [], [])) := rfl
theorem kf_Lc3_438 : mcGet K_Lc3 438 = (438, false, .iconst 0, 1, mcX0) := rfl
theorem kf_Lc3_439 : mcGet K_Lc3 439 = (439, false, .ireturn, 1, (1, 0, [], [])) := rfl
theorem kf_Lc3_440 : mcGet K_Lc3 440 = (440, false, .iload 5, 2, mcX0) := rfl
theorem kf_Lc3_442 : mcGet K_Lc3 442 = (442, false, .ifCond .ne 15, 3, (457, 0, [], [])) := rfl
theorem kf_Lc3_445 : mcGet K_Lc3 445 = (445, false, .aload_n 3, 1, mcX0) := rfl
theorem kf_Lc3_446 : mcGet K_Lc3 446 = (446, false, .iconst 0, 1, mcX0) := rfl
theorem kf_Lc3_447 : mcGet K_Lc3 447 = (447, false, .laload, 1, mcX0) := rfl
theorem kf_Lc3_448 : mcGet K_Lc3 448 = (448, false, .iload 6, 2, mcX0) := rfl
theorem kf_Lc3_450 : mcGet K_Lc3 450 = (450, false, .i2l, 1, mcX0) := rfl
theorem kf_Lc3_451 : mcGet K_Lc3 451 = (451, false, .lcmp, 1, mcX0) := rfl
theorem kf_Lc3_452 : mcGet K_Lc3 452 = (452, false, .ifCond .eq 5, 3, (457, 0, [], [])) := rfl
theorem kf_Lc3_455 : mcGet K_Lc3 455 = (455, false, .iconst 0, 1, mcX0) := rfl
theorem kf_Lc3_456 : mcGet K_Lc3 456 = (456, false, .ireturn, 1, (1, 0, [], [])) := rfl
theorem kf_Lc3_457 : mcGet K_Lc3 457 = (457, false, .goto 590, 3, (1047, 0, [], [])) := rfl
theorem kf_Lc3_1047 : mcGet K_Lc3 1047 = (1047, true, .iinc 4 8, 3, mcX0) := rfl
def K_Lc4 : List mcEn := [(460, false, .aload_n 1, 1, mcX0), (461, false, .aload_n 0, 1, mcX0), (462, false, .iload 4, 2, mcX0), (464, false, .iconst 1, 1, mcX0), (465, false, .iadd, 1, mcX0), (466, false, .iaload, 1, mcX0), (467, false, .aload_n 0, 1, mcX0), (468, false, .iload 4, 2, mcX0), (470, false, .iconst 2, 1, mcX0), (471, false, .iadd, 1, mcX0), (472, false, .iaload, 1, mcX0), (473, false, .aload_n 0, 1, mcX0), (474, false, .iload 4, 2, mcX0), (476, false, .iconst 3, 1, mcX0), (477, false, .iadd, 1, mcX0), (478, false, .iaload, 1, mcX0), (479, false, .aload_n 3, 1, mcX0), (480, false, .invokestatic 84, 3, (0, 5, [811, 812, 51, 813, 0, 6], [M_Law_code])), (483, false, .istore 5, 2, mcX0), (485, false, .aload_n 2, 1, mcX0), (486, false, .aload_n 0, 1, mcX0), (487, false, .iload 4, 2, mcX0), (489, false, .iconst 1, 1, mcX0), (490, false, .iadd, 1, mcX0), (491, false, .iaload, 1, mcX0), (492, false, .aload_n 0, 1, mcX0), (493, false, .iload 4, 2, mcX0), (495, false, .iconst 2, 1, mcX0), (496, false, .iadd, 1, mcX0), (497, false, .iaload, 1, mcX0), (498, false, .aload_n 0, 1, mcX0), (499, false, .iload 4, 2, mcX0), (501, false, .iconst 3, 1, mcX0), (502, false, .iadd, 1, mcX0), (503, false, .iaload, 1, mcX0), (504, false, .invokevirtual 87, 3, (10, 4, [1028, 1029, 63, 1031, 1030, 5], [M_Mod_code])), (507, false, .istore 6, 2, mcX0), (509, false, .aload_n 2, 1, mcX0), (510, false, .invokevirtual 68, 3, (10, 1, [1002, 1003, 63, 1005, 1004, 1], [M_Mod_thrown])), (513, false, .iload 5, 2, mcX0), (515, false, .if_icmp .eq 5, 3, (520, 0, [], [])), (518, false, .iconst 0, 1, mcX0), (519, false, .ireturn, 1, (1, 0, [], [])), (520, false, .iload 5, 2, mcX0), (522, false, .ifCond .ne 15, 3, (537, 0, [], [])), (525, false, .aload_n 3, 1, mcX0), (526, false, .iconst 0, 1, mcX0), (527, false, .laload, 1, mcX0), (528, false, .iload 6, 2, mcX0), (530, false, .i2l, 1, mcX0), (531, false, .lcmp, 1, mcX0), (532, false, .ifCond .eq 5, 3, (537, 0, [], [])), (535, false, .iconst 0, 1, mcX0), (536, false, .ireturn, 1, (1, 0, [], [])), (537, false, .goto 510, 3, (1047, 0, [], [])), (1047, true, .iinc 4 8, 3, mcX0)]
theorem ok_Lc4 : mcKok M_Law_law K_Lc4 = true := by decide +kernel
theorem kf_Lc4_460 : mcGet K_Lc4 460 = (460, false, .aload_n 1, 1, mcX0) := rfl
theorem kf_Lc4_461 : mcGet K_Lc4 461 = (461, false, .aload_n 0, 1, mcX0) := rfl
theorem kf_Lc4_462 : mcGet K_Lc4 462 = (462, false, .iload 4, 2, mcX0) := rfl
theorem kf_Lc4_464 : mcGet K_Lc4 464 = (464, false, .iconst 1, 1, mcX0) := rfl
theorem kf_Lc4_465 : mcGet K_Lc4 465 = (465, false, .iadd, 1, mcX0) := rfl
theorem kf_Lc4_466 : mcGet K_Lc4 466 = (466, false, .iaload, 1, mcX0) := rfl
theorem kf_Lc4_467 : mcGet K_Lc4 467 = (467, false, .aload_n 0, 1, mcX0) := rfl
theorem kf_Lc4_468 : mcGet K_Lc4 468 = (468, false, .iload 4, 2, mcX0) := rfl
theorem kf_Lc4_470 : mcGet K_Lc4 470 = (470, false, .iconst 2, 1, mcX0) := rfl
theorem kf_Lc4_471 : mcGet K_Lc4 471 = (471, false, .iadd, 1, mcX0) := rfl
theorem kf_Lc4_472 : mcGet K_Lc4 472 = (472, false, .iaload, 1, mcX0) := rfl
theorem kf_Lc4_473 : mcGet K_Lc4 473 = (473, false, .aload_n 0, 1, mcX0) := rfl
theorem kf_Lc4_474 : mcGet K_Lc4 474 = (474, false, .iload 4, 2, mcX0) := rfl
theorem kf_Lc4_476 : mcGet K_Lc4 476 = (476, false, .iconst 3, 1, mcX0) := rfl
theorem kf_Lc4_477 : mcGet K_Lc4 477 = (477, false, .iadd, 1, mcX0) := rfl
theorem kf_Lc4_478 : mcGet K_Lc4 478 = (478, false, .iaload, 1, mcX0) := rfl
theorem kf_Lc4_479 : mcGet K_Lc4 479 = (479, false, .aload_n 3, 1, mcX0) := rfl
theorem kf_Lc4_480 : mcGet K_Lc4 480 = (480, false, .invokestatic 84, 3, (0, 5, [811, 812, 51, 813, 0, 6], [M_Law_code])) := rfl
theorem kf_Lc4_483 : mcGet K_Lc4 483 = (483, false, .istore 5, 2, mcX0) := rfl
theorem kf_Lc4_485 : mcGet K_Lc4 485 = (485, false, .aload_n 2, 1, mcX0) := rfl
theorem kf_Lc4_486 : mcGet K_Lc4 486 = (486, false, .aload_n 0, 1, mcX0) := rfl
theorem kf_Lc4_487 : mcGet K_Lc4 487 = (487, false, .iload 4, 2, mcX0) := rfl
theorem kf_Lc4_489 : mcGet K_Lc4 489 = (489, false, .iconst 1, 1, mcX0) := rfl
theorem kf_Lc4_490 : mcGet K_Lc4 490 = (490, false, .iadd, 1, mcX0) := rfl
theorem kf_Lc4_491 : mcGet K_Lc4 491 = (491, false, .iaload, 1, mcX0) := rfl
theorem kf_Lc4_492 : mcGet K_Lc4 492 = (492, false, .aload_n 0, 1, mcX0) := rfl
theorem kf_Lc4_493 : mcGet K_Lc4 493 = (493, false, .iload 4, 2, mcX0) := rfl
theorem kf_Lc4_495 : mcGet K_Lc4 495 = (495, false, .iconst 2, 1, mcX0) := rfl
theorem kf_Lc4_496 : mcGet K_Lc4 496 = (496, false, .iadd, 1, mcX0) := rfl
theorem kf_Lc4_497 : mcGet K_Lc4 497 = (497, false, .iaload, 1, mcX0) := rfl
theorem kf_Lc4_498 : mcGet K_Lc4 498 = (498, false, .aload_n 0, 1, mcX0) := rfl
theorem kf_Lc4_499 : mcGet K_Lc4 499 = (499, false, .iload 4, 2, mcX0) := rfl
theorem kf_Lc4_501 : mcGet K_Lc4 501 = (501, false, .iconst 3, 1, mcX0) := rfl
theorem kf_Lc4_502 : mcGet K_Lc4 502 = (502, false, .iadd, 1, mcX0) := rfl
theorem kf_Lc4_503 : mcGet K_Lc4 503 = (503, false, .iaload, 1, mcX0) := rfl
theorem kf_Lc4_504 : mcGet K_Lc4 504 = (504, false, .invokevirtual 87, 3, (10, 4, [1028, 1029, 63, 1031, 1030, 5], [M_Mod_code])) := rfl
theorem kf_Lc4_507 : mcGet K_Lc4 507 = (507, false, .istore 6, 2, mcX0) := rfl
theorem kf_Lc4_509 : mcGet K_Lc4 509 = (509, false, .aload_n 2, 1, mcX0) := rfl
theorem kf_Lc4_510 : mcGet K_Lc4 510 = (510, false, .invokevirtual 68, 3, (10, 1, [1002, 1003, 63, 1005, 1004, 1], [M_Mod_thrown])) := rfl
theorem kf_Lc4_513 : mcGet K_Lc4 513 = (513, false, .iload 5, 2, mcX0) := rfl
theorem kf_Lc4_515 : mcGet K_Lc4 515 = (515, false, .if_icmp .eq 5, 3, (520, 0, [], [])) := rfl
theorem kf_Lc4_518 : mcGet K_Lc4 518 = (518, false, .iconst 0, 1, mcX0) := rfl
theorem kf_Lc4_519 : mcGet K_Lc4 519 = (519, false, .ireturn, 1, (1, 0, [], [])) := rfl
theorem kf_Lc4_520 : mcGet K_Lc4 520 = (520, false, .iload 5, 2, mcX0) := rfl
theorem kf_Lc4_522 : mcGet K_Lc4 522 = (522, false, .ifCond .ne 15, 3, (537, 0, [], [])) := rfl
theorem kf_Lc4_525 : mcGet K_Lc4 525 = (525, false, .aload_n 3, 1, mcX0) := rfl
theorem kf_Lc4_526 : mcGet K_Lc4 526 = (526, false, .iconst 0, 1, mcX0) := rfl
theorem kf_Lc4_527 : mcGet K_Lc4 527 = (527, false, .laload, 1, mcX0) := rfl
theorem kf_Lc4_528 : mcGet K_Lc4 528 = (528, false, .iload 6, 2, mcX0) := rfl
theorem kf_Lc4_530 : mcGet K_Lc4 530 = (530, false, .i2l, 1, mcX0) := rfl
theorem kf_Lc4_531 : mcGet K_Lc4 531 = (531, false, .lcmp, 1, mcX0) := rfl
theorem kf_Lc4_532 : mcGet K_Lc4 532 = (532, false, .ifCond .eq 5, 3, (537, 0, [], [])) := rfl
theorem kf_Lc4_535 : mcGet K_Lc4 535 = (535, false, .iconst 0, 1, mcX0) := rfl
theorem kf_Lc4_536 : mcGet K_Lc4 536 = (536, false, .ireturn, 1, (1, 0, [], [])) := rfl
theorem kf_Lc4_537 : mcGet K_Lc4 537 = (537, false, .goto 510, 3, (1047, 0, [], [])) := rfl
theorem kf_Lc4_1047 : mcGet K_Lc4 1047 = (1047, true, .iinc 4 8, 3, mcX0) := rfl
def K_Lc5 : List mcEn := [(540, false, .aload_n 1, 1, mcX0), (541, false, .aload_n 0, 1, mcX0), (542, false, .iload 4, 2, mcX0), (544, false, .iconst 1, 1, mcX0), (545, false, .iadd, 1, mcX0), (546, false, .iaload, 1, mcX0), (547, false, .aload_n 0, 1, mcX0), (548, false, .iload 4, 2, mcX0), (550, false, .iconst 2, 1, mcX0), (551, false, .iadd, 1, mcX0), (552, false, .iaload, 1, mcX0), (553, false, .aload_n 0, 1, mcX0), (554, false, .iload 4, 2, mcX0), (556, false, .iconst 3, 1, mcX0), (557, false, .iadd, 1, mcX0), (558, false, .iaload, 1, mcX0), (559, false, .aload_n 3, 1, mcX0), (560, false, .invokestatic 88, 3, (0, 5, [822, 823, 51, 824, 0, 6], [M_Law_value])), (563, false, .istore 5, 2, mcX0), (565, false, .aload_n 2, 1, mcX0), (566, false, .aload_n 0, 1, mcX0), (567, false, .iload 4, 2, mcX0), (569, false, .iconst 1, 1, mcX0), (570, false, .iadd, 1, mcX0), (571, false, .iaload, 1, mcX0), (572, false, .aload_n 0, 1, mcX0), (573, false, .iload 4, 2, mcX0), (575, false, .iconst 2, 1, mcX0), (576, false, .iadd, 1, mcX0), (577, false, .iaload, 1, mcX0), (578, false, .aload_n 0, 1, mcX0), (579, false, .iload 4, 2, mcX0), (581, false, .iconst 3, 1, mcX0), (582, false, .iadd, 1, mcX0), (583, false, .iaload, 1, mcX0), (584, false, .invokevirtual 90, 3, (10, 4, [1036, 1037, 63, 1039, 1038, 4], [M_Mod_value])), (587, false, .istore 6, 2, mcX0), (589, false, .aload_n 2, 1, mcX0), (590, false, .invokevirtual 68, 3, (10, 1, [1002, 1003, 63, 1005, 1004, 1], [M_Mod_thrown])), (593, false, .iload 5, 2, mcX0), (595, false, .if_icmp .eq 5, 3, (600, 0, [], [])), (598, false, .iconst 0, 1, mcX0), (599, false, .ireturn, 1, (1, 0, [], [])), (600, false, .iload 5, 2, mcX0), (602, false, .ifCond .ne 15, 3, (617, 0, [], [])), (605, false, .aload_n 3, 1, mcX0), (606, false, .iconst 0, 1, mcX0), (607, false, .laload, 1, mcX0), (608, false, .iload 6, 2, mcX0), (610, false, .i2l, 1, mcX0), (611, false, .lcmp, 1, mcX0), (612, false, .ifCond .eq 5, 3, (617, 0, [], [])), (615, false, .iconst 0, 1, mcX0), (616, false, .ireturn, 1, (1, 0, [], [])), (617, false, .goto 430, 3, (1047, 0, [], [])), (1047, true, .iinc 4 8, 3, mcX0)]
theorem ok_Lc5 : mcKok M_Law_law K_Lc5 = true := by decide +kernel
theorem kf_Lc5_540 : mcGet K_Lc5 540 = (540, false, .aload_n 1, 1, mcX0) := rfl
theorem kf_Lc5_541 : mcGet K_Lc5 541 = (541, false, .aload_n 0, 1, mcX0) := rfl
theorem kf_Lc5_542 : mcGet K_Lc5 542 = (542, false, .iload 4, 2, mcX0) := rfl
theorem kf_Lc5_544 : mcGet K_Lc5 544 = (544, false, .iconst 1, 1, mcX0) := rfl
theorem kf_Lc5_545 : mcGet K_Lc5 545 = (545, false, .iadd, 1, mcX0) := rfl
theorem kf_Lc5_546 : mcGet K_Lc5 546 = (546, false, .iaload, 1, mcX0) := rfl
theorem kf_Lc5_547 : mcGet K_Lc5 547 = (547, false, .aload_n 0, 1, mcX0) := rfl
theorem kf_Lc5_548 : mcGet K_Lc5 548 = (548, false, .iload 4, 2, mcX0) := rfl
theorem kf_Lc5_550 : mcGet K_Lc5 550 = (550, false, .iconst 2, 1, mcX0) := rfl
theorem kf_Lc5_551 : mcGet K_Lc5 551 = (551, false, .iadd, 1, mcX0) := rfl
theorem kf_Lc5_552 : mcGet K_Lc5 552 = (552, false, .iaload, 1, mcX0) := rfl
theorem kf_Lc5_553 : mcGet K_Lc5 553 = (553, false, .aload_n 0, 1, mcX0) := rfl
theorem kf_Lc5_554 : mcGet K_Lc5 554 = (554, false, .iload 4, 2, mcX0) := rfl
theorem kf_Lc5_556 : mcGet K_Lc5 556 = (556, false, .iconst 3, 1, mcX0) := rfl
theorem kf_Lc5_557 : mcGet K_Lc5 557 = (557, false, .iadd, 1, mcX0) := rfl
theorem kf_Lc5_558 : mcGet K_Lc5 558 = (558, false, .iaload, 1, mcX0) := rfl
theorem kf_Lc5_559 : mcGet K_Lc5 559 = (559, false, .aload_n 3, 1, mcX0) := rfl
theorem kf_Lc5_560 : mcGet K_Lc5 560 = (560, false, .invokestatic 88, 3, (0, 5, [822, 823, 51, 824, 0, 6], [M_Law_value])) := rfl
theorem kf_Lc5_563 : mcGet K_Lc5 563 = (563, false, .istore 5, 2, mcX0) := rfl
theorem kf_Lc5_565 : mcGet K_Lc5 565 = (565, false, .aload_n 2, 1, mcX0) := rfl
theorem kf_Lc5_566 : mcGet K_Lc5 566 = (566, false, .aload_n 0, 1, mcX0) := rfl
theorem kf_Lc5_567 : mcGet K_Lc5 567 = (567, false, .iload 4, 2, mcX0) := rfl
theorem kf_Lc5_569 : mcGet K_Lc5 569 = (569, false, .iconst 1, 1, mcX0) := rfl
theorem kf_Lc5_570 : mcGet K_Lc5 570 = (570, false, .iadd, 1, mcX0) := rfl
theorem kf_Lc5_571 : mcGet K_Lc5 571 = (571, false, .iaload, 1, mcX0) := rfl
theorem kf_Lc5_572 : mcGet K_Lc5 572 = (572, false, .aload_n 0, 1, mcX0) := rfl
theorem kf_Lc5_573 : mcGet K_Lc5 573 = (573, false, .iload 4, 2, mcX0) := rfl
theorem kf_Lc5_575 : mcGet K_Lc5 575 = (575, false, .iconst 2, 1, mcX0) := rfl
theorem kf_Lc5_576 : mcGet K_Lc5 576 = (576, false, .iadd, 1, mcX0) := rfl
theorem kf_Lc5_577 : mcGet K_Lc5 577 = (577, false, .iaload, 1, mcX0) := rfl
theorem kf_Lc5_578 : mcGet K_Lc5 578 = (578, false, .aload_n 0, 1, mcX0) := rfl
theorem kf_Lc5_579 : mcGet K_Lc5 579 = (579, false, .iload 4, 2, mcX0) := rfl
theorem kf_Lc5_581 : mcGet K_Lc5 581 = (581, false, .iconst 3, 1, mcX0) := rfl
theorem kf_Lc5_582 : mcGet K_Lc5 582 = (582, false, .iadd, 1, mcX0) := rfl
theorem kf_Lc5_583 : mcGet K_Lc5 583 = (583, false, .iaload, 1, mcX0) := rfl
theorem kf_Lc5_584 : mcGet K_Lc5 584 = (584, false, .invokevirtual 90, 3, (10, 4, [1036, 1037, 63, 1039, 1038, 4], [M_Mod_value])) := rfl
theorem kf_Lc5_587 : mcGet K_Lc5 587 = (587, false, .istore 6, 2, mcX0) := rfl
theorem kf_Lc5_589 : mcGet K_Lc5 589 = (589, false, .aload_n 2, 1, mcX0) := rfl
theorem kf_Lc5_590 : mcGet K_Lc5 590 = (590, false, .invokevirtual 68, 3, (10, 1, [1002, 1003, 63, 1005, 1004, 1], [M_Mod_thrown])) := rfl
theorem kf_Lc5_593 : mcGet K_Lc5 593 = (593, false, .iload 5, 2, mcX0) := rfl
theorem kf_Lc5_595 : mcGet K_Lc5 595 = (595, false, .if_icmp .eq 5, 3, (600, 0, [], [])) := rfl
theorem kf_Lc5_598 : mcGet K_Lc5 598 = (598, false, .iconst 0, 1, mcX0) := rfl
theorem kf_Lc5_599 : mcGet K_Lc5 599 = (599, false, .ireturn, 1, (1, 0, [], [])) := rfl
theorem kf_Lc5_600 : mcGet K_Lc5 600 = (600, false, .iload 5, 2, mcX0) := rfl
theorem kf_Lc5_602 : mcGet K_Lc5 602 = (602, false, .ifCond .ne 15, 3, (617, 0, [], [])) := rfl
theorem kf_Lc5_605 : mcGet K_Lc5 605 = (605, false, .aload_n 3, 1, mcX0) := rfl
theorem kf_Lc5_606 : mcGet K_Lc5 606 = (606, false, .iconst 0, 1, mcX0) := rfl
theorem kf_Lc5_607 : mcGet K_Lc5 607 = (607, false, .laload, 1, mcX0) := rfl
theorem kf_Lc5_608 : mcGet K_Lc5 608 = (608, false, .iload 6, 2, mcX0) := rfl
theorem kf_Lc5_610 : mcGet K_Lc5 610 = (610, false, .i2l, 1, mcX0) := rfl
theorem kf_Lc5_611 : mcGet K_Lc5 611 = (611, false, .lcmp, 1, mcX0) := rfl
theorem kf_Lc5_612 : mcGet K_Lc5 612 = (612, false, .ifCond .eq 5, 3, (617, 0, [], [])) := rfl
theorem kf_Lc5_615 : mcGet K_Lc5 615 = (615, false, .iconst 0, 1, mcX0) := rfl
theorem kf_Lc5_616 : mcGet K_Lc5 616 = (616, false, .ireturn, 1, (1, 0, [], [])) := rfl
theorem kf_Lc5_617 : mcGet K_Lc5 617 = (617, false, .goto 430, 3, (1047, 0, [], [])) := rfl
theorem kf_Lc5_1047 : mcGet K_Lc5 1047 = (1047, true, .iinc 4 8, 3, mcX0) := rfl
def K_Lc6 : List mcEn := [(620, false, .aload_n 1, 1, mcX0), (621, false, .aload_n 0, 1, mcX0), (622, false, .iload 4, 2, mcX0), (624, false, .iconst 1, 1, mcX0), (625, false, .iadd, 1, mcX0), (626, false, .iaload, 1, mcX0), (627, false, .invokestatic 91, 3, (0, 2, [829, 830, 51, 831, 0, 3], [M_Law_stop])), (630, false, .istore 5, 2, mcX0), (632, false, .aload_n 2, 1, mcX0), (633, false, .aload_n 0, 1, mcX0), (634, false, .iload 4, 2, mcX0), (636, false, .iconst 1, 1, mcX0), (637, false, .iadd, 1, mcX0), (638, false, .iaload, 1, mcX0), (639, false, .invokevirtual 94, 3, (10, 2, [1157, 1158, 63, 1160, 1159, 2], [M_Mod_stop])), (642, false, .aload_n 2, 1, mcX0), (643, false, .invokevirtual 68, 3, (10, 1, [1002, 1003, 63, 1005, 1004, 1], [M_Mod_thrown])), (646, false, .iload 5, 2, mcX0), (648, false, .if_icmp .eq 5, 3, (653, 0, [], [])), (651, false, .iconst 0, 1, mcX0), (652, false, .ireturn, 1, (1, 0, [], [])), (653, false, .goto 394, 3, (1047, 0, [], [])), (1047, true, .iinc 4 8, 3, mcX0)]
theorem ok_Lc6 : mcKok M_Law_law K_Lc6 = true := by decide +kernel
theorem kf_Lc6_620 : mcGet K_Lc6 620 = (620, false, .aload_n 1, 1, mcX0) := rfl
theorem kf_Lc6_621 : mcGet K_Lc6 621 = (621, false, .aload_n 0, 1, mcX0) := rfl
theorem kf_Lc6_622 : mcGet K_Lc6 622 = (622, false, .iload 4, 2, mcX0) := rfl
theorem kf_Lc6_624 : mcGet K_Lc6 624 = (624, false, .iconst 1, 1, mcX0) := rfl
theorem kf_Lc6_625 : mcGet K_Lc6 625 = (625, false, .iadd, 1, mcX0) := rfl
theorem kf_Lc6_626 : mcGet K_Lc6 626 = (626, false, .iaload, 1, mcX0) := rfl
theorem kf_Lc6_627 : mcGet K_Lc6 627 = (627, false, .invokestatic 91, 3, (0, 2, [829, 830, 51, 831, 0, 3], [M_Law_stop])) := rfl
theorem kf_Lc6_630 : mcGet K_Lc6 630 = (630, false, .istore 5, 2, mcX0) := rfl
theorem kf_Lc6_632 : mcGet K_Lc6 632 = (632, false, .aload_n 2, 1, mcX0) := rfl
theorem kf_Lc6_633 : mcGet K_Lc6 633 = (633, false, .aload_n 0, 1, mcX0) := rfl
theorem kf_Lc6_634 : mcGet K_Lc6 634 = (634, false, .iload 4, 2, mcX0) := rfl
theorem kf_Lc6_636 : mcGet K_Lc6 636 = (636, false, .iconst 1, 1, mcX0) := rfl
theorem kf_Lc6_637 : mcGet K_Lc6 637 = (637, false, .iadd, 1, mcX0) := rfl
theorem kf_Lc6_638 : mcGet K_Lc6 638 = (638, false, .iaload, 1, mcX0) := rfl
theorem kf_Lc6_639 : mcGet K_Lc6 639 = (639, false, .invokevirtual 94, 3, (10, 2, [1157, 1158, 63, 1160, 1159, 2], [M_Mod_stop])) := rfl
theorem kf_Lc6_642 : mcGet K_Lc6 642 = (642, false, .aload_n 2, 1, mcX0) := rfl
theorem kf_Lc6_643 : mcGet K_Lc6 643 = (643, false, .invokevirtual 68, 3, (10, 1, [1002, 1003, 63, 1005, 1004, 1], [M_Mod_thrown])) := rfl
theorem kf_Lc6_646 : mcGet K_Lc6 646 = (646, false, .iload 5, 2, mcX0) := rfl
theorem kf_Lc6_648 : mcGet K_Lc6 648 = (648, false, .if_icmp .eq 5, 3, (653, 0, [], [])) := rfl
theorem kf_Lc6_651 : mcGet K_Lc6 651 = (651, false, .iconst 0, 1, mcX0) := rfl
theorem kf_Lc6_652 : mcGet K_Lc6 652 = (652, false, .ireturn, 1, (1, 0, [], [])) := rfl
theorem kf_Lc6_653 : mcGet K_Lc6 653 = (653, false, .goto 394, 3, (1047, 0, [], [])) := rfl
theorem kf_Lc6_1047 : mcGet K_Lc6 1047 = (1047, true, .iinc 4 8, 3, mcX0) := rfl
def K_Lc7 : List mcEn := [(656, false, .aload_n 1, 1, mcX0), (657, false, .invokestatic 95, 3, (0, 1, [837, 838, 51, 839, 0, 2], [M_Law_boot])), (660, false, .istore 5, 2, mcX0), (662, false, .aload_n 2, 1, mcX0), (663, false, .invokevirtual 98, 3, (10, 1, [1161, 1162, 63, 1164, 1163, 1], [M_Mod_boot])), (666, false, .aload_n 2, 1, mcX0), (667, false, .invokevirtual 68, 3, (10, 1, [1002, 1003, 63, 1005, 1004, 1], [M_Mod_thrown])), (670, false, .iload 5, 2, mcX0), (672, false, .if_icmp .eq 5, 3, (677, 0, [], [])), (675, false, .iconst 0, 1, mcX0), (676, false, .ireturn, 1, (1, 0, [], [])), (677, false, .goto 370, 3, (1047, 0, [], [])), (1047, true, .iinc 4 8, 3, mcX0)]
theorem ok_Lc7 : mcKok M_Law_law K_Lc7 = true := by decide +kernel
theorem kf_Lc7_656 : mcGet K_Lc7 656 = (656, false, .aload_n 1, 1, mcX0) := rfl
theorem kf_Lc7_657 : mcGet K_Lc7 657 = (657, false, .invokestatic 95, 3, (0, 1, [837, 838, 51, 839, 0, 2], [M_Law_boot])) := rfl
theorem kf_Lc7_660 : mcGet K_Lc7 660 = (660, false, .istore 5, 2, mcX0) := rfl
theorem kf_Lc7_662 : mcGet K_Lc7 662 = (662, false, .aload_n 2, 1, mcX0) := rfl
theorem kf_Lc7_663 : mcGet K_Lc7 663 = (663, false, .invokevirtual 98, 3, (10, 1, [1161, 1162, 63, 1164, 1163, 1], [M_Mod_boot])) := rfl
theorem kf_Lc7_666 : mcGet K_Lc7 666 = (666, false, .aload_n 2, 1, mcX0) := rfl
theorem kf_Lc7_667 : mcGet K_Lc7 667 = (667, false, .invokevirtual 68, 3, (10, 1, [1002, 1003, 63, 1005, 1004, 1], [M_Mod_thrown])) := rfl
theorem kf_Lc7_670 : mcGet K_Lc7 670 = (670, false, .iload 5, 2, mcX0) := rfl
theorem kf_Lc7_672 : mcGet K_Lc7 672 = (672, false, .if_icmp .eq 5, 3, (677, 0, [], [])) := rfl
theorem kf_Lc7_675 : mcGet K_Lc7 675 = (675, false, .iconst 0, 1, mcX0) := rfl
theorem kf_Lc7_676 : mcGet K_Lc7 676 = (676, false, .ireturn, 1, (1, 0, [], [])) := rfl
theorem kf_Lc7_677 : mcGet K_Lc7 677 = (677, false, .goto 370, 3, (1047, 0, [], [])) := rfl
theorem kf_Lc7_1047 : mcGet K_Lc7 1047 = (1047, true, .iinc 4 8, 3, mcX0) := rfl
def K_Lc8 : List mcEn := [(680, false, .aload_n 1, 1, mcX0), (681, false, .aload_n 0, 1, mcX0), (682, false, .iload 4, 2, mcX0), (684, false, .iconst 1, 1, mcX0), (685, false, .iadd, 1, mcX0), (686, false, .iaload, 1, mcX0), (687, false, .aload_n 3, 1, mcX0), (688, false, .invokestatic 99, 3, (0, 3, [852, 853, 51, 854, 0, 4], [M_Law_time])), (691, false, .istore 5, 2, mcX0), (693, false, .aload_n 2, 1, mcX0), (694, false, .aload_n 0, 1, mcX0), (695, false, .iload 4, 2, mcX0), (697, false, .iconst 1, 1, mcX0), (698, false, .iadd, 1, mcX0), (699, false, .iaload, 1, mcX0), (700, false, .invokevirtual 101, 3, (10, 2, [1165, 1166, 63, 1168, 1167, 2], [M_Mod_time])), (703, false, .istore 6, 2, mcX0), (705, false, .aload_n 2, 1, mcX0), (706, false, .invokevirtual 68, 3, (10, 1, [1002, 1003, 63, 1005, 1004, 1], [M_Mod_thrown])), (709, false, .iload 5, 2, mcX0), (711, false, .if_icmp .eq 5, 3, (716, 0, [], [])), (714, false, .iconst 0, 1, mcX0), (715, false, .ireturn, 1, (1, 0, [], [])), (716, false, .iload 5, 2, mcX0), (718, false, .ifCond .ne 15, 3, (733, 0, [], [])), (721, false, .aload_n 3, 1, mcX0), (722, false, .iconst 0, 1, mcX0), (723, false, .laload, 1, mcX0), (724, false, .iload 6, 2, mcX0), (726, false, .i2l, 1, mcX0), (727, false, .lcmp, 1, mcX0), (728, false, .ifCond .eq 5, 3, (733, 0, [], [])), (731, false, .iconst 0, 1, mcX0), (732, false, .ireturn, 1, (1, 0, [], [])), (733, false, .goto 314, 3, (1047, 0, [], [])), (1047, true, .iinc 4 8, 3, mcX0)]
theorem ok_Lc8 : mcKok M_Law_law K_Lc8 = true := by decide +kernel
theorem kf_Lc8_680 : mcGet K_Lc8 680 = (680, false, .aload_n 1, 1, mcX0) := rfl
theorem kf_Lc8_681 : mcGet K_Lc8 681 = (681, false, .aload_n 0, 1, mcX0) := rfl
theorem kf_Lc8_682 : mcGet K_Lc8 682 = (682, false, .iload 4, 2, mcX0) := rfl
theorem kf_Lc8_684 : mcGet K_Lc8 684 = (684, false, .iconst 1, 1, mcX0) := rfl
theorem kf_Lc8_685 : mcGet K_Lc8 685 = (685, false, .iadd, 1, mcX0) := rfl
theorem kf_Lc8_686 : mcGet K_Lc8 686 = (686, false, .iaload, 1, mcX0) := rfl
theorem kf_Lc8_687 : mcGet K_Lc8 687 = (687, false, .aload_n 3, 1, mcX0) := rfl
theorem kf_Lc8_688 : mcGet K_Lc8 688 = (688, false, .invokestatic 99, 3, (0, 3, [852, 853, 51, 854, 0, 4], [M_Law_time])) := rfl
theorem kf_Lc8_691 : mcGet K_Lc8 691 = (691, false, .istore 5, 2, mcX0) := rfl
theorem kf_Lc8_693 : mcGet K_Lc8 693 = (693, false, .aload_n 2, 1, mcX0) := rfl
theorem kf_Lc8_694 : mcGet K_Lc8 694 = (694, false, .aload_n 0, 1, mcX0) := rfl
theorem kf_Lc8_695 : mcGet K_Lc8 695 = (695, false, .iload 4, 2, mcX0) := rfl
theorem kf_Lc8_697 : mcGet K_Lc8 697 = (697, false, .iconst 1, 1, mcX0) := rfl
theorem kf_Lc8_698 : mcGet K_Lc8 698 = (698, false, .iadd, 1, mcX0) := rfl
theorem kf_Lc8_699 : mcGet K_Lc8 699 = (699, false, .iaload, 1, mcX0) := rfl
theorem kf_Lc8_700 : mcGet K_Lc8 700 = (700, false, .invokevirtual 101, 3, (10, 2, [1165, 1166, 63, 1168, 1167, 2], [M_Mod_time])) := rfl
theorem kf_Lc8_703 : mcGet K_Lc8 703 = (703, false, .istore 6, 2, mcX0) := rfl
theorem kf_Lc8_705 : mcGet K_Lc8 705 = (705, false, .aload_n 2, 1, mcX0) := rfl
theorem kf_Lc8_706 : mcGet K_Lc8 706 = (706, false, .invokevirtual 68, 3, (10, 1, [1002, 1003, 63, 1005, 1004, 1], [M_Mod_thrown])) := rfl
theorem kf_Lc8_709 : mcGet K_Lc8 709 = (709, false, .iload 5, 2, mcX0) := rfl
theorem kf_Lc8_711 : mcGet K_Lc8 711 = (711, false, .if_icmp .eq 5, 3, (716, 0, [], [])) := rfl
theorem kf_Lc8_714 : mcGet K_Lc8 714 = (714, false, .iconst 0, 1, mcX0) := rfl
theorem kf_Lc8_715 : mcGet K_Lc8 715 = (715, false, .ireturn, 1, (1, 0, [], [])) := rfl
theorem kf_Lc8_716 : mcGet K_Lc8 716 = (716, false, .iload 5, 2, mcX0) := rfl
theorem kf_Lc8_718 : mcGet K_Lc8 718 = (718, false, .ifCond .ne 15, 3, (733, 0, [], [])) := rfl
theorem kf_Lc8_721 : mcGet K_Lc8 721 = (721, false, .aload_n 3, 1, mcX0) := rfl
theorem kf_Lc8_722 : mcGet K_Lc8 722 = (722, false, .iconst 0, 1, mcX0) := rfl
theorem kf_Lc8_723 : mcGet K_Lc8 723 = (723, false, .laload, 1, mcX0) := rfl
theorem kf_Lc8_724 : mcGet K_Lc8 724 = (724, false, .iload 6, 2, mcX0) := rfl
theorem kf_Lc8_726 : mcGet K_Lc8 726 = (726, false, .i2l, 1, mcX0) := rfl
theorem kf_Lc8_727 : mcGet K_Lc8 727 = (727, false, .lcmp, 1, mcX0) := rfl
theorem kf_Lc8_728 : mcGet K_Lc8 728 = (728, false, .ifCond .eq 5, 3, (733, 0, [], [])) := rfl
theorem kf_Lc8_731 : mcGet K_Lc8 731 = (731, false, .iconst 0, 1, mcX0) := rfl
theorem kf_Lc8_732 : mcGet K_Lc8 732 = (732, false, .ireturn, 1, (1, 0, [], [])) := rfl
theorem kf_Lc8_733 : mcGet K_Lc8 733 = (733, false, .goto 314, 3, (1047, 0, [], [])) := rfl
theorem kf_Lc8_1047 : mcGet K_Lc8 1047 = (1047, true, .iinc 4 8, 3, mcX0) := rfl
def K_Lc9 : List mcEn := [(736, false, .aload_n 1, 1, mcX0), (737, false, .invokevirtual 102, 3, (9, 1, [370, 371, 52, 373, 372, 1], [M_Srv_runs])), (740, false, .aload_n 2, 1, mcX0), (741, false, .invokevirtual 106, 3, (10, 1, [1170, 1171, 63, 1173, 1172, 1], [M_Mod_runs])), (744, false, .if_icmp .eq 303, 3, (1047, 0, [], [])), (747, false, .iconst 0, 1, mcX0), (748, false, .ireturn, 1, (1, 0, [], [])), (1047, true, .iinc 4 8, 3, mcX0)]
theorem ok_Lc9 : mcKok M_Law_law K_Lc9 = true := by decide +kernel
theorem kf_Lc9_736 : mcGet K_Lc9 736 = (736, false, .aload_n 1, 1, mcX0) := rfl
theorem kf_Lc9_737 : mcGet K_Lc9 737 = (737, false, .invokevirtual 102, 3, (9, 1, [370, 371, 52, 373, 372, 1], [M_Srv_runs])) := rfl
theorem kf_Lc9_740 : mcGet K_Lc9 740 = (740, false, .aload_n 2, 1, mcX0) := rfl
theorem kf_Lc9_741 : mcGet K_Lc9 741 = (741, false, .invokevirtual 106, 3, (10, 1, [1170, 1171, 63, 1173, 1172, 1], [M_Mod_runs])) := rfl
theorem kf_Lc9_744 : mcGet K_Lc9 744 = (744, false, .if_icmp .eq 303, 3, (1047, 0, [], [])) := rfl
theorem kf_Lc9_747 : mcGet K_Lc9 747 = (747, false, .iconst 0, 1, mcX0) := rfl
theorem kf_Lc9_748 : mcGet K_Lc9 748 = (748, false, .ireturn, 1, (1, 0, [], [])) := rfl
theorem kf_Lc9_1047 : mcGet K_Lc9 1047 = (1047, true, .iinc 4 8, 3, mcX0) := rfl
def K_Lc10 : List mcEn := [(749, false, .aload_n 1, 1, mcX0), (750, false, .invokevirtual 107, 3, (9, 1, [374, 375, 52, 377, 376, 1], [M_Srv_nodes])), (753, false, .aload_n 2, 1, mcX0), (754, false, .invokevirtual 110, 3, (10, 1, [1174, 1175, 63, 1177, 1176, 3], [M_Mod_nodes])), (757, false, .if_icmp .eq 290, 3, (1047, 0, [], [])), (760, false, .iconst 0, 1, mcX0), (761, false, .ireturn, 1, (1, 0, [], [])), (1047, true, .iinc 4 8, 3, mcX0)]
theorem ok_Lc10 : mcKok M_Law_law K_Lc10 = true := by decide +kernel
theorem kf_Lc10_749 : mcGet K_Lc10 749 = (749, false, .aload_n 1, 1, mcX0) := rfl
theorem kf_Lc10_750 : mcGet K_Lc10 750 = (750, false, .invokevirtual 107, 3, (9, 1, [374, 375, 52, 377, 376, 1], [M_Srv_nodes])) := rfl
theorem kf_Lc10_753 : mcGet K_Lc10 753 = (753, false, .aload_n 2, 1, mcX0) := rfl
theorem kf_Lc10_754 : mcGet K_Lc10 754 = (754, false, .invokevirtual 110, 3, (10, 1, [1174, 1175, 63, 1177, 1176, 3], [M_Mod_nodes])) := rfl
theorem kf_Lc10_757 : mcGet K_Lc10 757 = (757, false, .if_icmp .eq 290, 3, (1047, 0, [], [])) := rfl
theorem kf_Lc10_760 : mcGet K_Lc10 760 = (760, false, .iconst 0, 1, mcX0) := rfl
theorem kf_Lc10_761 : mcGet K_Lc10 761 = (761, false, .ireturn, 1, (1, 0, [], [])) := rfl
theorem kf_Lc10_1047 : mcGet K_Lc10 1047 = (1047, true, .iinc 4 8, 3, mcX0) := rfl
def K_Lc11 : List mcEn := [(762, false, .aload_n 1, 1, mcX0), (763, false, .aload_n 0, 1, mcX0), (764, false, .iload 4, 2, mcX0), (766, false, .iconst 1, 1, mcX0), (767, false, .iadd, 1, mcX0), (768, false, .iaload, 1, mcX0), (769, false, .aload_n 0, 1, mcX0), (770, false, .iload 4, 2, mcX0), (772, false, .iconst 2, 1, mcX0), (773, false, .iadd, 1, mcX0), (774, false, .iaload, 1, mcX0), (775, false, .aload_n 3, 1, mcX0), (776, false, .invokestatic 111, 3, (0, 4, [875, 876, 51, 877, 0, 5], [M_Law_node])), (779, false, .istore 5, 2, mcX0), (781, false, .aload_n 2, 1, mcX0), (782, false, .aload_n 0, 1, mcX0), (783, false, .iload 4, 2, mcX0), (785, false, .iconst 1, 1, mcX0), (786, false, .iadd, 1, mcX0), (787, false, .iaload, 1, mcX0), (788, false, .aload_n 0, 1, mcX0), (789, false, .iload 4, 2, mcX0), (791, false, .iconst 2, 1, mcX0), (792, false, .iadd, 1, mcX0), (793, false, .iaload, 1, mcX0), (794, false, .invokevirtual 113, 3, (10, 3, [1178, 1179, 63, 1181, 1180, 4], [M_Mod_node])), (797, false, .istore 6, 2, mcX0), (799, false, .aload_n 2, 1, mcX0), (800, false, .invokevirtual 68, 3, (10, 1, [1002, 1003, 63, 1005, 1004, 1], [M_Mod_thrown])), (803, false, .iload 5, 2, mcX0), (805, false, .if_icmp .eq 5, 3, (810, 0, [], [])), (808, false, .iconst 0, 1, mcX0), (809, false, .ireturn, 1, (1, 0, [], [])), (810, false, .iload 5, 2, mcX0), (812, false, .ifCond .ne 15, 3, (827, 0, [], [])), (815, false, .aload_n 3, 1, mcX0), (816, false, .iconst 0, 1, mcX0), (817, false, .laload, 1, mcX0), (818, false, .iload 6, 2, mcX0), (820, false, .i2l, 1, mcX0), (821, false, .lcmp, 1, mcX0), (822, false, .ifCond .eq 5, 3, (827, 0, [], [])), (825, false, .iconst 0, 1, mcX0), (826, false, .ireturn, 1, (1, 0, [], [])), (827, false, .goto 220, 3, (1047, 0, [], [])), (1047, true, .iinc 4 8, 3, mcX0)]
theorem ok_Lc11 : mcKok M_Law_law K_Lc11 = true := by decide +kernel
theorem kf_Lc11_762 : mcGet K_Lc11 762 = (762, false, .aload_n 1, 1, mcX0) := rfl
theorem kf_Lc11_763 : mcGet K_Lc11 763 = (763, false, .aload_n 0, 1, mcX0) := rfl
theorem kf_Lc11_764 : mcGet K_Lc11 764 = (764, false, .iload 4, 2, mcX0) := rfl
theorem kf_Lc11_766 : mcGet K_Lc11 766 = (766, false, .iconst 1, 1, mcX0) := rfl
theorem kf_Lc11_767 : mcGet K_Lc11 767 = (767, false, .iadd, 1, mcX0) := rfl
theorem kf_Lc11_768 : mcGet K_Lc11 768 = (768, false, .iaload, 1, mcX0) := rfl
theorem kf_Lc11_769 : mcGet K_Lc11 769 = (769, false, .aload_n 0, 1, mcX0) := rfl
theorem kf_Lc11_770 : mcGet K_Lc11 770 = (770, false, .iload 4, 2, mcX0) := rfl
theorem kf_Lc11_772 : mcGet K_Lc11 772 = (772, false, .iconst 2, 1, mcX0) := rfl
theorem kf_Lc11_773 : mcGet K_Lc11 773 = (773, false, .iadd, 1, mcX0) := rfl
theorem kf_Lc11_774 : mcGet K_Lc11 774 = (774, false, .iaload, 1, mcX0) := rfl
theorem kf_Lc11_775 : mcGet K_Lc11 775 = (775, false, .aload_n 3, 1, mcX0) := rfl
theorem kf_Lc11_776 : mcGet K_Lc11 776 = (776, false, .invokestatic 111, 3, (0, 4, [875, 876, 51, 877, 0, 5], [M_Law_node])) := rfl
theorem kf_Lc11_779 : mcGet K_Lc11 779 = (779, false, .istore 5, 2, mcX0) := rfl
theorem kf_Lc11_781 : mcGet K_Lc11 781 = (781, false, .aload_n 2, 1, mcX0) := rfl
theorem kf_Lc11_782 : mcGet K_Lc11 782 = (782, false, .aload_n 0, 1, mcX0) := rfl
theorem kf_Lc11_783 : mcGet K_Lc11 783 = (783, false, .iload 4, 2, mcX0) := rfl
theorem kf_Lc11_785 : mcGet K_Lc11 785 = (785, false, .iconst 1, 1, mcX0) := rfl
theorem kf_Lc11_786 : mcGet K_Lc11 786 = (786, false, .iadd, 1, mcX0) := rfl
theorem kf_Lc11_787 : mcGet K_Lc11 787 = (787, false, .iaload, 1, mcX0) := rfl
theorem kf_Lc11_788 : mcGet K_Lc11 788 = (788, false, .aload_n 0, 1, mcX0) := rfl
theorem kf_Lc11_789 : mcGet K_Lc11 789 = (789, false, .iload 4, 2, mcX0) := rfl
theorem kf_Lc11_791 : mcGet K_Lc11 791 = (791, false, .iconst 2, 1, mcX0) := rfl
theorem kf_Lc11_792 : mcGet K_Lc11 792 = (792, false, .iadd, 1, mcX0) := rfl
theorem kf_Lc11_793 : mcGet K_Lc11 793 = (793, false, .iaload, 1, mcX0) := rfl
theorem kf_Lc11_794 : mcGet K_Lc11 794 = (794, false, .invokevirtual 113, 3, (10, 3, [1178, 1179, 63, 1181, 1180, 4], [M_Mod_node])) := rfl
theorem kf_Lc11_797 : mcGet K_Lc11 797 = (797, false, .istore 6, 2, mcX0) := rfl
theorem kf_Lc11_799 : mcGet K_Lc11 799 = (799, false, .aload_n 2, 1, mcX0) := rfl
theorem kf_Lc11_800 : mcGet K_Lc11 800 = (800, false, .invokevirtual 68, 3, (10, 1, [1002, 1003, 63, 1005, 1004, 1], [M_Mod_thrown])) := rfl
theorem kf_Lc11_803 : mcGet K_Lc11 803 = (803, false, .iload 5, 2, mcX0) := rfl
theorem kf_Lc11_805 : mcGet K_Lc11 805 = (805, false, .if_icmp .eq 5, 3, (810, 0, [], [])) := rfl
theorem kf_Lc11_808 : mcGet K_Lc11 808 = (808, false, .iconst 0, 1, mcX0) := rfl
theorem kf_Lc11_809 : mcGet K_Lc11 809 = (809, false, .ireturn, 1, (1, 0, [], [])) := rfl
theorem kf_Lc11_810 : mcGet K_Lc11 810 = (810, false, .iload 5, 2, mcX0) := rfl
theorem kf_Lc11_812 : mcGet K_Lc11 812 = (812, false, .ifCond .ne 15, 3, (827, 0, [], [])) := rfl
theorem kf_Lc11_815 : mcGet K_Lc11 815 = (815, false, .aload_n 3, 1, mcX0) := rfl
theorem kf_Lc11_816 : mcGet K_Lc11 816 = (816, false, .iconst 0, 1, mcX0) := rfl
theorem kf_Lc11_817 : mcGet K_Lc11 817 = (817, false, .laload, 1, mcX0) := rfl
theorem kf_Lc11_818 : mcGet K_Lc11 818 = (818, false, .iload 6, 2, mcX0) := rfl
theorem kf_Lc11_820 : mcGet K_Lc11 820 = (820, false, .i2l, 1, mcX0) := rfl
theorem kf_Lc11_821 : mcGet K_Lc11 821 = (821, false, .lcmp, 1, mcX0) := rfl
theorem kf_Lc11_822 : mcGet K_Lc11 822 = (822, false, .ifCond .eq 5, 3, (827, 0, [], [])) := rfl
theorem kf_Lc11_825 : mcGet K_Lc11 825 = (825, false, .iconst 0, 1, mcX0) := rfl
theorem kf_Lc11_826 : mcGet K_Lc11 826 = (826, false, .ireturn, 1, (1, 0, [], [])) := rfl
theorem kf_Lc11_827 : mcGet K_Lc11 827 = (827, false, .goto 220, 3, (1047, 0, [], [])) := rfl
theorem kf_Lc11_1047 : mcGet K_Lc11 1047 = (1047, true, .iinc 4 8, 3, mcX0) := rfl
def K_Lc12 : List mcEn := [(830, false, .aload_n 1, 1, mcX0), (831, false, .aload_n 0, 1, mcX0), (832, false, .iload 4, 2, mcX0), (834, false, .iconst 1, 1, mcX0), (835, false, .iadd, 1, mcX0), (836, false, .iaload, 1, mcX0), (837, false, .aload_n 0, 1, mcX0), (838, false, .iload 4, 2, mcX0), (840, false, .iconst 2, 1, mcX0), (841, false, .iadd, 1, mcX0), (842, false, .iaload, 1, mcX0), (843, false, .aload_n 3, 1, mcX0), (844, false, .invokestatic 114, 3, (0, 4, [885, 886, 51, 887, 0, 5], [M_Law_handle])), (847, false, .istore 5, 2, mcX0), (849, false, .aload_n 2, 1, mcX0), (850, false, .aload_n 0, 1, mcX0), (851, false, .iload 4, 2, mcX0), (853, false, .iconst 1, 1, mcX0), (854, false, .iadd, 1, mcX0), (855, false, .iaload, 1, mcX0), (856, false, .aload_n 0, 1, mcX0), (857, false, .iload 4, 2, mcX0), (859, false, .iconst 2, 1, mcX0), (860, false, .iadd, 1, mcX0), (861, false, .iaload, 1, mcX0), (862, false, .invokevirtual 116, 3, (10, 3, [1182, 1183, 63, 1185, 1184, 3], [M_Mod_handle])), (865, false, .istore 6, 2, mcX0), (867, false, .aload_n 2, 1, mcX0), (868, false, .invokevirtual 68, 3, (10, 1, [1002, 1003, 63, 1005, 1004, 1], [M_Mod_thrown])), (871, false, .iload 5, 2, mcX0), (873, false, .if_icmp .eq 5, 3, (878, 0, [], [])), (876, false, .iconst 0, 1, mcX0), (877, false, .ireturn, 1, (1, 0, [], [])), (878, false, .iload 5, 2, mcX0), (880, false, .ifCond .ne 15, 3, (895, 0, [], [])), (883, false, .aload_n 3, 1, mcX0), (884, false, .iconst 0, 1, mcX0), (885, false, .laload, 1, mcX0), (886, false, .iload 6, 2, mcX0), (888, false, .i2l, 1, mcX0), (889, false, .lcmp, 1, mcX0), (890, false, .ifCond .eq 5, 3, (895, 0, [], [])), (893, false, .iconst 0, 1, mcX0), (894, false, .ireturn, 1, (1, 0, [], [])), (895, false, .goto 152, 3, (1047, 0, [], [])), (1047, true, .iinc 4 8, 3, mcX0)]
theorem ok_Lc12 : mcKok M_Law_law K_Lc12 = true := by decide +kernel
theorem kf_Lc12_830 : mcGet K_Lc12 830 = (830, false, .aload_n 1, 1, mcX0) := rfl
theorem kf_Lc12_831 : mcGet K_Lc12 831 = (831, false, .aload_n 0, 1, mcX0) := rfl
theorem kf_Lc12_832 : mcGet K_Lc12 832 = (832, false, .iload 4, 2, mcX0) := rfl
theorem kf_Lc12_834 : mcGet K_Lc12 834 = (834, false, .iconst 1, 1, mcX0) := rfl
theorem kf_Lc12_835 : mcGet K_Lc12 835 = (835, false, .iadd, 1, mcX0) := rfl
theorem kf_Lc12_836 : mcGet K_Lc12 836 = (836, false, .iaload, 1, mcX0) := rfl
theorem kf_Lc12_837 : mcGet K_Lc12 837 = (837, false, .aload_n 0, 1, mcX0) := rfl
theorem kf_Lc12_838 : mcGet K_Lc12 838 = (838, false, .iload 4, 2, mcX0) := rfl
theorem kf_Lc12_840 : mcGet K_Lc12 840 = (840, false, .iconst 2, 1, mcX0) := rfl
theorem kf_Lc12_841 : mcGet K_Lc12 841 = (841, false, .iadd, 1, mcX0) := rfl
theorem kf_Lc12_842 : mcGet K_Lc12 842 = (842, false, .iaload, 1, mcX0) := rfl
theorem kf_Lc12_843 : mcGet K_Lc12 843 = (843, false, .aload_n 3, 1, mcX0) := rfl
theorem kf_Lc12_844 : mcGet K_Lc12 844 = (844, false, .invokestatic 114, 3, (0, 4, [885, 886, 51, 887, 0, 5], [M_Law_handle])) := rfl
theorem kf_Lc12_847 : mcGet K_Lc12 847 = (847, false, .istore 5, 2, mcX0) := rfl
theorem kf_Lc12_849 : mcGet K_Lc12 849 = (849, false, .aload_n 2, 1, mcX0) := rfl
theorem kf_Lc12_850 : mcGet K_Lc12 850 = (850, false, .aload_n 0, 1, mcX0) := rfl
theorem kf_Lc12_851 : mcGet K_Lc12 851 = (851, false, .iload 4, 2, mcX0) := rfl
theorem kf_Lc12_853 : mcGet K_Lc12 853 = (853, false, .iconst 1, 1, mcX0) := rfl
theorem kf_Lc12_854 : mcGet K_Lc12 854 = (854, false, .iadd, 1, mcX0) := rfl
theorem kf_Lc12_855 : mcGet K_Lc12 855 = (855, false, .iaload, 1, mcX0) := rfl
theorem kf_Lc12_856 : mcGet K_Lc12 856 = (856, false, .aload_n 0, 1, mcX0) := rfl
theorem kf_Lc12_857 : mcGet K_Lc12 857 = (857, false, .iload 4, 2, mcX0) := rfl
theorem kf_Lc12_859 : mcGet K_Lc12 859 = (859, false, .iconst 2, 1, mcX0) := rfl
theorem kf_Lc12_860 : mcGet K_Lc12 860 = (860, false, .iadd, 1, mcX0) := rfl
theorem kf_Lc12_861 : mcGet K_Lc12 861 = (861, false, .iaload, 1, mcX0) := rfl
theorem kf_Lc12_862 : mcGet K_Lc12 862 = (862, false, .invokevirtual 116, 3, (10, 3, [1182, 1183, 63, 1185, 1184, 3], [M_Mod_handle])) := rfl
theorem kf_Lc12_865 : mcGet K_Lc12 865 = (865, false, .istore 6, 2, mcX0) := rfl
theorem kf_Lc12_867 : mcGet K_Lc12 867 = (867, false, .aload_n 2, 1, mcX0) := rfl
theorem kf_Lc12_868 : mcGet K_Lc12 868 = (868, false, .invokevirtual 68, 3, (10, 1, [1002, 1003, 63, 1005, 1004, 1], [M_Mod_thrown])) := rfl
theorem kf_Lc12_871 : mcGet K_Lc12 871 = (871, false, .iload 5, 2, mcX0) := rfl
theorem kf_Lc12_873 : mcGet K_Lc12 873 = (873, false, .if_icmp .eq 5, 3, (878, 0, [], [])) := rfl
theorem kf_Lc12_876 : mcGet K_Lc12 876 = (876, false, .iconst 0, 1, mcX0) := rfl
theorem kf_Lc12_877 : mcGet K_Lc12 877 = (877, false, .ireturn, 1, (1, 0, [], [])) := rfl
theorem kf_Lc12_878 : mcGet K_Lc12 878 = (878, false, .iload 5, 2, mcX0) := rfl
theorem kf_Lc12_880 : mcGet K_Lc12 880 = (880, false, .ifCond .ne 15, 3, (895, 0, [], [])) := rfl
theorem kf_Lc12_883 : mcGet K_Lc12 883 = (883, false, .aload_n 3, 1, mcX0) := rfl
theorem kf_Lc12_884 : mcGet K_Lc12 884 = (884, false, .iconst 0, 1, mcX0) := rfl
theorem kf_Lc12_885 : mcGet K_Lc12 885 = (885, false, .laload, 1, mcX0) := rfl
theorem kf_Lc12_886 : mcGet K_Lc12 886 = (886, false, .iload 6, 2, mcX0) := rfl
theorem kf_Lc12_888 : mcGet K_Lc12 888 = (888, false, .i2l, 1, mcX0) := rfl
theorem kf_Lc12_889 : mcGet K_Lc12 889 = (889, false, .lcmp, 1, mcX0) := rfl
theorem kf_Lc12_890 : mcGet K_Lc12 890 = (890, false, .ifCond .eq 5, 3, (895, 0, [], [])) := rfl
theorem kf_Lc12_893 : mcGet K_Lc12 893 = (893, false, .iconst 0, 1, mcX0) := rfl
theorem kf_Lc12_894 : mcGet K_Lc12 894 = (894, false, .ireturn, 1, (1, 0, [], [])) := rfl
theorem kf_Lc12_895 : mcGet K_Lc12 895 = (895, false, .goto 152, 3, (1047, 0, [], [])) := rfl
theorem kf_Lc12_1047 : mcGet K_Lc12 1047 = (1047, true, .iinc 4 8, 3, mcX0) := rfl
def K_Lc13 : List mcEn := [(898, false, .aload_n 1, 1, mcX0), (899, false, .aload_n 0, 1, mcX0), (900, false, .iload 4, 2, mcX0), (902, false, .iconst 1, 1, mcX0), (903, false, .iadd, 1, mcX0), (904, false, .iaload, 1, mcX0), (905, false, .aload_n 0, 1, mcX0), (906, false, .iload 4, 2, mcX0), (908, false, .iconst 2, 1, mcX0), (909, false, .iadd, 1, mcX0), (910, false, .iaload, 1, mcX0), (911, false, .aload_n 0, 1, mcX0), (912, false, .iload 4, 2, mcX0), (914, false, .iconst 3, 1, mcX0), (915, false, .iadd, 1, mcX0), (916, false, .iaload, 1, mcX0), (917, false, .aload_n 3, 1, mcX0), (918, false, .invokestatic 117, 3, (0, 5, [894, 895, 51, 896, 0, 6], [M_Law_lock])), (921, false, .istore 5, 2, mcX0), (923, false, .aload_n 2, 1, mcX0), (924, false, .aload_n 0, 1, mcX0), (925, false, .iload 4, 2, mcX0), (927, false, .iconst 1, 1, mcX0), (928, false, .iadd, 1, mcX0), (929, false, .iaload, 1, mcX0), (930, false, .aload_n 0, 1, mcX0), (931, false, .iload 4, 2, mcX0), (933, false, .iconst 2, 1, mcX0), (934, false, .iadd, 1, mcX0), (935, false, .iaload, 1, mcX0), (936, false, .aload_n 0, 1, mcX0), (937, false, .iload 4, 2, mcX0), (939, false, .iconst 3, 1, mcX0), (940, false, .iadd, 1, mcX0), (941, false, .iaload, 1, mcX0), (942, false, .invokevirtual 119, 3, (10, 4, [1186, 1187, 63, 1189, 1188, 4], [M_Mod_lock])), (945, false, .istore 6, 2, mcX0), (947, false, .aload_n 2, 1, mcX0), (948, false, .invokevirtual 68, 3, (10, 1, [1002, 1003, 63, 1005, 1004, 1], [M_Mod_thrown])), (951, false, .iload 5, 2, mcX0), (953, false, .if_icmp .eq 5, 3, (958, 0, [], [])), (956, false, .iconst 0, 1, mcX0), (957, false, .ireturn, 1, (1, 0, [], [])), (958, false, .iload 5, 2, mcX0), (960, false, .ifCond .ne 15, 3, (975, 0, [], [])), (963, false, .aload_n 3, 1, mcX0), (964, false, .iconst 0, 1, mcX0), (965, false, .laload, 1, mcX0), (966, false, .iload 6, 2, mcX0), (968, false, .i2l, 1, mcX0), (969, false, .lcmp, 1, mcX0), (970, false, .ifCond .eq 5, 3, (975, 0, [], [])), (973, false, .iconst 0, 1, mcX0), (974, false, .ireturn, 1, (1, 0, [], [])), (975, false, .goto 72, 3, (1047, 0, [], [])), (1047, true, .iinc 4 8, 3, mcX0)]
theorem ok_Lc13 : mcKok M_Law_law K_Lc13 = true := by decide +kernel
theorem kf_Lc13_898 : mcGet K_Lc13 898 = (898, false, .aload_n 1, 1, mcX0) := rfl
theorem kf_Lc13_899 : mcGet K_Lc13 899 = (899, false, .aload_n 0, 1, mcX0) := rfl
theorem kf_Lc13_900 : mcGet K_Lc13 900 = (900, false, .iload 4, 2, mcX0) := rfl
theorem kf_Lc13_902 : mcGet K_Lc13 902 = (902, false, .iconst 1, 1, mcX0) := rfl
theorem kf_Lc13_903 : mcGet K_Lc13 903 = (903, false, .iadd, 1, mcX0) := rfl
theorem kf_Lc13_904 : mcGet K_Lc13 904 = (904, false, .iaload, 1, mcX0) := rfl
theorem kf_Lc13_905 : mcGet K_Lc13 905 = (905, false, .aload_n 0, 1, mcX0) := rfl
theorem kf_Lc13_906 : mcGet K_Lc13 906 = (906, false, .iload 4, 2, mcX0) := rfl
theorem kf_Lc13_908 : mcGet K_Lc13 908 = (908, false, .iconst 2, 1, mcX0) := rfl
theorem kf_Lc13_909 : mcGet K_Lc13 909 = (909, false, .iadd, 1, mcX0) := rfl
theorem kf_Lc13_910 : mcGet K_Lc13 910 = (910, false, .iaload, 1, mcX0) := rfl
theorem kf_Lc13_911 : mcGet K_Lc13 911 = (911, false, .aload_n 0, 1, mcX0) := rfl
theorem kf_Lc13_912 : mcGet K_Lc13 912 = (912, false, .iload 4, 2, mcX0) := rfl
theorem kf_Lc13_914 : mcGet K_Lc13 914 = (914, false, .iconst 3, 1, mcX0) := rfl
theorem kf_Lc13_915 : mcGet K_Lc13 915 = (915, false, .iadd, 1, mcX0) := rfl
theorem kf_Lc13_916 : mcGet K_Lc13 916 = (916, false, .iaload, 1, mcX0) := rfl
theorem kf_Lc13_917 : mcGet K_Lc13 917 = (917, false, .aload_n 3, 1, mcX0) := rfl
theorem kf_Lc13_918 : mcGet K_Lc13 918 = (918, false, .invokestatic 117, 3, (0, 5, [894, 895, 51, 896, 0, 6], [M_Law_lock])) := rfl
theorem kf_Lc13_921 : mcGet K_Lc13 921 = (921, false, .istore 5, 2, mcX0) := rfl
theorem kf_Lc13_923 : mcGet K_Lc13 923 = (923, false, .aload_n 2, 1, mcX0) := rfl
theorem kf_Lc13_924 : mcGet K_Lc13 924 = (924, false, .aload_n 0, 1, mcX0) := rfl
theorem kf_Lc13_925 : mcGet K_Lc13 925 = (925, false, .iload 4, 2, mcX0) := rfl
theorem kf_Lc13_927 : mcGet K_Lc13 927 = (927, false, .iconst 1, 1, mcX0) := rfl
theorem kf_Lc13_928 : mcGet K_Lc13 928 = (928, false, .iadd, 1, mcX0) := rfl
theorem kf_Lc13_929 : mcGet K_Lc13 929 = (929, false, .iaload, 1, mcX0) := rfl
theorem kf_Lc13_930 : mcGet K_Lc13 930 = (930, false, .aload_n 0, 1, mcX0) := rfl
theorem kf_Lc13_931 : mcGet K_Lc13 931 = (931, false, .iload 4, 2, mcX0) := rfl
theorem kf_Lc13_933 : mcGet K_Lc13 933 = (933, false, .iconst 2, 1, mcX0) := rfl
theorem kf_Lc13_934 : mcGet K_Lc13 934 = (934, false, .iadd, 1, mcX0) := rfl
theorem kf_Lc13_935 : mcGet K_Lc13 935 = (935, false, .iaload, 1, mcX0) := rfl
theorem kf_Lc13_936 : mcGet K_Lc13 936 = (936, false, .aload_n 0, 1, mcX0) := rfl
theorem kf_Lc13_937 : mcGet K_Lc13 937 = (937, false, .iload 4, 2, mcX0) := rfl
theorem kf_Lc13_939 : mcGet K_Lc13 939 = (939, false, .iconst 3, 1, mcX0) := rfl
theorem kf_Lc13_940 : mcGet K_Lc13 940 = (940, false, .iadd, 1, mcX0) := rfl
theorem kf_Lc13_941 : mcGet K_Lc13 941 = (941, false, .iaload, 1, mcX0) := rfl
theorem kf_Lc13_942 : mcGet K_Lc13 942 = (942, false, .invokevirtual 119, 3, (10, 4, [1186, 1187, 63, 1189, 1188, 4], [M_Mod_lock])) := rfl
theorem kf_Lc13_945 : mcGet K_Lc13 945 = (945, false, .istore 6, 2, mcX0) := rfl
theorem kf_Lc13_947 : mcGet K_Lc13 947 = (947, false, .aload_n 2, 1, mcX0) := rfl
theorem kf_Lc13_948 : mcGet K_Lc13 948 = (948, false, .invokevirtual 68, 3, (10, 1, [1002, 1003, 63, 1005, 1004, 1], [M_Mod_thrown])) := rfl
theorem kf_Lc13_951 : mcGet K_Lc13 951 = (951, false, .iload 5, 2, mcX0) := rfl
theorem kf_Lc13_953 : mcGet K_Lc13 953 = (953, false, .if_icmp .eq 5, 3, (958, 0, [], [])) := rfl
theorem kf_Lc13_956 : mcGet K_Lc13 956 = (956, false, .iconst 0, 1, mcX0) := rfl
theorem kf_Lc13_957 : mcGet K_Lc13 957 = (957, false, .ireturn, 1, (1, 0, [], [])) := rfl
theorem kf_Lc13_958 : mcGet K_Lc13 958 = (958, false, .iload 5, 2, mcX0) := rfl
theorem kf_Lc13_960 : mcGet K_Lc13 960 = (960, false, .ifCond .ne 15, 3, (975, 0, [], [])) := rfl
theorem kf_Lc13_963 : mcGet K_Lc13 963 = (963, false, .aload_n 3, 1, mcX0) := rfl
theorem kf_Lc13_964 : mcGet K_Lc13 964 = (964, false, .iconst 0, 1, mcX0) := rfl
theorem kf_Lc13_965 : mcGet K_Lc13 965 = (965, false, .laload, 1, mcX0) := rfl
theorem kf_Lc13_966 : mcGet K_Lc13 966 = (966, false, .iload 6, 2, mcX0) := rfl
theorem kf_Lc13_968 : mcGet K_Lc13 968 = (968, false, .i2l, 1, mcX0) := rfl
theorem kf_Lc13_969 : mcGet K_Lc13 969 = (969, false, .lcmp, 1, mcX0) := rfl
theorem kf_Lc13_970 : mcGet K_Lc13 970 = (970, false, .ifCond .eq 5, 3, (975, 0, [], [])) := rfl
theorem kf_Lc13_973 : mcGet K_Lc13 973 = (973, false, .iconst 0, 1, mcX0) := rfl
theorem kf_Lc13_974 : mcGet K_Lc13 974 = (974, false, .ireturn, 1, (1, 0, [], [])) := rfl
theorem kf_Lc13_975 : mcGet K_Lc13 975 = (975, false, .goto 72, 3, (1047, 0, [], [])) := rfl
theorem kf_Lc13_1047 : mcGet K_Lc13 1047 = (1047, true, .iinc 4 8, 3, mcX0) := rfl
def K_Lc14 : List mcEn := [(978, false, .aload_n 1, 1, mcX0), (979, false, .aload_n 0, 1, mcX0), (980, false, .iload 4, 2, mcX0), (982, false, .iconst 1, 1, mcX0), (983, false, .iadd, 1, mcX0), (984, false, .iaload, 1, mcX0), (985, false, .aload_n 3, 1, mcX0), (986, false, .invokestatic 120, 3, (0, 3, [903, 904, 51, 905, 0, 4], [M_Law_lease])), (989, false, .istore 5, 2, mcX0), (991, false, .aload_n 2, 1, mcX0), (992, false, .aload_n 0, 1, mcX0), (993, false, .iload 4, 2, mcX0), (995, false, .iconst 1, 1, mcX0), (996, false, .iadd, 1, mcX0), (997, false, .iaload, 1, mcX0), (998, false, .invokevirtual 122, 3, (10, 2, [1190, 1191, 63, 1193, 1192, 2], [M_Mod_lease])), (1001, false, .istore 6, 2, mcX0), (1003, false, .aload_n 2, 1, mcX0), (1004, false, .invokevirtual 68, 3, (10, 1, [1002, 1003, 63, 1005, 1004, 1], [M_Mod_thrown])), (1007, false, .iload 5, 2, mcX0), (1009, false, .if_icmp .eq 5, 3, (1014, 0, [], [])), (1012, false, .iconst 0, 1, mcX0), (1013, false, .ireturn, 1, (1, 0, [], [])), (1014, false, .iload 5, 2, mcX0), (1016, false, .ifCond .ne 15, 3, (1031, 0, [], [])), (1019, false, .aload_n 3, 1, mcX0), (1020, false, .iconst 0, 1, mcX0), (1021, false, .laload, 1, mcX0), (1022, false, .iload 6, 2, mcX0), (1024, false, .i2l, 1, mcX0), (1025, false, .lcmp, 1, mcX0), (1026, false, .ifCond .eq 5, 3, (1031, 0, [], [])), (1029, false, .iconst 0, 1, mcX0), (1030, false, .ireturn, 1, (1, 0, [], [])), (1031, false, .goto 16, 3, (1047, 0, [], [])), (1047, true, .iinc 4 8, 3, mcX0)]
theorem ok_Lc14 : mcKok M_Law_law K_Lc14 = true := by decide +kernel
theorem kf_Lc14_978 : mcGet K_Lc14 978 = (978, false, .aload_n 1, 1, mcX0) := rfl
theorem kf_Lc14_979 : mcGet K_Lc14 979 = (979, false, .aload_n 0, 1, mcX0) := rfl
theorem kf_Lc14_980 : mcGet K_Lc14 980 = (980, false, .iload 4, 2, mcX0) := rfl
theorem kf_Lc14_982 : mcGet K_Lc14 982 = (982, false, .iconst 1, 1, mcX0) := rfl
theorem kf_Lc14_983 : mcGet K_Lc14 983 = (983, false, .iadd, 1, mcX0) := rfl
theorem kf_Lc14_984 : mcGet K_Lc14 984 = (984, false, .iaload, 1, mcX0) := rfl
theorem kf_Lc14_985 : mcGet K_Lc14 985 = (985, false, .aload_n 3, 1, mcX0) := rfl
theorem kf_Lc14_986 : mcGet K_Lc14 986 = (986, false, .invokestatic 120, 3, (0, 3, [903, 904, 51, 905, 0, 4], [M_Law_lease])) := rfl
theorem kf_Lc14_989 : mcGet K_Lc14 989 = (989, false, .istore 5, 2, mcX0) := rfl
theorem kf_Lc14_991 : mcGet K_Lc14 991 = (991, false, .aload_n 2, 1, mcX0) := rfl
theorem kf_Lc14_992 : mcGet K_Lc14 992 = (992, false, .aload_n 0, 1, mcX0) := rfl
theorem kf_Lc14_993 : mcGet K_Lc14 993 = (993, false, .iload 4, 2, mcX0) := rfl
theorem kf_Lc14_995 : mcGet K_Lc14 995 = (995, false, .iconst 1, 1, mcX0) := rfl
theorem kf_Lc14_996 : mcGet K_Lc14 996 = (996, false, .iadd, 1, mcX0) := rfl
theorem kf_Lc14_997 : mcGet K_Lc14 997 = (997, false, .iaload, 1, mcX0) := rfl
theorem kf_Lc14_998 : mcGet K_Lc14 998 = (998, false, .invokevirtual 122, 3, (10, 2, [1190, 1191, 63, 1193, 1192, 2], [M_Mod_lease])) := rfl
theorem kf_Lc14_1001 : mcGet K_Lc14 1001 = (1001, false, .istore 6, 2, mcX0) := rfl
theorem kf_Lc14_1003 : mcGet K_Lc14 1003 = (1003, false, .aload_n 2, 1, mcX0) := rfl
theorem kf_Lc14_1004 : mcGet K_Lc14 1004 = (1004, false, .invokevirtual 68, 3, (10, 1, [1002, 1003, 63, 1005, 1004, 1], [M_Mod_thrown])) := rfl
theorem kf_Lc14_1007 : mcGet K_Lc14 1007 = (1007, false, .iload 5, 2, mcX0) := rfl
theorem kf_Lc14_1009 : mcGet K_Lc14 1009 = (1009, false, .if_icmp .eq 5, 3, (1014, 0, [], [])) := rfl
theorem kf_Lc14_1012 : mcGet K_Lc14 1012 = (1012, false, .iconst 0, 1, mcX0) := rfl
theorem kf_Lc14_1013 : mcGet K_Lc14 1013 = (1013, false, .ireturn, 1, (1, 0, [], [])) := rfl
theorem kf_Lc14_1014 : mcGet K_Lc14 1014 = (1014, false, .iload 5, 2, mcX0) := rfl
theorem kf_Lc14_1016 : mcGet K_Lc14 1016 = (1016, false, .ifCond .ne 15, 3, (1031, 0, [], [])) := rfl
theorem kf_Lc14_1019 : mcGet K_Lc14 1019 = (1019, false, .aload_n 3, 1, mcX0) := rfl
theorem kf_Lc14_1020 : mcGet K_Lc14 1020 = (1020, false, .iconst 0, 1, mcX0) := rfl
theorem kf_Lc14_1021 : mcGet K_Lc14 1021 = (1021, false, .laload, 1, mcX0) := rfl
theorem kf_Lc14_1022 : mcGet K_Lc14 1022 = (1022, false, .iload 6, 2, mcX0) := rfl
theorem kf_Lc14_1024 : mcGet K_Lc14 1024 = (1024, false, .i2l, 1, mcX0) := rfl
theorem kf_Lc14_1025 : mcGet K_Lc14 1025 = (1025, false, .lcmp, 1, mcX0) := rfl
theorem kf_Lc14_1026 : mcGet K_Lc14 1026 = (1026, false, .ifCond .eq 5, 3, (1031, 0, [], [])) := rfl
theorem kf_Lc14_1029 : mcGet K_Lc14 1029 = (1029, false, .iconst 0, 1, mcX0) := rfl
theorem kf_Lc14_1030 : mcGet K_Lc14 1030 = (1030, false, .ireturn, 1, (1, 0, [], [])) := rfl
theorem kf_Lc14_1031 : mcGet K_Lc14 1031 = (1031, false, .goto 16, 3, (1047, 0, [], [])) := rfl
theorem kf_Lc14_1047 : mcGet K_Lc14 1047 = (1047, true, .iinc 4 8, 3, mcX0) := rfl
def K_Lc15 : List mcEn := [(1034, false, .aload_n 1, 1, mcX0), (1035, false, .invokevirtual 123, 3, (9, 1, [382, 383, 52, 385, 384, 1], [M_Srv_wrong])), (1038, false, .aload_n 2, 1, mcX0), (1039, false, .invokevirtual 126, 3, (10, 1, [1194, 1195, 63, 1197, 1196, 1], [M_Mod_wrong])), (1042, false, .if_icmp .eq 5, 3, (1047, 0, [], [])), (1045, false, .iconst 0, 1, mcX0), (1046, false, .ireturn, 1, (1, 0, [], [])), (1047, true, .iinc 4 8, 3, mcX0)]
theorem ok_Lc15 : mcKok M_Law_law K_Lc15 = true := by decide +kernel
theorem kf_Lc15_1034 : mcGet K_Lc15 1034 = (1034, false, .aload_n 1, 1, mcX0) := rfl
theorem kf_Lc15_1035 : mcGet K_Lc15 1035 = (1035, false, .invokevirtual 123, 3, (9, 1, [382, 383, 52, 385, 384, 1], [M_Srv_wrong])) := rfl
theorem kf_Lc15_1038 : mcGet K_Lc15 1038 = (1038, false, .aload_n 2, 1, mcX0) := rfl
theorem kf_Lc15_1039 : mcGet K_Lc15 1039 = (1039, false, .invokevirtual 126, 3, (10, 1, [1194, 1195, 63, 1197, 1196, 1], [M_Mod_wrong])) := rfl
theorem kf_Lc15_1042 : mcGet K_Lc15 1042 = (1042, false, .if_icmp .eq 5, 3, (1047, 0, [], [])) := rfl
theorem kf_Lc15_1045 : mcGet K_Lc15 1045 = (1045, false, .iconst 0, 1, mcX0) := rfl
theorem kf_Lc15_1046 : mcGet K_Lc15 1046 = (1046, false, .ireturn, 1, (1, 0, [], [])) := rfl
theorem kf_Lc15_1047 : mcGet K_Lc15 1047 = (1047, true, .iinc 4 8, 3, mcX0) := rfl
section LAW0
variable {L : Nat} {σ : mG} {x : Int}
theorem ca_0 {ok : Nat → Bool} {f : Int → Prop} : cAl L σ 0 x ok f = (ok 0 = true ∧ (0 ≤ x ∧ x < (L : Int)) ∧ (in32 (σ 0 x) → f (σ 0 x))) := by simp only [cAl, sk_0]; first | done | rfl
theorem cn_0 {f : Nat → Prop} : cAn L 0 f = f L := by simp only [cAn, sk_0]
end LAW0
