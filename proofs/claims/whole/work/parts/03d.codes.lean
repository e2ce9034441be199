/-! 03.codes b: printed by wip/whole/prog/codes.py -/
theorem kf_Srv_init_0 : mcGet K_Srv_init 0 = (0, false, .aload_n 0, 1, mcX0) := rfl
theorem kf_Srv_init_1 : mcGet K_Srv_init 1 = (1, false, .invokespecial 1, 3, (0, 0, [76, 77, 78, 0], [])) := rfl
theorem kf_Srv_init_4 : mcGet K_Srv_init 4 = (4, false, .aload_n 0, 1, mcX0) := rfl
theorem kf_Srv_init_5 : mcGet K_Srv_init 5 = (5, false, .iconst 4, 1, mcX0) := rfl
theorem kf_Srv_init_6 : mcGet K_Srv_init 6 = (6, false, .anewarray 9, 3, (4, 0, [79, 80], [])) := rfl
theorem kf_Srv_init_9 : mcGet K_Srv_init 9 = (9, false, .putfield 11, 3, (9, 0, [360, 1], [])) := rfl
theorem kf_Srv_init_12 : mcGet K_Srv_init 12 = (12, false, .aload_n 0, 1, mcX0) := rfl
theorem kf_Srv_init_13 : mcGet K_Srv_init 13 = (13, false, .new 15, 3, (0, 7, [81, 82, 53], [])) := rfl
theorem kf_Srv_init_16 : mcGet K_Srv_init 16 = (16, false, .dup, 1, mcX0) := rfl
theorem kf_Srv_init_17 : mcGet K_Srv_init 17 = (17, false, .invokespecial 17, 3, (0, 1, [83, 84, 53, 85], [M_Post_init])) := rfl
theorem kf_Srv_init_20 : mcGet K_Srv_init 20 = (20, false, .putfield 18, 3, (9, 1, [361, 1], [])) := rfl
theorem kf_Srv_init_23 : mcGet K_Srv_init 23 = (23, false, .aload_n 0, 1, mcX0) := rfl
theorem kf_Srv_init_24 : mcGet K_Srv_init 24 = (24, false, .new 22, 3, (6, 7, [121, 122, 54], [])) := rfl
theorem kf_Srv_init_27 : mcGet K_Srv_init 27 = (27, false, .dup, 1, mcX0) := rfl
theorem kf_Srv_init_28 : mcGet K_Srv_init 28 = (28, false, .invokespecial 24, 3, (6, 1, [123, 124, 54, 125], [M_Server_init])) := rfl
theorem kf_Srv_init_31 : mcGet K_Srv_init 31 = (31, false, .putfield 25, 3, (9, 2, [362, 1], [])) := rfl
theorem kf_Srv_init_34 : mcGet K_Srv_init 34 = (34, false, .iconst 0, 1, mcX0) := rfl
theorem kf_Srv_init_35 : mcGet K_Srv_init 35 = (35, false, .istore_n 1, 1, mcX0) := rfl
theorem kf_Srv_init_36 : mcGet K_Srv_init 36 = (36, true, .iload_n 1, 1, mcX0) := rfl
theorem kf_Srv_init_37 : mcGet K_Srv_init 37 = (37, false, .iconst 4, 1, mcX0) := rfl
theorem kf_Srv_init_38 : mcGet K_Srv_init 38 = (38, false, .if_icmp .ge 22, 3, (60, 0, [], [])) := rfl
theorem kf_Srv_init_41 : mcGet K_Srv_init 41 = (41, false, .aload_n 0, 1, mcX0) := rfl
theorem kf_Srv_init_42 : mcGet K_Srv_init 42 = (42, false, .getfield 11, 3, (9, 0, [360, 1], [])) := rfl
theorem kf_Srv_init_45 : mcGet K_Srv_init 45 = (45, false, .iload_n 1, 1, mcX0) := rfl
theorem kf_Srv_init_46 : mcGet K_Srv_init 46 = (46, false, .new 9, 3, (8, 2, [79, 315, 61], [])) := rfl
theorem kf_Srv_init_49 : mcGet K_Srv_init 49 = (49, false, .dup, 1, mcX0) := rfl
theorem kf_Srv_init_50 : mcGet K_Srv_init 50 = (50, false, .invokespecial 29, 3, (8, 1, [316, 317, 61, 318], [M_Client_init])) := rfl
theorem kf_Srv_init_53 : mcGet K_Srv_init 53 = (53, false, .aastore, 1, mcX0) := rfl
theorem kf_Srv_init_54 : mcGet K_Srv_init 54 = (54, false, .iinc 1 1, 3, mcX0) := rfl
theorem kf_Srv_init_57 : mcGet K_Srv_init 57 = (57, false, .goto (-21), 3, (36, 0, [], [])) := rfl
theorem kf_Srv_init_60 : mcGet K_Srv_init 60 = (60, false, .return_, 1, mcX0) := rfl
theorem kf_Srv_boot_0 : mcGet K_Srv_boot 0 = (0, false, .aload_n 0, 1, mcX0) := rfl
theorem kf_Srv_boot_1 : mcGet K_Srv_boot 1 = (1, false, .getfield 25, 3, (9, 2, [362, 1], [])) := rfl
theorem kf_Srv_boot_4 : mcGet K_Srv_boot 4 = (4, false, .getfield 92, 3, (6, 3, [294, 2], [])) := rfl
theorem kf_Srv_boot_7 : mcGet K_Srv_boot 7 = (7, false, .ifCond .ne 7, 3, (14, 0, [], [])) := rfl
theorem kf_Srv_boot_10 : mcGet K_Srv_boot 10 = (10, false, .iconst 1, 1, mcX0) := rfl
theorem kf_Srv_boot_11 : mcGet K_Srv_boot 11 = (11, false, .goto 4, 3, (15, 0, [], [])) := rfl
theorem kf_Srv_boot_14 : mcGet K_Srv_boot 14 = (14, false, .iconst 0, 1, mcX0) := rfl
theorem kf_Srv_boot_15 : mcGet K_Srv_boot 15 = (15, false, .invokestatic 62, 3, (5, 1, [488, 489, 52, 490, 0, 1], [M_Srv_demandState])) := rfl
theorem kf_Srv_boot_18 : mcGet K_Srv_boot 18 = (18, false, .aload_n 0, 1, mcX0) := rfl
theorem kf_Srv_boot_19 : mcGet K_Srv_boot 19 = (19, false, .getfield 25, 3, (9, 2, [362, 1], [])) := rfl
theorem kf_Srv_boot_22 : mcGet K_Srv_boot 22 = (22, false, .invokevirtual 122, 3, (6, 1, [844, 845, 54, 847, 846, 1], [M_Server_beginAnew])) := rfl
theorem kf_Srv_boot_25 : mcGet K_Srv_boot 25 = (25, false, .return_, 1, mcX0) := rfl
theorem kf_Srv_carry_0 : mcGet K_Srv_carry 0 = (0, false, .iload_n 1, 1, mcX0) := rfl
theorem kf_Srv_carry_1 : mcGet K_Srv_carry 1 = (1, false, .ifCond .lt 18, 3, (19, 0, [], [])) := rfl
theorem kf_Srv_carry_4 : mcGet K_Srv_carry 4 = (4, false, .iload_n 1, 1, mcX0) := rfl
theorem kf_Srv_carry_5 : mcGet K_Srv_carry 5 = (5, false, .aload_n 0, 1, mcX0) := rfl
theorem kf_Srv_carry_6 : mcGet K_Srv_carry 6 = (6, false, .getfield 18, 3, (9, 1, [361, 1], [])) := rfl
theorem kf_Srv_carry_9 : mcGet K_Srv_carry 9 = (9, false, .getfield 75, 3, (0, 6, [104, 0], [])) := rfl
theorem kf_Srv_carry_12 : mcGet K_Srv_carry 12 = (12, false, .if_icmp .ge 7, 3, (19, 0, [], [])) := rfl
theorem kf_Srv_carry_15 : mcGet K_Srv_carry 15 = (15, false, .iconst 1, 1, mcX0) := rfl
theorem kf_Srv_carry_16 : mcGet K_Srv_carry 16 = (16, false, .goto 4, 3, (20, 0, [], [])) := rfl
theorem kf_Srv_carry_19 : mcGet K_Srv_carry 19 = (19, false, .iconst 0, 1, mcX0) := rfl
theorem kf_Srv_carry_20 : mcGet K_Srv_carry 20 = (20, false, .invokestatic 34, 3, (4, 1, [397, 398, 52, 399, 0, 1], [M_Srv_demandLegal])) := rfl
theorem kf_Srv_carry_23 : mcGet K_Srv_carry 23 = (23, false, .aload_n 0, 1, mcX0) := rfl
theorem kf_Srv_carry_24 : mcGet K_Srv_carry 24 = (24, false, .getfield 25, 3, (9, 2, [362, 1], [])) := rfl
theorem kf_Srv_carry_27 : mcGet K_Srv_carry 27 = (27, false, .aload_n 0, 1, mcX0) := rfl
theorem kf_Srv_carry_28 : mcGet K_Srv_carry 28 = (28, false, .getfield 18, 3, (9, 1, [361, 1], [])) := rfl
theorem kf_Srv_carry_31 : mcGet K_Srv_carry 31 = (31, false, .iload_n 1, 1, mcX0) := rfl
theorem kf_Srv_carry_32 : mcGet K_Srv_carry 32 = (32, false, .invokevirtual 85, 3, (6, 3, [539, 540, 54, 542, 541, 8], [M_Server_fateOf])) := rfl
theorem kf_Srv_carry_35 : mcGet K_Srv_carry 35 = (35, false, .istore_n 3, 1, mcX0) := rfl
theorem kf_Srv_carry_36 : mcGet K_Srv_carry 36 = (36, false, .iload_n 3, 1, mcX0) := rfl
theorem kf_Srv_carry_37 : mcGet K_Srv_carry 37 = (37, false, .iconst 1, 1, mcX0) := rfl
theorem kf_Srv_carry_38 : mcGet K_Srv_carry 38 = (38, false, .if_icmp .ne 16, 3, (54, 0, [], [])) := rfl
theorem kf_Srv_carry_41 : mcGet K_Srv_carry 41 = (41, false, .aload_n 0, 1, mcX0) := rfl
theorem kf_Srv_carry_42 : mcGet K_Srv_carry 42 = (42, false, .getfield 25, 3, (9, 2, [362, 1], [])) := rfl
theorem kf_Srv_carry_45 : mcGet K_Srv_carry 45 = (45, false, .aload_n 0, 1, mcX0) := rfl
theorem kf_Srv_carry_46 : mcGet K_Srv_carry 46 = (46, false, .getfield 18, 3, (9, 1, [361, 1], [])) := rfl
theorem kf_Srv_carry_49 : mcGet K_Srv_carry 49 = (49, false, .iload_n 1, 1, mcX0) := rfl
theorem kf_Srv_carry_50 : mcGet K_Srv_carry 50 = (50, false, .invokevirtual 89, 3, (6, 3, [546, 547, 54, 549, 548, 5], [M_Server_write])) := rfl
theorem kf_Srv_carry_53 : mcGet K_Srv_carry 53 = (53, false, .istore_n 3, 1, mcX0) := rfl
theorem kf_Srv_carry_54 : mcGet K_Srv_carry 54 = (54, false, .iload_n 3, 1, mcX0) := rfl
theorem kf_Srv_carry_55 : mcGet K_Srv_carry 55 = (55, false, .iconst 1, 1, mcX0) := rfl
theorem kf_Srv_carry_56 : mcGet K_Srv_carry 56 = (56, false, .if_icmp .eq 8, 3, (64, 0, [], [])) := rfl
theorem kf_Srv_carry_59 : mcGet K_Srv_carry 59 = (59, false, .iload_n 3, 1, mcX0) := rfl
theorem kf_Srv_carry_60 : mcGet K_Srv_carry 60 = (60, false, .iconst 2, 1, mcX0) := rfl
theorem kf_Srv_carry_61 : mcGet K_Srv_carry 61 = (61, false, .if_icmp .ne 17, 3, (78, 0, [], [])) := rfl
theorem kf_Srv_carry_64 : mcGet K_Srv_carry 64 = (64, false, .aload_n 0, 1, mcX0) := rfl
theorem kf_Srv_carry_65 : mcGet K_Srv_carry 65 = (65, false, .getfield 25, 3, (9, 2, [362, 1], [])) := rfl
theorem kf_Srv_carry_68 : mcGet K_Srv_carry 68 = (68, false, .getfield 92, 3, (6, 3, [294, 2], [])) := rfl
theorem kf_Srv_carry_71 : mcGet K_Srv_carry 71 = (71, false, .ifCond .eq 7, 3, (78, 0, [], [])) := rfl
theorem kf_Srv_carry_74 : mcGet K_Srv_carry 74 = (74, false, .iconst 1, 1, mcX0) := rfl
theorem kf_Srv_carry_75 : mcGet K_Srv_carry 75 = (75, false, .goto 4, 3, (79, 0, [], [])) := rfl
theorem kf_Srv_carry_78 : mcGet K_Srv_carry 78 = (78, false, .iconst 0, 1, mcX0) := rfl
theorem kf_Srv_carry_79 : mcGet K_Srv_carry 79 = (79, false, .istore 4, 2, mcX0) := rfl
theorem kf_Srv_carry_81 : mcGet K_Srv_carry 81 = (81, false, .iload 4, 2, mcX0) := rfl
theorem kf_Srv_carry_83 : mcGet K_Srv_carry 83 = (83, false, .ifCond .eq 12, 3, (95, 0, [], [])) := rfl
theorem kf_Srv_carry_86 : mcGet K_Srv_carry 86 = (86, false, .iload_n 2, 1, mcX0) := rfl
theorem kf_Srv_carry_87 : mcGet K_Srv_carry 87 = (87, false, .ifCond .ne 8, 3, (95, 0, [], [])) := rfl
theorem kf_Srv_carry_90 : mcGet K_Srv_carry 90 = (90, false, .aload_n 0, 1, mcX0) := rfl
theorem kf_Srv_carry_91 : mcGet K_Srv_carry 91 = (91, false, .iload_n 1, 1, mcX0) := rfl
theorem kf_Srv_carry_92 : mcGet K_Srv_carry 92 = (92, false, .invokevirtual 96, 3, (9, 2, [797, 799, 52, 800, 22, 6], [M_Srv_deliver])) := rfl
theorem kf_Srv_carry_95 : mcGet K_Srv_carry 95 = (95, false, .iload_n 3, 1, mcX0) := rfl
theorem kf_Srv_carry_96 : mcGet K_Srv_carry 96 = (96, false, .ireturn, 1, mcX0) := rfl
theorem kf_Srv_code_0 : mcGet K_Srv_code 0 = (0, false, .iload_n 1, 1, mcX0) := rfl
theorem kf_Srv_code_1 : mcGet K_Srv_code 1 = (1, false, .invokestatic 30, 3, (0, 1, [394, 395, 52, 396, 0, 1], [M_Srv_isClient])) := rfl
theorem kf_Srv_code_4 : mcGet K_Srv_code 4 = (4, false, .ifCond .eq 14, 3, (18, 0, [], [])) := rfl
theorem kf_Srv_code_7 : mcGet K_Srv_code 7 = (7, false, .iload_n 2, 1, mcX0) := rfl
theorem kf_Srv_code_8 : mcGet K_Srv_code 8 = (8, false, .invokestatic 45, 3, (0, 1, [478, 479, 52, 480, 0, 1], [M_Srv_isSlot])) := rfl
theorem kf_Srv_code_11 : mcGet K_Srv_code 11 = (11, false, .ifCond .eq 7, 3, (18, 0, [], [])) := rfl
theorem kf_Srv_code_14 : mcGet K_Srv_code 14 = (14, false, .iconst 1, 1, mcX0) := rfl
theorem kf_Srv_code_15 : mcGet K_Srv_code 15 = (15, false, .goto 4, 3, (19, 0, [], [])) := rfl
theorem kf_Srv_code_18 : mcGet K_Srv_code 18 = (18, false, .iconst 0, 1, mcX0) := rfl
theorem kf_Srv_code_19 : mcGet K_Srv_code 19 = (19, false, .invokestatic 34, 3, (4, 1, [397, 398, 52, 399, 0, 1], [M_Srv_demandLegal])) := rfl
theorem kf_Srv_code_22 : mcGet K_Srv_code 22 = (22, false, .aload_n 0, 1, mcX0) := rfl
theorem kf_Srv_code_23 : mcGet K_Srv_code 23 = (23, false, .getfield 11, 3, (9, 0, [360, 1], [])) := rfl
theorem kf_Srv_code_26 : mcGet K_Srv_code 26 = (26, false, .iload_n 1, 1, mcX0) := rfl
theorem kf_Srv_code_27 : mcGet K_Srv_code 27 = (27, false, .aaload, 1, mcX0) := rfl
theorem kf_Srv_code_28 : mcGet K_Srv_code 28 = (28, false, .getfield 52, 3, (8, 0, [352, 1], [])) := rfl
theorem kf_Srv_code_31 : mcGet K_Srv_code 31 = (31, false, .iload_n 2, 1, mcX0) := rfl
theorem kf_Srv_code_32 : mcGet K_Srv_code 32 = (32, false, .aaload, 1, mcX0) := rfl
theorem kf_Srv_code_33 : mcGet K_Srv_code 33 = (33, false, .astore 4, 2, mcX0) := rfl
theorem kf_Srv_code_35 : mcGet K_Srv_code 35 = (35, false, .aload 4, 2, mcX0) := rfl
theorem kf_Srv_code_37 : mcGet K_Srv_code 37 = (37, false, .getfield 72, 3, (7, 2, [334, 0], [])) := rfl
theorem kf_Srv_code_40 : mcGet K_Srv_code 40 = (40, false, .iconst 2, 1, mcX0) := rfl
theorem kf_Srv_code_41 : mcGet K_Srv_code 41 = (41, false, .if_icmp .ne 6, 3, (47, 0, [], [])) := rfl
theorem kf_Srv_code_44 : mcGet K_Srv_code 44 = (44, false, .bipush (-2), 2, mcX0) := rfl
theorem kf_Srv_code_46 : mcGet K_Srv_code 46 = (46, false, .ireturn, 1, mcX0) := rfl
theorem kf_Srv_code_47 : mcGet K_Srv_code 47 = (47, false, .aload 4, 2, mcX0) := rfl
theorem kf_Srv_code_49 : mcGet K_Srv_code 49 = (49, false, .iload_n 3, 1, mcX0) := rfl
theorem kf_Srv_code_50 : mcGet K_Srv_code 50 = (50, false, .invokevirtual 100, 3, (7, 2, [818, 819, 62, 821, 820, 2], [M_Desk_hasAnswerTo])) := rfl
theorem kf_Srv_code_53 : mcGet K_Srv_code 53 = (53, false, .ifCond .eq 16, 3, (69, 0, [], [])) := rfl
theorem kf_Srv_code_56 : mcGet K_Srv_code 56 = (56, false, .aload 4, 2, mcX0) := rfl
theorem kf_Srv_code_58 : mcGet K_Srv_code 58 = (58, false, .getfield 103, 3, (7, 1, [332, 1], [])) := rfl
theorem kf_Srv_code_61 : mcGet K_Srv_code 61 = (61, false, .getfield 107, 3, (3, 0, [204, 1], [])) := rfl
theorem kf_Srv_code_64 : mcGet K_Srv_code 64 = (64, false, .iload_n 3, 1, mcX0) := rfl
theorem kf_Srv_code_65 : mcGet K_Srv_code 65 = (65, false, .iaload, 1, mcX0) := rfl
theorem kf_Srv_code_66 : mcGet K_Srv_code 66 = (66, false, .goto 4, 3, (70, 0, [], [])) := rfl
theorem kf_Srv_code_69 : mcGet K_Srv_code 69 = (69, false, .iconst (-1), 1, mcX0) := rfl
theorem kf_Srv_code_70 : mcGet K_Srv_code 70 = (70, false, .ireturn, 1, mcX0) := rfl
theorem kf_Srv_deliver_0 : mcGet K_Srv_deliver 0 = (0, false, .aload_n 0, 1, mcX0) := rfl
theorem kf_Srv_deliver_1 : mcGet K_Srv_deliver 1 = (1, false, .getfield 18, 3, (9, 1, [361, 1], [])) := rfl
theorem kf_Srv_deliver_4 : mcGet K_Srv_deliver 4 = (4, false, .getfield 186, 3, (0, 0, [89, 1], [])) := rfl
theorem kf_Srv_deliver_7 : mcGet K_Srv_deliver 7 = (7, false, .iload_n 1, 1, mcX0) := rfl
theorem kf_Srv_deliver_8 : mcGet K_Srv_deliver 8 = (8, false, .iaload, 1, mcX0) := rfl
theorem kf_Srv_deliver_9 : mcGet K_Srv_deliver 9 = (9, false, .istore_n 2, 1, mcX0) := rfl
theorem kf_Srv_deliver_10 : mcGet K_Srv_deliver 10 = (10, false, .aload_n 0, 1, mcX0) := rfl
theorem kf_Srv_deliver_11 : mcGet K_Srv_deliver 11 = (11, false, .getfield 18, 3, (9, 1, [361, 1], [])) := rfl
theorem kf_Srv_deliver_14 : mcGet K_Srv_deliver 14 = (14, false, .getfield 189, 3, (0, 1, [92, 1], [])) := rfl
theorem kf_Srv_deliver_17 : mcGet K_Srv_deliver 17 = (17, false, .iload_n 1, 1, mcX0) := rfl
theorem kf_Srv_deliver_18 : mcGet K_Srv_deliver 18 = (18, false, .iaload, 1, mcX0) := rfl
theorem kf_Srv_deliver_19 : mcGet K_Srv_deliver 19 = (19, false, .istore_n 3, 1, mcX0) := rfl
theorem kf_Srv_deliver_20 : mcGet K_Srv_deliver 20 = (20, false, .aload_n 0, 1, mcX0) := rfl
theorem kf_Srv_deliver_21 : mcGet K_Srv_deliver 21 = (21, false, .getfield 11, 3, (9, 0, [360, 1], [])) := rfl
theorem kf_Srv_deliver_24 : mcGet K_Srv_deliver 24 = (24, false, .iload_n 2, 1, mcX0) := rfl
theorem kf_Srv_deliver_25 : mcGet K_Srv_deliver 25 = (25, false, .aaload, 1, mcX0) := rfl
theorem kf_Srv_deliver_26 : mcGet K_Srv_deliver 26 = (26, false, .getfield 52, 3, (8, 0, [352, 1], [])) := rfl
theorem kf_Srv_deliver_29 : mcGet K_Srv_deliver 29 = (29, false, .iload_n 3, 1, mcX0) := rfl
theorem kf_Srv_deliver_30 : mcGet K_Srv_deliver 30 = (30, false, .aaload, 1, mcX0) := rfl
theorem kf_Srv_deliver_31 : mcGet K_Srv_deliver 31 = (31, false, .astore 4, 2, mcX0) := rfl
theorem kf_Srv_deliver_33 : mcGet K_Srv_deliver 33 = (33, false, .aload_n 0, 1, mcX0) := rfl
theorem kf_Srv_deliver_34 : mcGet K_Srv_deliver 34 = (34, false, .getfield 11, 3, (9, 0, [360, 1], [])) := rfl
theorem kf_Srv_deliver_37 : mcGet K_Srv_deliver 37 = (37, false, .iload_n 2, 1, mcX0) := rfl
theorem kf_Srv_deliver_38 : mcGet K_Srv_deliver 38 = (38, false, .aaload, 1, mcX0) := rfl
theorem kf_Srv_deliver_39 : mcGet K_Srv_deliver 39 = (39, false, .getfield 41, 3, (8, 1, [354, 0], [])) := rfl
theorem kf_Srv_deliver_42 : mcGet K_Srv_deliver 42 = (42, false, .aload_n 0, 1, mcX0) := rfl
theorem kf_Srv_deliver_43 : mcGet K_Srv_deliver 43 = (43, false, .getfield 18, 3, (9, 1, [361, 1], [])) := rfl
theorem kf_Srv_deliver_46 : mcGet K_Srv_deliver 46 = (46, false, .getfield 192, 3, (0, 2, [95, 1], [])) := rfl
theorem kf_Srv_deliver_49 : mcGet K_Srv_deliver 49 = (49, false, .iload_n 1, 1, mcX0) := rfl
theorem kf_Srv_deliver_50 : mcGet K_Srv_deliver 50 = (50, false, .iaload, 1, mcX0) := rfl
theorem kf_Srv_deliver_51 : mcGet K_Srv_deliver 51 = (51, false, .if_icmp .ne 7, 3, (58, 0, [], [])) := rfl
theorem kf_Srv_deliver_54 : mcGet K_Srv_deliver 54 = (54, false, .iconst 1, 1, mcX0) := rfl
theorem kf_Srv_deliver_55 : mcGet K_Srv_deliver 55 = (55, false, .goto 4, 3, (59, 0, [], [])) := rfl
theorem kf_Srv_deliver_58 : mcGet K_Srv_deliver 58 = (58, false, .iconst 0, 1, mcX0) := rfl
theorem kf_Srv_deliver_59 : mcGet K_Srv_deliver 59 = (59, false, .istore 5, 2, mcX0) := rfl
theorem kf_Srv_deliver_61 : mcGet K_Srv_deliver 61 = (61, false, .iload 5, 2, mcX0) := rfl
theorem kf_Srv_deliver_63 : mcGet K_Srv_deliver 63 = (63, false, .ifCond .eq 41, 3, (104, 0, [], [])) := rfl
theorem kf_Srv_deliver_66 : mcGet K_Srv_deliver 66 = (66, false, .aload 4, 2, mcX0) := rfl
theorem kf_Srv_deliver_68 : mcGet K_Srv_deliver 68 = (68, false, .aload_n 0, 1, mcX0) := rfl
theorem kf_Srv_deliver_69 : mcGet K_Srv_deliver 69 = (69, false, .getfield 18, 3, (9, 1, [361, 1], [])) := rfl
theorem kf_Srv_deliver_72 : mcGet K_Srv_deliver 72 = (72, false, .getfield 194, 3, (0, 3, [98, 1], [])) := rfl
theorem kf_Srv_deliver_75 : mcGet K_Srv_deliver 75 = (75, false, .iload_n 1, 1, mcX0) := rfl
theorem kf_Srv_deliver_76 : mcGet K_Srv_deliver 76 = (76, false, .iaload, 1, mcX0) := rfl
theorem kf_Srv_deliver_77 : mcGet K_Srv_deliver 77 = (77, false, .invokevirtual 197, 3, (7, 2, [801, 802, 62, 804, 803, 2], [M_Desk_awaits])) := rfl
theorem kf_Srv_deliver_80 : mcGet K_Srv_deliver 80 = (80, false, .ifCond .eq 24, 3, (104, 0, [], [])) := rfl
theorem kf_Srv_deliver_83 : mcGet K_Srv_deliver 83 = (83, false, .aload 4, 2, mcX0) := rfl
theorem kf_Srv_deliver_85 : mcGet K_Srv_deliver 85 = (85, false, .aload_n 0, 1, mcX0) := rfl
theorem kf_Srv_deliver_86 : mcGet K_Srv_deliver 86 = (86, false, .getfield 25, 3, (9, 2, [362, 1], [])) := rfl
theorem kf_Srv_deliver_89 : mcGet K_Srv_deliver 89 = (89, false, .getfield 132, 3, (6, 1, [291, 1], [])) := rfl
theorem kf_Srv_deliver_92 : mcGet K_Srv_deliver 92 = (92, false, .getfield 200, 3, (4, 5, [231, 1], [])) := rfl
theorem kf_Srv_deliver_95 : mcGet K_Srv_deliver 95 = (95, false, .iload_n 2, 1, mcX0) := rfl
theorem kf_Srv_deliver_96 : mcGet K_Srv_deliver 96 = (96, false, .iload_n 3, 1, mcX0) := rfl
theorem kf_Srv_deliver_97 : mcGet K_Srv_deliver 97 = (97, false, .invokestatic 204, 3, (0, 2, [805, 544, 52, 545, 0, 2], [M_Srv_slotOf])) := rfl
theorem kf_Srv_deliver_100 : mcGet K_Srv_deliver 100 = (100, false, .aaload, 1, mcX0) := rfl
theorem kf_Srv_deliver_101 : mcGet K_Srv_deliver 101 = (101, false, .invokevirtual 207, 3, (7, 2, [806, 807, 62, 809, 808, 2], [M_Desk_take])) := rfl
theorem kf_Srv_deliver_104 : mcGet K_Srv_deliver 104 = (104, false, .return_, 1, mcX0) := rfl
theorem kf_Srv_demandLegal_0 : mcGet K_Srv_demandLegal 0 = (0, false, .iload_n 0, 1, mcX0) := rfl
theorem kf_Srv_demandLegal_1 : mcGet K_Srv_demandLegal 1 = (1, false, .ifCond .ne 11, 3, (12, 0, [], [])) := rfl
theorem kf_Srv_demandLegal_4 : mcGet K_Srv_demandLegal 4 = (4, false, .new 211, 3, (100, 6, [400, 401, 67], [M_IllegalArgumentException_init])) := rfl
theorem kf_Srv_demandLegal_12 : mcGet K_Srv_demandLegal 12 = (12, false, .return_, 1, mcX0) := rfl
theorem kf_Srv_demandState_0 : mcGet K_Srv_demandState 0 = (0, false, .iload_n 0, 1, mcX0) := rfl
theorem kf_Srv_demandState_1 : mcGet K_Srv_demandState 1 = (1, false, .ifCond .ne 11, 3, (12, 0, [], [])) := rfl
theorem kf_Srv_demandState_4 : mcGet K_Srv_demandState 4 = (4, false, .new 214, 3, (101, 6, [491, 492, 68], [M_IllegalStateException_init])) := rfl
theorem kf_Srv_demandState_12 : mcGet K_Srv_demandState 12 = (12, false, .return_, 1, mcX0) := rfl
theorem kf_Srv_handle_0 : mcGet K_Srv_handle 0 = (0, false, .iload_n 1, 1, mcX0) := rfl
theorem kf_Srv_handle_1 : mcGet K_Srv_handle 1 = (1, false, .invokestatic 30, 3, (0, 1, [394, 395, 52, 396, 0, 1], [M_Srv_isClient])) := rfl
theorem kf_Srv_handle_4 : mcGet K_Srv_handle 4 = (4, false, .ifCond .eq 14, 3, (18, 0, [], [])) := rfl
theorem kf_Srv_handle_7 : mcGet K_Srv_handle 7 = (7, false, .iload_n 2, 1, mcX0) := rfl
theorem kf_Srv_handle_8 : mcGet K_Srv_handle 8 = (8, false, .invokestatic 163, 3, (0, 1, [892, 585, 52, 586, 0, 1], [M_Srv_isHandle])) := rfl
theorem kf_Srv_handle_11 : mcGet K_Srv_handle 11 = (11, false, .ifCond .eq 7, 3, (18, 0, [], [])) := rfl
theorem kf_Srv_handle_14 : mcGet K_Srv_handle 14 = (14, false, .iconst 1, 1, mcX0) := rfl
theorem kf_Srv_handle_15 : mcGet K_Srv_handle 15 = (15, false, .goto 4, 3, (19, 0, [], [])) := rfl
theorem kf_Srv_handle_18 : mcGet K_Srv_handle 18 = (18, false, .iconst 0, 1, mcX0) := rfl
theorem kf_Srv_handle_19 : mcGet K_Srv_handle 19 = (19, false, .invokestatic 34, 3, (4, 1, [397, 398, 52, 399, 0, 1], [M_Srv_demandLegal])) := rfl
theorem kf_Srv_handle_22 : mcGet K_Srv_handle 22 = (22, false, .aload_n 0, 1, mcX0) := rfl
theorem kf_Srv_handle_23 : mcGet K_Srv_handle 23 = (23, false, .getfield 25, 3, (9, 2, [362, 1], [])) := rfl
theorem kf_Srv_handle_26 : mcGet K_Srv_handle 26 = (26, false, .getfield 132, 3, (6, 1, [291, 1], [])) := rfl
theorem kf_Srv_handle_29 : mcGet K_Srv_handle 29 = (29, false, .iload_n 1, 1, mcX0) := rfl
theorem kf_Srv_handle_30 : mcGet K_Srv_handle 30 = (30, false, .iload_n 2, 1, mcX0) := rfl
theorem kf_Srv_handle_31 : mcGet K_Srv_handle 31 = (31, false, .invokevirtual 166, 3, (4, 3, [893, 588, 56, 590, 589, 3], [M_Disk_boundTo])) := rfl
theorem kf_Srv_handle_34 : mcGet K_Srv_handle 34 = (34, false, .ireturn, 1, mcX0) := rfl
theorem kf_Srv_isClient_0 : mcGet K_Srv_isClient 0 = (0, false, .iload_n 0, 1, mcX0) := rfl
theorem kf_Srv_isClient_1 : mcGet K_Srv_isClient 1 = (1, false, .ifCond .lt 12, 3, (13, 0, [], [])) := rfl
theorem kf_Srv_isClient_4 : mcGet K_Srv_isClient 4 = (4, false, .iload_n 0, 1, mcX0) := rfl
theorem kf_Srv_isClient_5 : mcGet K_Srv_isClient 5 = (5, false, .iconst 4, 1, mcX0) := rfl
theorem kf_Srv_isClient_6 : mcGet K_Srv_isClient 6 = (6, false, .if_icmp .ge 7, 3, (13, 0, [], [])) := rfl
theorem kf_Srv_isClient_9 : mcGet K_Srv_isClient 9 = (9, false, .iconst 1, 1, mcX0) := rfl
theorem kf_Srv_isClient_10 : mcGet K_Srv_isClient 10 = (10, false, .goto 4, 3, (14, 0, [], [])) := rfl
theorem kf_Srv_isClient_13 : mcGet K_Srv_isClient 13 = (13, false, .iconst 0, 1, mcX0) := rfl
theorem kf_Srv_isClient_14 : mcGet K_Srv_isClient 14 = (14, false, .ireturn, 1, (1, 0, [], [])) := rfl
theorem kf_Srv_isHandle_0 : mcGet K_Srv_isHandle 0 = (0, false, .iload_n 0, 1, mcX0) := rfl
theorem kf_Srv_isHandle_1 : mcGet K_Srv_isHandle 1 = (1, false, .ifCond .lt 13, 3, (14, 0, [], [])) := rfl
theorem kf_Srv_isHandle_4 : mcGet K_Srv_isHandle 4 = (4, false, .iload_n 0, 1, mcX0) := rfl
theorem kf_Srv_isHandle_5 : mcGet K_Srv_isHandle 5 = (5, false, .bipush 8, 2, mcX0) := rfl
theorem kf_Srv_isHandle_7 : mcGet K_Srv_isHandle 7 = (7, false, .if_icmp .ge 7, 3, (14, 0, [], [])) := rfl
theorem kf_Srv_isHandle_10 : mcGet K_Srv_isHandle 10 = (10, false, .iconst 1, 1, mcX0) := rfl
theorem kf_Srv_isHandle_11 : mcGet K_Srv_isHandle 11 = (11, false, .goto 4, 3, (15, 0, [], [])) := rfl
theorem kf_Srv_isHandle_14 : mcGet K_Srv_isHandle 14 = (14, false, .iconst 0, 1, mcX0) := rfl
theorem kf_Srv_isHandle_15 : mcGet K_Srv_isHandle 15 = (15, false, .ireturn, 1, (1, 0, [], [])) := rfl
theorem kf_Srv_isNode_0 : mcGet K_Srv_isNode 0 = (0, false, .iload_n 0, 1, mcX0) := rfl
theorem kf_Srv_isNode_1 : mcGet K_Srv_isNode 1 = (1, false, .ifCond .lt 13, 3, (14, 0, [], [])) := rfl
theorem kf_Srv_isNode_4 : mcGet K_Srv_isNode 4 = (4, false, .iload_n 0, 1, mcX0) := rfl
theorem kf_Srv_isNode_5 : mcGet K_Srv_isNode 5 = (5, false, .bipush 32, 2, mcX0) := rfl
theorem kf_Srv_isNode_7 : mcGet K_Srv_isNode 7 = (7, false, .if_icmp .ge 7, 3, (14, 0, [], [])) := rfl
theorem kf_Srv_isNode_10 : mcGet K_Srv_isNode 10 = (10, false, .iconst 1, 1, mcX0) := rfl
theorem kf_Srv_isNode_11 : mcGet K_Srv_isNode 11 = (11, false, .goto 4, 3, (15, 0, [], [])) := rfl
theorem kf_Srv_isNode_14 : mcGet K_Srv_isNode 14 = (14, false, .iconst 0, 1, mcX0) := rfl
theorem kf_Srv_isNode_15 : mcGet K_Srv_isNode 15 = (15, false, .ireturn, 1, (1, 0, [], [])) := rfl
theorem kf_Srv_isPlace_0 : mcGet K_Srv_isPlace 0 = (0, false, .iload_n 0, 1, mcX0) := rfl
theorem kf_Srv_isPlace_1 : mcGet K_Srv_isPlace 1 = (1, false, .ifCond .lt 13, 3, (14, 0, [], [])) := rfl
theorem kf_Srv_isPlace_4 : mcGet K_Srv_isPlace 4 = (4, false, .iload_n 0, 1, mcX0) := rfl
theorem kf_Srv_isPlace_5 : mcGet K_Srv_isPlace 5 = (5, false, .bipush 64, 2, mcX0) := rfl
theorem kf_Srv_isPlace_7 : mcGet K_Srv_isPlace 7 = (7, false, .if_icmp .ge 7, 3, (14, 0, [], [])) := rfl
theorem kf_Srv_isPlace_10 : mcGet K_Srv_isPlace 10 = (10, false, .iconst 1, 1, mcX0) := rfl
theorem kf_Srv_isPlace_11 : mcGet K_Srv_isPlace 11 = (11, false, .goto 4, 3, (15, 0, [], [])) := rfl
theorem kf_Srv_isPlace_14 : mcGet K_Srv_isPlace 14 = (14, false, .iconst 0, 1, mcX0) := rfl
theorem kf_Srv_isPlace_15 : mcGet K_Srv_isPlace 15 = (15, false, .ireturn, 1, (1, 0, [], [])) := rfl
theorem kf_Srv_isSlot_0 : mcGet K_Srv_isSlot 0 = (0, false, .iload_n 0, 1, mcX0) := rfl
theorem kf_Srv_isSlot_1 : mcGet K_Srv_isSlot 1 = (1, false, .ifCond .lt 12, 3, (13, 0, [], [])) := rfl
theorem kf_Srv_isSlot_4 : mcGet K_Srv_isSlot 4 = (4, false, .iload_n 0, 1, mcX0) := rfl
theorem kf_Srv_isSlot_5 : mcGet K_Srv_isSlot 5 = (5, false, .iconst 3, 1, mcX0) := rfl
theorem kf_Srv_isSlot_6 : mcGet K_Srv_isSlot 6 = (6, false, .if_icmp .ge 7, 3, (13, 0, [], [])) := rfl
theorem kf_Srv_isSlot_9 : mcGet K_Srv_isSlot 9 = (9, false, .iconst 1, 1, mcX0) := rfl
theorem kf_Srv_isSlot_10 : mcGet K_Srv_isSlot 10 = (10, false, .goto 4, 3, (14, 0, [], [])) := rfl
theorem kf_Srv_isSlot_13 : mcGet K_Srv_isSlot 13 = (13, false, .iconst 0, 1, mcX0) := rfl
theorem kf_Srv_isSlot_14 : mcGet K_Srv_isSlot 14 = (14, false, .ireturn, 1, (1, 0, [], [])) := rfl
theorem kf_Srv_isWithin_0 : mcGet K_Srv_isWithin 0 = (0, false, .iload_n 0, 1, mcX0) := rfl
theorem kf_Srv_isWithin_1 : mcGet K_Srv_isWithin 1 = (1, false, .iload_n 1, 1, mcX0) := rfl
theorem kf_Srv_isWithin_2 : mcGet K_Srv_isWithin 2 = (2, false, .if_icmp .lt 12, 3, (14, 0, [], [])) := rfl
theorem kf_Srv_isWithin_5 : mcGet K_Srv_isWithin 5 = (5, false, .iload_n 0, 1, mcX0) := rfl
theorem kf_Srv_isWithin_6 : mcGet K_Srv_isWithin 6 = (6, false, .iload_n 2, 1, mcX0) := rfl
theorem kf_Srv_isWithin_7 : mcGet K_Srv_isWithin 7 = (7, false, .if_icmp .gt 7, 3, (14, 0, [], [])) := rfl
theorem kf_Srv_isWithin_10 : mcGet K_Srv_isWithin 10 = (10, false, .iconst 1, 1, mcX0) := rfl
theorem kf_Srv_isWithin_11 : mcGet K_Srv_isWithin 11 = (11, false, .goto 4, 3, (15, 0, [], [])) := rfl
theorem kf_Srv_isWithin_14 : mcGet K_Srv_isWithin 14 = (14, false, .iconst 0, 1, mcX0) := rfl
theorem kf_Srv_isWithin_15 : mcGet K_Srv_isWithin 15 = (15, false, .ireturn, 1, (1, 0, [], [])) := rfl
theorem kf_Srv_lease_0 : mcGet K_Srv_lease 0 = (0, false, .iload_n 1, 1, mcX0) := rfl
theorem kf_Srv_lease_1 : mcGet K_Srv_lease 1 = (1, false, .invokestatic 30, 3, (0, 1, [394, 395, 52, 396, 0, 1], [M_Srv_isClient])) := rfl
theorem kf_Srv_lease_4 : mcGet K_Srv_lease 4 = (4, false, .invokestatic 34, 3, (4, 1, [397, 398, 52, 399, 0, 1], [M_Srv_demandLegal])) := rfl
theorem kf_Srv_lease_7 : mcGet K_Srv_lease 7 = (7, false, .aload_n 0, 1, mcX0) := rfl
theorem kf_Srv_lease_8 : mcGet K_Srv_lease 8 = (8, false, .getfield 25, 3, (9, 2, [362, 1], [])) := rfl
theorem kf_Srv_lease_11 : mcGet K_Srv_lease 11 = (11, false, .getfield 92, 3, (6, 3, [294, 2], [])) := rfl
theorem kf_Srv_lease_14 : mcGet K_Srv_lease 14 = (14, false, .ifCond .eq 27, 3, (41, 0, [], [])) := rfl
theorem kf_Srv_lease_17 : mcGet K_Srv_lease 17 = (17, false, .aload_n 0, 1, mcX0) := rfl
theorem kf_Srv_lease_18 : mcGet K_Srv_lease 18 = (18, false, .getfield 25, 3, (9, 2, [362, 1], [])) := rfl
theorem kf_Srv_lease_21 : mcGet K_Srv_lease 21 = (21, false, .getfield 132, 3, (6, 1, [291, 1], [])) := rfl
theorem kf_Srv_lease_24 : mcGet K_Srv_lease 24 = (24, false, .getfield 173, 3, (4, 1, [223, 1], [])) := rfl
theorem kf_Srv_lease_27 : mcGet K_Srv_lease 27 = (27, false, .iload_n 1, 1, mcX0) := rfl
theorem kf_Srv_lease_28 : mcGet K_Srv_lease 28 = (28, false, .aload_n 0, 1, mcX0) := rfl
theorem kf_Srv_lease_29 : mcGet K_Srv_lease 29 = (29, false, .getfield 25, 3, (9, 2, [362, 1], [])) := rfl
theorem kf_Srv_lease_32 : mcGet K_Srv_lease 32 = (32, false, .getfield 129, 3, (6, 5, [298, 0], [])) := rfl
theorem kf_Srv_lease_35 : mcGet K_Srv_lease 35 = (35, false, .invokevirtual 183, 3, (2, 3, [910, 911, 59, 913, 912, 3], [M_Locks_leaseLeft])) := rfl
theorem kf_Srv_lease_38 : mcGet K_Srv_lease 38 = (38, false, .goto 4, 3, (42, 0, [], [])) := rfl
theorem kf_Srv_lease_41 : mcGet K_Srv_lease 41 = (41, false, .iconst 0, 1, mcX0) := rfl
theorem kf_Srv_lease_42 : mcGet K_Srv_lease 42 = (42, false, .ireturn, 1, mcX0) := rfl
theorem kf_Srv_lock_0 : mcGet K_Srv_lock 0 = (0, false, .iload_n 1, 1, mcX0) := rfl
theorem kf_Srv_lock_1 : mcGet K_Srv_lock 1 = (1, false, .invokestatic 30, 3, (0, 1, [394, 395, 52, 396, 0, 1], [M_Srv_isClient])) := rfl
theorem kf_Srv_lock_4 : mcGet K_Srv_lock 4 = (4, false, .ifCond .eq 21, 3, (25, 0, [], [])) := rfl
theorem kf_Srv_lock_7 : mcGet K_Srv_lock 7 = (7, false, .iload_n 2, 1, mcX0) := rfl
theorem kf_Srv_lock_8 : mcGet K_Srv_lock 8 = (8, false, .invokestatic 148, 3, (0, 1, [882, 883, 52, 884, 0, 1], [M_Srv_isNode])) := rfl
theorem kf_Srv_lock_11 : mcGet K_Srv_lock 11 = (11, false, .ifCond .eq 14, 3, (25, 0, [], [])) := rfl
theorem kf_Srv_lock_14 : mcGet K_Srv_lock 14 = (14, false, .iload_n 3, 1, mcX0) := rfl
theorem kf_Srv_lock_15 : mcGet K_Srv_lock 15 = (15, false, .invokestatic 170, 3, (0, 1, [901, 661, 52, 662, 0, 1], [M_Srv_isPlace])) := rfl
theorem kf_Srv_lock_18 : mcGet K_Srv_lock 18 = (18, false, .ifCond .eq 7, 3, (25, 0, [], [])) := rfl
theorem kf_Srv_lock_21 : mcGet K_Srv_lock 21 = (21, false, .iconst 1, 1, mcX0) := rfl
theorem kf_Srv_lock_22 : mcGet K_Srv_lock 22 = (22, false, .goto 4, 3, (26, 0, [], [])) := rfl
theorem kf_Srv_lock_25 : mcGet K_Srv_lock 25 = (25, false, .iconst 0, 1, mcX0) := rfl
theorem kf_Srv_lock_26 : mcGet K_Srv_lock 26 = (26, false, .invokestatic 34, 3, (4, 1, [397, 398, 52, 399, 0, 1], [M_Srv_demandLegal])) := rfl
theorem kf_Srv_lock_29 : mcGet K_Srv_lock 29 = (29, false, .aload_n 0, 1, mcX0) := rfl
theorem kf_Srv_lock_30 : mcGet K_Srv_lock 30 = (30, false, .getfield 25, 3, (9, 2, [362, 1], [])) := rfl
theorem kf_Srv_lock_33 : mcGet K_Srv_lock 33 = (33, false, .getfield 92, 3, (6, 3, [294, 2], [])) := rfl
theorem kf_Srv_lock_36 : mcGet K_Srv_lock 36 = (36, false, .ifCond .eq 22, 3, (58, 0, [], [])) := rfl
theorem kf_Srv_lock_39 : mcGet K_Srv_lock 39 = (39, false, .aload_n 0, 1, mcX0) := rfl
theorem kf_Srv_lock_40 : mcGet K_Srv_lock 40 = (40, false, .getfield 25, 3, (9, 2, [362, 1], [])) := rfl
theorem kf_Srv_lock_43 : mcGet K_Srv_lock 43 = (43, false, .getfield 132, 3, (6, 1, [291, 1], [])) := rfl
theorem kf_Srv_lock_46 : mcGet K_Srv_lock 46 = (46, false, .getfield 173, 3, (4, 1, [223, 1], [])) := rfl
theorem kf_Srv_lock_49 : mcGet K_Srv_lock 49 = (49, false, .iload_n 1, 1, mcX0) := rfl
theorem kf_Srv_lock_50 : mcGet K_Srv_lock 50 = (50, false, .iload_n 2, 1, mcX0) := rfl
theorem kf_Srv_lock_51 : mcGet K_Srv_lock 51 = (51, false, .iload_n 3, 1, mcX0) := rfl
theorem kf_Srv_lock_52 : mcGet K_Srv_lock 52 = (52, false, .invokevirtual 177, 3, (2, 4, [902, 701, 59, 703, 702, 7], [M_Locks_sortOf])) := rfl
theorem kf_Srv_lock_55 : mcGet K_Srv_lock 55 = (55, false, .goto 4, 3, (59, 0, [], [])) := rfl
theorem kf_Srv_lock_58 : mcGet K_Srv_lock 58 = (58, false, .iconst 0, 1, mcX0) := rfl
theorem kf_Srv_lock_59 : mcGet K_Srv_lock 59 = (59, false, .ireturn, 1, mcX0) := rfl
theorem kf_Srv_node_0 : mcGet K_Srv_node 0 = (0, false, .iload_n 1, 1, mcX0) := rfl
theorem kf_Srv_node_1 : mcGet K_Srv_node 1 = (1, false, .invokestatic 148, 3, (0, 1, [882, 883, 52, 884, 0, 1], [M_Srv_isNode])) := rfl
theorem kf_Srv_node_4 : mcGet K_Srv_node 4 = (4, false, .ifCond .eq 16, 3, (20, 0, [], [])) := rfl
theorem kf_Srv_node_7 : mcGet K_Srv_node 7 = (7, false, .iload_n 2, 1, mcX0) := rfl
theorem kf_Srv_node_8 : mcGet K_Srv_node 8 = (8, false, .iconst 0, 1, mcX0) := rfl
theorem kf_Srv_node_9 : mcGet K_Srv_node 9 = (9, false, .iconst 3, 1, mcX0) := rfl
theorem kf_Srv_node_10 : mcGet K_Srv_node 10 = (10, false, .invokestatic 48, 3, (0, 3, [481, 482, 52, 483, 0, 3], [M_Srv_isWithin])) := rfl
theorem kf_Srv_node_13 : mcGet K_Srv_node 13 = (13, false, .ifCond .eq 7, 3, (20, 0, [], [])) := rfl
theorem kf_Srv_node_16 : mcGet K_Srv_node 16 = (16, false, .iconst 1, 1, mcX0) := rfl
theorem kf_Srv_node_17 : mcGet K_Srv_node 17 = (17, false, .goto 4, 3, (21, 0, [], [])) := rfl
theorem kf_Srv_node_20 : mcGet K_Srv_node 20 = (20, false, .iconst 0, 1, mcX0) := rfl
theorem kf_Srv_node_21 : mcGet K_Srv_node 21 = (21, false, .invokestatic 34, 3, (4, 1, [397, 398, 52, 399, 0, 1], [M_Srv_demandLegal])) := rfl
theorem kf_Srv_node_24 : mcGet K_Srv_node 24 = (24, false, .aload_n 0, 1, mcX0) := rfl
theorem kf_Srv_node_25 : mcGet K_Srv_node 25 = (25, false, .getfield 25, 3, (9, 2, [362, 1], [])) := rfl
theorem kf_Srv_node_28 : mcGet K_Srv_node 28 = (28, false, .getfield 132, 3, (6, 1, [291, 1], [])) := rfl
theorem kf_Srv_node_31 : mcGet K_Srv_node 31 = (31, false, .getfield 136, 3, (4, 0, [219, 1], [])) := rfl
theorem kf_Srv_node_34 : mcGet K_Srv_node 34 = (34, false, .astore_n 3, 1, mcX0) := rfl
theorem kf_Srv_node_35 : mcGet K_Srv_node 35 = (35, false, .iload_n 2, 1, mcX0) := rfl
theorem kf_Srv_node_36 : mcGet K_Srv_node 36 = (36, false, .tableswitch 49 0 2 #[28, 35, 42], 28, (85, 0, [64, 71, 78], [])) := rfl
theorem kf_Srv_node_64 : mcGet K_Srv_node 64 = (64, false, .aload_n 3, 1, mcX0) := rfl
theorem kf_Srv_node_65 : mcGet K_Srv_node 65 = (65, false, .getfield 151, 3, (1, 0, [150, 1], [])) := rfl
theorem kf_Srv_node_68 : mcGet K_Srv_node 68 = (68, false, .iload_n 1, 1, mcX0) := rfl
theorem kf_Srv_node_69 : mcGet K_Srv_node 69 = (69, false, .iaload, 1, mcX0) := rfl
theorem kf_Srv_node_70 : mcGet K_Srv_node 70 = (70, false, .ireturn, 1, mcX0) := rfl
theorem kf_Srv_node_71 : mcGet K_Srv_node 71 = (71, false, .aload_n 3, 1, mcX0) := rfl
theorem kf_Srv_node_72 : mcGet K_Srv_node 72 = (72, false, .getfield 154, 3, (1, 1, [152, 1], [])) := rfl
theorem kf_Srv_node_75 : mcGet K_Srv_node 75 = (75, false, .iload_n 1, 1, mcX0) := rfl
theorem kf_Srv_node_76 : mcGet K_Srv_node 76 = (76, false, .iaload, 1, mcX0) := rfl
theorem kf_Srv_node_77 : mcGet K_Srv_node 77 = (77, false, .ireturn, 1, mcX0) := rfl
theorem kf_Srv_node_78 : mcGet K_Srv_node 78 = (78, false, .aload_n 3, 1, mcX0) := rfl
theorem kf_Srv_node_79 : mcGet K_Srv_node 79 = (79, false, .getfield 157, 3, (1, 2, [155, 1], [])) := rfl
theorem kf_Srv_node_82 : mcGet K_Srv_node 82 = (82, false, .iload_n 1, 1, mcX0) := rfl
theorem kf_Srv_node_83 : mcGet K_Srv_node 83 = (83, false, .iaload, 1, mcX0) := rfl
theorem kf_Srv_node_84 : mcGet K_Srv_node 84 = (84, false, .ireturn, 1, mcX0) := rfl
theorem kf_Srv_node_85 : mcGet K_Srv_node 85 = (85, false, .aload_n 3, 1, mcX0) := rfl
theorem kf_Srv_node_86 : mcGet K_Srv_node 86 = (86, false, .getfield 160, 3, (1, 3, [157, 1], [])) := rfl
theorem kf_Srv_node_89 : mcGet K_Srv_node 89 = (89, false, .iload_n 1, 1, mcX0) := rfl
theorem kf_Srv_node_90 : mcGet K_Srv_node 90 = (90, false, .iaload, 1, mcX0) := rfl
theorem kf_Srv_node_91 : mcGet K_Srv_node 91 = (91, false, .ireturn, 1, mcX0) := rfl
theorem kf_Srv_nodes_0 : mcGet K_Srv_nodes 0 = (0, false, .aload_n 0, 1, mcX0) := rfl
theorem kf_Srv_nodes_1 : mcGet K_Srv_nodes 1 = (1, false, .getfield 25, 3, (9, 2, [362, 1], [])) := rfl
theorem kf_Srv_nodes_4 : mcGet K_Srv_nodes 4 = (4, false, .getfield 132, 3, (6, 1, [291, 1], [])) := rfl
theorem kf_Srv_nodes_7 : mcGet K_Srv_nodes 7 = (7, false, .getfield 136, 3, (4, 0, [219, 1], [])) := rfl
theorem kf_Srv_nodes_10 : mcGet K_Srv_nodes 10 = (10, false, .invokevirtual 142, 3, (1, 1, [378, 379, 57, 381, 380, 3], [M_Tree_count])) := rfl
theorem kf_Srv_nodes_13 : mcGet K_Srv_nodes 13 = (13, false, .ireturn, 1, mcX0) := rfl
theorem kf_Srv_runs_0 : mcGet K_Srv_runs 0 = (0, false, .aload_n 0, 1, mcX0) := rfl
theorem kf_Srv_runs_1 : mcGet K_Srv_runs 1 = (1, false, .getfield 25, 3, (9, 2, [362, 1], [])) := rfl
theorem kf_Srv_runs_4 : mcGet K_Srv_runs 4 = (4, false, .getfield 92, 3, (6, 3, [294, 2], [])) := rfl
theorem kf_Srv_runs_7 : mcGet K_Srv_runs 7 = (7, false, .ireturn, 1, (1, 0, [], [])) := rfl
theorem kf_Srv_send_0 : mcGet K_Srv_send 0 = (0, false, .iload_n 1, 1, mcX0) := rfl
theorem kf_Srv_send_1 : mcGet K_Srv_send 1 = (1, false, .invokestatic 30, 3, (0, 1, [394, 395, 52, 396, 0, 1], [M_Srv_isClient])) := rfl
theorem kf_Srv_send_4 : mcGet K_Srv_send 4 = (4, false, .ifCond .eq 14, 3, (18, 0, [], [])) := rfl
theorem kf_Srv_send_7 : mcGet K_Srv_send 7 = (7, false, .iload_n 2, 1, mcX0) := rfl
theorem kf_Srv_send_8 : mcGet K_Srv_send 8 = (8, false, .invokestatic 45, 3, (0, 1, [478, 479, 52, 480, 0, 1], [M_Srv_isSlot])) := rfl
theorem kf_Srv_send_11 : mcGet K_Srv_send 11 = (11, false, .ifCond .eq 7, 3, (18, 0, [], [])) := rfl
theorem kf_Srv_send_14 : mcGet K_Srv_send 14 = (14, false, .iconst 1, 1, mcX0) := rfl
theorem kf_Srv_send_15 : mcGet K_Srv_send 15 = (15, false, .goto 4, 3, (19, 0, [], [])) := rfl
theorem kf_Srv_send_18 : mcGet K_Srv_send 18 = (18, false, .iconst 0, 1, mcX0) := rfl
theorem kf_Srv_send_19 : mcGet K_Srv_send 19 = (19, false, .invokestatic 34, 3, (4, 1, [397, 398, 52, 399, 0, 1], [M_Srv_demandLegal])) := rfl
theorem kf_Srv_send_22 : mcGet K_Srv_send 22 = (22, false, .aload_n 0, 1, mcX0) := rfl
theorem kf_Srv_send_23 : mcGet K_Srv_send 23 = (23, false, .getfield 11, 3, (9, 0, [360, 1], [])) := rfl
theorem kf_Srv_send_26 : mcGet K_Srv_send 26 = (26, false, .iload_n 1, 1, mcX0) := rfl
theorem kf_Srv_send_27 : mcGet K_Srv_send 27 = (27, false, .aaload, 1, mcX0) := rfl
theorem kf_Srv_send_28 : mcGet K_Srv_send 28 = (28, false, .getfield 52, 3, (8, 0, [352, 1], [])) := rfl
theorem kf_Srv_send_31 : mcGet K_Srv_send 31 = (31, false, .iload_n 2, 1, mcX0) := rfl
theorem kf_Srv_send_32 : mcGet K_Srv_send 32 = (32, false, .aaload, 1, mcX0) := rfl
theorem kf_Srv_send_33 : mcGet K_Srv_send 33 = (33, false, .astore_n 3, 1, mcX0) := rfl
theorem kf_Srv_send_34 : mcGet K_Srv_send 34 = (34, false, .aload_n 3, 1, mcX0) := rfl
theorem kf_Srv_send_35 : mcGet K_Srv_send 35 = (35, false, .getfield 72, 3, (7, 2, [334, 0], [])) := rfl
theorem kf_Srv_send_38 : mcGet K_Srv_send 38 = (38, false, .iconst 1, 1, mcX0) := rfl
theorem kf_Srv_send_39 : mcGet K_Srv_send 39 = (39, false, .if_icmp .ne 20, 3, (59, 0, [], [])) := rfl
theorem kf_Srv_send_42 : mcGet K_Srv_send 42 = (42, false, .aload_n 0, 1, mcX0) := rfl
theorem kf_Srv_send_43 : mcGet K_Srv_send 43 = (43, false, .getfield 18, 3, (9, 1, [361, 1], [])) := rfl
theorem kf_Srv_send_46 : mcGet K_Srv_send 46 = (46, false, .getfield 75, 3, (0, 6, [104, 0], [])) := rfl
theorem kf_Srv_send_49 : mcGet K_Srv_send 49 = (49, false, .sipush 300, 3, mcX0) := rfl
theorem kf_Srv_send_52 : mcGet K_Srv_send 52 = (52, false, .if_icmp .ge 7, 3, (59, 0, [], [])) := rfl
theorem kf_Srv_send_55 : mcGet K_Srv_send 55 = (55, false, .iconst 1, 1, mcX0) := rfl
theorem kf_Srv_send_56 : mcGet K_Srv_send 56 = (56, false, .goto 4, 3, (60, 0, [], [])) := rfl
theorem kf_Srv_send_59 : mcGet K_Srv_send 59 = (59, false, .iconst 0, 1, mcX0) := rfl
theorem kf_Srv_send_60 : mcGet K_Srv_send 60 = (60, false, .invokestatic 62, 3, (5, 1, [488, 489, 52, 490, 0, 1], [M_Srv_demandState])) := rfl
theorem kf_Srv_send_63 : mcGet K_Srv_send 63 = (63, false, .aload_n 3, 1, mcX0) := rfl
theorem kf_Srv_send_64 : mcGet K_Srv_send 64 = (64, false, .invokevirtual 78, 3, (7, 1, [517, 518, 62, 520, 519, 1], [M_Desk_open])) := rfl
theorem kf_Srv_send_67 : mcGet K_Srv_send 67 = (67, false, .aload_n 0, 1, mcX0) := rfl
theorem kf_Srv_send_68 : mcGet K_Srv_send 68 = (68, false, .getfield 18, 3, (9, 1, [361, 1], [])) := rfl
theorem kf_Srv_send_71 : mcGet K_Srv_send 71 = (71, false, .iload_n 1, 1, mcX0) := rfl
theorem kf_Srv_send_72 : mcGet K_Srv_send 72 = (72, false, .iload_n 2, 1, mcX0) := rfl
theorem kf_Srv_send_73 : mcGet K_Srv_send 73 = (73, false, .aload_n 0, 1, mcX0) := rfl
theorem kf_Srv_send_74 : mcGet K_Srv_send 74 = (74, false, .getfield 11, 3, (9, 0, [360, 1], [])) := rfl
theorem kf_Srv_send_77 : mcGet K_Srv_send 77 = (77, false, .iload_n 1, 1, mcX0) := rfl
theorem kf_Srv_send_78 : mcGet K_Srv_send 78 = (78, false, .aaload, 1, mcX0) := rfl
theorem kf_Srv_send_79 : mcGet K_Srv_send 79 = (79, false, .getfield 41, 3, (8, 1, [354, 0], [])) := rfl
theorem kf_Srv_send_82 : mcGet K_Srv_send 82 = (82, false, .aload_n 3, 1, mcX0) := rfl
theorem kf_Srv_send_83 : mcGet K_Srv_send 83 = (83, false, .invokevirtual 81, 3, (0, 5, [521, 522, 53, 524, 523, 6], [M_Post_put])) := rfl
theorem kf_Srv_send_86 : mcGet K_Srv_send 86 = (86, false, .ireturn, 1, mcX0) := rfl
theorem kf_Srv_slotOf_0 : mcGet K_Srv_slotOf 0 = (0, false, .iload_n 0, 1, mcX0) := rfl
theorem kf_Srv_slotOf_1 : mcGet K_Srv_slotOf 1 = (1, false, .iconst 3, 1, mcX0) := rfl
theorem kf_Srv_slotOf_2 : mcGet K_Srv_slotOf 2 = (2, false, .imul, 1, mcX0) := rfl
theorem kf_Srv_slotOf_3 : mcGet K_Srv_slotOf 3 = (3, false, .iload_n 1, 1, mcX0) := rfl
theorem kf_Srv_slotOf_4 : mcGet K_Srv_slotOf 4 = (4, false, .iadd, 1, mcX0) := rfl
theorem kf_Srv_slotOf_5 : mcGet K_Srv_slotOf 5 = (5, false, .ireturn, 1, mcX0) := rfl
theorem kf_Srv_start_0 : mcGet K_Srv_start 0 = (0, false, .iload_n 1, 1, mcX0) := rfl
theorem kf_Srv_start_1 : mcGet K_Srv_start 1 = (1, false, .invokestatic 30, 3, (0, 1, [394, 395, 52, 396, 0, 1], [M_Srv_isClient])) := rfl
theorem kf_Srv_start_4 : mcGet K_Srv_start 4 = (4, false, .invokestatic 34, 3, (4, 1, [397, 398, 52, 399, 0, 1], [M_Srv_demandLegal])) := rfl
theorem kf_Srv_start_7 : mcGet K_Srv_start 7 = (7, false, .aload_n 0, 1, mcX0) := rfl
theorem kf_Srv_start_8 : mcGet K_Srv_start 8 = (8, false, .getfield 11, 3, (9, 0, [360, 1], [])) := rfl
theorem kf_Srv_start_11 : mcGet K_Srv_start 11 = (11, false, .iload_n 1, 1, mcX0) := rfl
theorem kf_Srv_start_12 : mcGet K_Srv_start 12 = (12, false, .aaload, 1, mcX0) := rfl
theorem kf_Srv_start_13 : mcGet K_Srv_start 13 = (13, false, .invokevirtual 38, 3, (8, 1, [462, 463, 61, 465, 464, 2], [M_Client_beginLife])) := rfl
theorem kf_Srv_start_16 : mcGet K_Srv_start 16 = (16, false, .aload_n 0, 1, mcX0) := rfl
theorem kf_Srv_start_17 : mcGet K_Srv_start 17 = (17, false, .getfield 11, 3, (9, 0, [360, 1], [])) := rfl
theorem kf_Srv_start_20 : mcGet K_Srv_start 20 = (20, false, .iload_n 1, 1, mcX0) := rfl
theorem kf_Srv_start_21 : mcGet K_Srv_start 21 = (21, false, .aaload, 1, mcX0) := rfl
theorem kf_Srv_start_22 : mcGet K_Srv_start 22 = (22, false, .getfield 41, 3, (8, 1, [354, 0], [])) := rfl
theorem kf_Srv_start_25 : mcGet K_Srv_start 25 = (25, false, .ireturn, 1, mcX0) := rfl
theorem kf_Srv_step_0 : mcGet K_Srv_step 0 = (0, false, .iload_n 1, 1, mcX0) := rfl
theorem kf_Srv_step_1 : mcGet K_Srv_step 1 = (1, false, .invokestatic 30, 3, (0, 1, [394, 395, 52, 396, 0, 1], [M_Srv_isClient])) := rfl
theorem kf_Srv_step_4 : mcGet K_Srv_step 4 = (4, false, .ifCond .eq 24, 3, (28, 0, [], [])) := rfl
theorem kf_Srv_step_7 : mcGet K_Srv_step 7 = (7, false, .iload_n 2, 1, mcX0) := rfl
theorem kf_Srv_step_8 : mcGet K_Srv_step 8 = (8, false, .invokestatic 45, 3, (0, 1, [478, 479, 52, 480, 0, 1], [M_Srv_isSlot])) := rfl
theorem kf_Srv_step_11 : mcGet K_Srv_step 11 = (11, false, .ifCond .eq 17, 3, (28, 0, [], [])) := rfl
theorem kf_Srv_step_14 : mcGet K_Srv_step 14 = (14, false, .iload_n 3, 1, mcX0) := rfl
theorem kf_Srv_step_15 : mcGet K_Srv_step 15 = (15, false, .iconst 0, 1, mcX0) := rfl
theorem kf_Srv_step_16 : mcGet K_Srv_step 16 = (16, false, .bipush 13, 2, mcX0) := rfl
theorem kf_Srv_step_18 : mcGet K_Srv_step 18 = (18, false, .invokestatic 48, 3, (0, 3, [481, 482, 52, 483, 0, 3], [M_Srv_isWithin])) := rfl
theorem kf_Srv_step_21 : mcGet K_Srv_step 21 = (21, false, .ifCond .eq 7, 3, (28, 0, [], [])) := rfl
theorem kf_Srv_step_24 : mcGet K_Srv_step 24 = (24, false, .iconst 1, 1, mcX0) := rfl
theorem kf_Srv_step_25 : mcGet K_Srv_step 25 = (25, false, .goto 4, 3, (29, 0, [], [])) := rfl
theorem kf_Srv_step_28 : mcGet K_Srv_step 28 = (28, false, .iconst 0, 1, mcX0) := rfl
theorem kf_Srv_step_29 : mcGet K_Srv_step 29 = (29, false, .invokestatic 34, 3, (4, 1, [397, 398, 52, 399, 0, 1], [M_Srv_demandLegal])) := rfl
theorem kf_Srv_step_32 : mcGet K_Srv_step 32 = (32, false, .aload_n 0, 1, mcX0) := rfl
theorem kf_Srv_step_33 : mcGet K_Srv_step 33 = (33, false, .getfield 11, 3, (9, 0, [360, 1], [])) := rfl
theorem kf_Srv_step_36 : mcGet K_Srv_step 36 = (36, false, .iload_n 1, 1, mcX0) := rfl
theorem kf_Srv_step_37 : mcGet K_Srv_step 37 = (37, false, .aaload, 1, mcX0) := rfl
theorem kf_Srv_step_38 : mcGet K_Srv_step 38 = (38, false, .getfield 52, 3, (8, 0, [352, 1], [])) := rfl
theorem kf_Srv_step_41 : mcGet K_Srv_step 41 = (41, false, .iload_n 2, 1, mcX0) := rfl
theorem kf_Srv_step_42 : mcGet K_Srv_step 42 = (42, false, .aaload, 1, mcX0) := rfl
theorem kf_Srv_step_43 : mcGet K_Srv_step 43 = (43, false, .astore 8, 2, mcX0) := rfl
theorem kf_Srv_step_45 : mcGet K_Srv_step 45 = (45, false, .aload_n 0, 1, mcX0) := rfl
theorem kf_Srv_step_46 : mcGet K_Srv_step 46 = (46, false, .getfield 11, 3, (9, 0, [360, 1], [])) := rfl
theorem kf_Srv_step_49 : mcGet K_Srv_step 49 = (49, false, .iload_n 1, 1, mcX0) := rfl
theorem kf_Srv_step_50 : mcGet K_Srv_step 50 = (50, false, .aaload, 1, mcX0) := rfl
theorem kf_Srv_step_51 : mcGet K_Srv_step 51 = (51, false, .getfield 41, 3, (8, 1, [354, 0], [])) := rfl
theorem kf_Srv_step_54 : mcGet K_Srv_step 54 = (54, false, .ifCond .le 15, 3, (69, 0, [], [])) := rfl
theorem kf_Srv_step_57 : mcGet K_Srv_step 57 = (57, false, .aload 8, 2, mcX0) := rfl
theorem kf_Srv_step_59 : mcGet K_Srv_step 59 = (59, false, .invokevirtual 56, 3, (7, 1, [484, 485, 62, 487, 486, 1], [M_Desk_takesStep])) := rfl
theorem kf_Srv_step_62 : mcGet K_Srv_step 62 = (62, false, .ifCond .eq 7, 3, (69, 0, [], [])) := rfl
theorem kf_Srv_step_65 : mcGet K_Srv_step 65 = (65, false, .iconst 1, 1, mcX0) := rfl
theorem kf_Srv_step_66 : mcGet K_Srv_step 66 = (66, false, .goto 4, 3, (70, 0, [], [])) := rfl
theorem kf_Srv_step_69 : mcGet K_Srv_step 69 = (69, false, .iconst 0, 1, mcX0) := rfl
theorem kf_Srv_step_70 : mcGet K_Srv_step 70 = (70, false, .invokestatic 62, 3, (5, 1, [488, 489, 52, 490, 0, 1], [M_Srv_demandState])) := rfl
theorem kf_Srv_step_73 : mcGet K_Srv_step 73 = (73, false, .aload 8, 2, mcX0) := rfl
theorem kf_Srv_step_75 : mcGet K_Srv_step 75 = (75, false, .iload_n 3, 1, mcX0) := rfl
theorem kf_Srv_step_76 : mcGet K_Srv_step 76 = (76, false, .iload 4, 2, mcX0) := rfl
theorem kf_Srv_step_78 : mcGet K_Srv_step 78 = (78, false, .iload 5, 2, mcX0) := rfl
theorem kf_Srv_step_80 : mcGet K_Srv_step 80 = (80, false, .iload 6, 2, mcX0) := rfl
theorem kf_Srv_step_82 : mcGet K_Srv_step 82 = (82, false, .iload 7, 2, mcX0) := rfl
theorem kf_Srv_step_84 : mcGet K_Srv_step 84 = (84, false, .invokevirtual 65, 3, (7, 6, [506, 507, 62, 509, 508, 7], [M_Desk_addStep])) := rfl
theorem kf_Srv_step_87 : mcGet K_Srv_step 87 = (87, false, .aload 8, 2, mcX0) := rfl
theorem kf_Srv_step_89 : mcGet K_Srv_step 89 = (89, false, .getfield 69, 3, (7, 3, [337, 0], [])) := rfl
theorem kf_Srv_step_92 : mcGet K_Srv_step 92 = (92, false, .ireturn, 1, mcX0) := rfl
theorem kf_Srv_stop_0 : mcGet K_Srv_stop 0 = (0, false, .iload_n 1, 1, mcX0) := rfl
theorem kf_Srv_stop_1 : mcGet K_Srv_stop 1 = (1, false, .iconst (-1), 1, mcX0) := rfl
theorem kf_Srv_stop_2 : mcGet K_Srv_stop 2 = (2, false, .if_icmp .lt 7, 3, (9, 0, [], [])) := rfl
theorem kf_Srv_stop_5 : mcGet K_Srv_stop 5 = (5, false, .iconst 1, 1, mcX0) := rfl
theorem kf_Srv_stop_6 : mcGet K_Srv_stop 6 = (6, false, .goto 4, 3, (10, 0, [], [])) := rfl
theorem kf_Srv_stop_9 : mcGet K_Srv_stop 9 = (9, false, .iconst 0, 1, mcX0) := rfl
theorem kf_Srv_stop_10 : mcGet K_Srv_stop 10 = (10, false, .invokestatic 34, 3, (4, 1, [397, 398, 52, 399, 0, 1], [M_Srv_demandLegal])) := rfl
theorem kf_Srv_stop_13 : mcGet K_Srv_stop 13 = (13, false, .aload_n 0, 1, mcX0) := rfl
theorem kf_Srv_stop_14 : mcGet K_Srv_stop 14 = (14, false, .getfield 25, 3, (9, 2, [362, 1], [])) := rfl
theorem kf_Srv_stop_17 : mcGet K_Srv_stop 17 = (17, false, .getfield 92, 3, (6, 3, [294, 2], [])) := rfl
theorem kf_Srv_stop_20 : mcGet K_Srv_stop 20 = (20, false, .ifCond .ne 4, 3, (24, 0, [], [])) := rfl
theorem kf_Srv_stop_23 : mcGet K_Srv_stop 23 = (23, false, .return_, 1, mcX0) := rfl
theorem kf_Srv_stop_24 : mcGet K_Srv_stop 24 = (24, false, .iload_n 1, 1, mcX0) := rfl
theorem kf_Srv_stop_25 : mcGet K_Srv_stop 25 = (25, false, .iconst (-1), 1, mcX0) := rfl
theorem kf_Srv_stop_26 : mcGet K_Srv_stop 26 = (26, false, .if_icmp .ne 13, 3, (39, 0, [], [])) := rfl
theorem kf_Srv_stop_29 : mcGet K_Srv_stop 29 = (29, false, .aload_n 0, 1, mcX0) := rfl
theorem kf_Srv_stop_30 : mcGet K_Srv_stop 30 = (30, false, .getfield 25, 3, (9, 2, [362, 1], [])) := rfl
theorem kf_Srv_stop_33 : mcGet K_Srv_stop 33 = (33, false, .invokevirtual 116, 3, (6, 1, [836, 794, 54, 796, 795, 1], [M_Server_halt])) := rfl
theorem kf_Srv_stop_36 : mcGet K_Srv_stop 36 = (36, false, .goto 11, 3, (47, 0, [], [])) := rfl
theorem kf_Srv_stop_39 : mcGet K_Srv_stop 39 = (39, false, .aload_n 0, 1, mcX0) := rfl
theorem kf_Srv_stop_40 : mcGet K_Srv_stop 40 = (40, false, .getfield 25, 3, (9, 2, [362, 1], [])) := rfl
theorem kf_Srv_stop_43 : mcGet K_Srv_stop 43 = (43, false, .iload_n 1, 1, mcX0) := rfl
theorem kf_Srv_stop_44 : mcGet K_Srv_stop 44 = (44, false, .putfield 119, 3, (6, 4, [296, 0], [])) := rfl
theorem kf_Srv_stop_47 : mcGet K_Srv_stop 47 = (47, false, .return_, 1, mcX0) := rfl
theorem kf_Srv_time_0 : mcGet K_Srv_time 0 = (0, false, .iload_n 1, 1, mcX0) := rfl
theorem kf_Srv_time_1 : mcGet K_Srv_time 1 = (1, false, .iconst 0, 1, mcX0) := rfl
theorem kf_Srv_time_2 : mcGet K_Srv_time 2 = (2, false, .ldc 125, 2, (0, 0, [859], [])) := rfl
theorem kf_Srv_time_4 : mcGet K_Srv_time 4 = (4, false, .invokestatic 48, 3, (0, 3, [481, 482, 52, 483, 0, 3], [M_Srv_isWithin])) := rfl
theorem kf_Srv_time_7 : mcGet K_Srv_time 7 = (7, false, .invokestatic 34, 3, (4, 1, [397, 398, 52, 399, 0, 1], [M_Srv_demandLegal])) := rfl
theorem kf_Srv_time_10 : mcGet K_Srv_time 10 = (10, false, .aload_n 0, 1, mcX0) := rfl
theorem kf_Srv_time_11 : mcGet K_Srv_time 11 = (11, false, .getfield 25, 3, (9, 2, [362, 1], [])) := rfl
theorem kf_Srv_time_14 : mcGet K_Srv_time 14 = (14, false, .iload_n 1, 1, mcX0) := rfl
theorem kf_Srv_time_15 : mcGet K_Srv_time 15 = (15, false, .invokevirtual 126, 3, (6, 2, [860, 861, 54, 863, 862, 2], [M_Server_goOn])) := rfl
theorem kf_Srv_time_18 : mcGet K_Srv_time 18 = (18, false, .aload_n 0, 1, mcX0) := rfl
theorem kf_Srv_time_19 : mcGet K_Srv_time 19 = (19, false, .getfield 25, 3, (9, 2, [362, 1], [])) := rfl
theorem kf_Srv_time_22 : mcGet K_Srv_time 22 = (22, false, .getfield 129, 3, (6, 5, [298, 0], [])) := rfl
theorem kf_Srv_time_25 : mcGet K_Srv_time 25 = (25, false, .ireturn, 1, mcX0) := rfl
theorem kf_Srv_value_0 : mcGet K_Srv_value 0 = (0, false, .iload_n 1, 1, mcX0) := rfl
theorem kf_Srv_value_1 : mcGet K_Srv_value 1 = (1, false, .invokestatic 30, 3, (0, 1, [394, 395, 52, 396, 0, 1], [M_Srv_isClient])) := rfl
theorem kf_Srv_value_4 : mcGet K_Srv_value 4 = (4, false, .ifCond .eq 14, 3, (18, 0, [], [])) := rfl
theorem kf_Srv_value_7 : mcGet K_Srv_value 7 = (7, false, .iload_n 2, 1, mcX0) := rfl
theorem kf_Srv_value_8 : mcGet K_Srv_value 8 = (8, false, .invokestatic 45, 3, (0, 1, [478, 479, 52, 480, 0, 1], [M_Srv_isSlot])) := rfl
theorem kf_Srv_value_11 : mcGet K_Srv_value 11 = (11, false, .ifCond .eq 7, 3, (18, 0, [], [])) := rfl
theorem kf_Srv_value_14 : mcGet K_Srv_value 14 = (14, false, .iconst 1, 1, mcX0) := rfl
theorem kf_Srv_value_15 : mcGet K_Srv_value 15 = (15, false, .goto 4, 3, (19, 0, [], [])) := rfl
theorem kf_Srv_value_18 : mcGet K_Srv_value 18 = (18, false, .iconst 0, 1, mcX0) := rfl
theorem kf_Srv_value_19 : mcGet K_Srv_value 19 = (19, false, .invokestatic 34, 3, (4, 1, [397, 398, 52, 399, 0, 1], [M_Srv_demandLegal])) := rfl
theorem kf_Srv_value_22 : mcGet K_Srv_value 22 = (22, false, .aload_n 0, 1, mcX0) := rfl
theorem kf_Srv_value_23 : mcGet K_Srv_value 23 = (23, false, .getfield 11, 3, (9, 0, [360, 1], [])) := rfl
theorem kf_Srv_value_26 : mcGet K_Srv_value 26 = (26, false, .iload_n 1, 1, mcX0) := rfl
theorem kf_Srv_value_27 : mcGet K_Srv_value 27 = (27, false, .aaload, 1, mcX0) := rfl
theorem kf_Srv_value_28 : mcGet K_Srv_value 28 = (28, false, .getfield 52, 3, (8, 0, [352, 1], [])) := rfl
theorem kf_Srv_value_31 : mcGet K_Srv_value 31 = (31, false, .iload_n 2, 1, mcX0) := rfl
theorem kf_Srv_value_32 : mcGet K_Srv_value 32 = (32, false, .aaload, 1, mcX0) := rfl
theorem kf_Srv_value_33 : mcGet K_Srv_value 33 = (33, false, .astore 4, 2, mcX0) := rfl
theorem kf_Srv_value_35 : mcGet K_Srv_value 35 = (35, false, .aload 4, 2, mcX0) := rfl
theorem kf_Srv_value_37 : mcGet K_Srv_value 37 = (37, false, .iload_n 3, 1, mcX0) := rfl
theorem kf_Srv_value_38 : mcGet K_Srv_value 38 = (38, false, .invokevirtual 100, 3, (7, 2, [818, 819, 62, 821, 820, 2], [M_Desk_hasAnswerTo])) := rfl
theorem kf_Srv_value_41 : mcGet K_Srv_value 41 = (41, false, .ifCond .eq 16, 3, (57, 0, [], [])) := rfl
theorem kf_Srv_value_44 : mcGet K_Srv_value 44 = (44, false, .aload 4, 2, mcX0) := rfl
theorem kf_Srv_value_46 : mcGet K_Srv_value 46 = (46, false, .getfield 103, 3, (7, 1, [332, 1], [])) := rfl
theorem kf_Srv_value_49 : mcGet K_Srv_value 49 = (49, false, .getfield 113, 3, (3, 1, [206, 1], [])) := rfl
theorem kf_Srv_value_52 : mcGet K_Srv_value 52 = (52, false, .iload_n 3, 1, mcX0) := rfl
theorem kf_Srv_value_53 : mcGet K_Srv_value 53 = (53, false, .iaload, 1, mcX0) := rfl
theorem kf_Srv_value_54 : mcGet K_Srv_value 54 = (54, false, .goto 4, 3, (58, 0, [], [])) := rfl
theorem kf_Srv_value_57 : mcGet K_Srv_value 57 = (57, false, .iconst (-1), 1, mcX0) := rfl
theorem kf_Srv_value_58 : mcGet K_Srv_value 58 = (58, false, .ireturn, 1, mcX0) := rfl
theorem kf_Srv_wrong_0 : mcGet K_Srv_wrong 0 = (0, false, .iconst 0, 1, mcX0) := rfl
theorem kf_Srv_wrong_1 : mcGet K_Srv_wrong 1 = (1, false, .ireturn, 1, mcX0) := rfl
theorem kf_Answer_init_0 : mcGet K_Answer_init 0 = (0, false, .aload_n 0, 1, mcX0) := rfl
theorem kf_Answer_init_1 : mcGet K_Answer_init 1 = (1, false, .invokespecial 3, 3, (0, 0, [202, 77, 78, 0], [])) := rfl
theorem kf_Answer_init_4 : mcGet K_Answer_init 4 = (4, false, .aload_n 0, 1, mcX0) := rfl
theorem kf_Answer_init_5 : mcGet K_Answer_init 5 = (5, false, .iconst 4, 1, mcX0) := rfl
theorem kf_Answer_init_6 : mcGet K_Answer_init 6 = (6, false, .newarray .int, 2, (0, 0, [120], [])) := rfl
theorem kf_Answer_init_8 : mcGet K_Answer_init 8 = (8, false, .putfield 9, 3, (3, 0, [203, 1], [])) := rfl
theorem kf_Answer_init_11 : mcGet K_Answer_init 11 = (11, false, .aload_n 0, 1, mcX0) := rfl
theorem kf_Answer_init_12 : mcGet K_Answer_init 12 = (12, false, .iconst 4, 1, mcX0) := rfl
theorem kf_Answer_init_13 : mcGet K_Answer_init 13 = (13, false, .newarray .int, 2, (0, 0, [120], [])) := rfl
theorem kf_Answer_init_15 : mcGet K_Answer_init 15 = (15, false, .putfield 15, 3, (3, 1, [205, 1], [])) := rfl
theorem kf_Answer_init_18 : mcGet K_Answer_init 18 = (18, false, .return_, 1, mcX0) := rfl
theorem kf_Answer_append_0 : mcGet K_Answer_append 0 = (0, false, .aload_n 0, 1, mcX0) := rfl
theorem kf_Answer_append_1 : mcGet K_Answer_append 1 = (1, false, .getfield 24, 3, (3, 2, [207, 0], [])) := rfl
theorem kf_Answer_append_4 : mcGet K_Answer_append 4 = (4, false, .iconst 4, 1, mcX0) := rfl
theorem kf_Answer_append_5 : mcGet K_Answer_append 5 = (5, false, .if_icmp .ge 33, 3, (38, 0, [], [])) := rfl
theorem kf_Answer_append_8 : mcGet K_Answer_append 8 = (8, false, .aload_n 0, 1, mcX0) := rfl
theorem kf_Answer_append_9 : mcGet K_Answer_append 9 = (9, false, .getfield 9, 3, (3, 0, [203, 1], [])) := rfl
theorem kf_Answer_append_12 : mcGet K_Answer_append 12 = (12, false, .aload_n 0, 1, mcX0) := rfl
theorem kf_Answer_append_13 : mcGet K_Answer_append 13 = (13, false, .getfield 24, 3, (3, 2, [207, 0], [])) := rfl
theorem kf_Answer_append_16 : mcGet K_Answer_append 16 = (16, false, .iload_n 1, 1, mcX0) := rfl
theorem kf_Answer_append_17 : mcGet K_Answer_append 17 = (17, false, .iastore, 1, mcX0) := rfl
theorem kf_Answer_append_18 : mcGet K_Answer_append 18 = (18, false, .aload_n 0, 1, mcX0) := rfl
theorem kf_Answer_append_19 : mcGet K_Answer_append 19 = (19, false, .getfield 15, 3, (3, 1, [205, 1], [])) := rfl
theorem kf_Answer_append_22 : mcGet K_Answer_append 22 = (22, false, .aload_n 0, 1, mcX0) := rfl
theorem kf_Answer_append_23 : mcGet K_Answer_append 23 = (23, false, .getfield 24, 3, (3, 2, [207, 0], [])) := rfl
theorem kf_Answer_append_26 : mcGet K_Answer_append 26 = (26, false, .iload_n 2, 1, mcX0) := rfl
theorem kf_Answer_append_27 : mcGet K_Answer_append 27 = (27, false, .iastore, 1, mcX0) := rfl
theorem kf_Answer_append_28 : mcGet K_Answer_append 28 = (28, false, .aload_n 0, 1, mcX0) := rfl
theorem kf_Answer_append_29 : mcGet K_Answer_append 29 = (29, false, .dup, 1, mcX0) := rfl
theorem kf_Answer_append_30 : mcGet K_Answer_append 30 = (30, false, .getfield 24, 3, (3, 2, [207, 0], [])) := rfl
theorem kf_Answer_append_33 : mcGet K_Answer_append 33 = (33, false, .iconst 1, 1, mcX0) := rfl
theorem kf_Answer_append_34 : mcGet K_Answer_append 34 = (34, false, .iadd, 1, mcX0) := rfl
theorem kf_Answer_append_35 : mcGet K_Answer_append 35 = (35, false, .putfield 24, 3, (3, 2, [207, 0], [])) := rfl
theorem kf_Answer_append_38 : mcGet K_Answer_append 38 = (38, false, .return_, 1, mcX0) := rfl
theorem kf_Answer_copyFrom_0 : mcGet K_Answer_copyFrom 0 = (0, false, .aload_n 1, 1, mcX0) := rfl
theorem kf_Answer_copyFrom_1 : mcGet K_Answer_copyFrom 1 = (1, false, .getfield 9, 3, (3, 0, [203, 1], [])) := rfl
theorem kf_Answer_copyFrom_4 : mcGet K_Answer_copyFrom 4 = (4, false, .iconst 0, 1, mcX0) := rfl
theorem kf_Answer_copyFrom_5 : mcGet K_Answer_copyFrom 5 = (5, false, .aload_n 0, 1, mcX0) := rfl
theorem kf_Answer_copyFrom_6 : mcGet K_Answer_copyFrom 6 = (6, false, .getfield 9, 3, (3, 0, [203, 1], [])) := rfl
theorem kf_Answer_copyFrom_9 : mcGet K_Answer_copyFrom 9 = (9, false, .iconst 0, 1, mcX0) := rfl
theorem kf_Answer_copyFrom_10 : mcGet K_Answer_copyFrom 10 = (10, false, .iconst 4, 1, mcX0) := rfl
theorem kf_Answer_copyFrom_11 : mcGet K_Answer_copyFrom 11 = (11, false, .invokestatic 18, 3, (0, 0, [792, 530, 69, 531], [])) := rfl
theorem kf_Answer_copyFrom_14 : mcGet K_Answer_copyFrom 14 = (14, false, .aload_n 1, 1, mcX0) := rfl
theorem kf_Answer_copyFrom_15 : mcGet K_Answer_copyFrom 15 = (15, false, .getfield 15, 3, (3, 1, [205, 1], [])) := rfl
theorem kf_Answer_copyFrom_18 : mcGet K_Answer_copyFrom 18 = (18, false, .iconst 0, 1, mcX0) := rfl
theorem kf_Answer_copyFrom_19 : mcGet K_Answer_copyFrom 19 = (19, false, .aload_n 0, 1, mcX0) := rfl
theorem kf_Answer_copyFrom_20 : mcGet K_Answer_copyFrom 20 = (20, false, .getfield 15, 3, (3, 1, [205, 1], [])) := rfl
theorem kf_Answer_copyFrom_23 : mcGet K_Answer_copyFrom 23 = (23, false, .iconst 0, 1, mcX0) := rfl
theorem kf_Answer_copyFrom_24 : mcGet K_Answer_copyFrom 24 = (24, false, .iconst 4, 1, mcX0) := rfl
theorem kf_Answer_copyFrom_25 : mcGet K_Answer_copyFrom 25 = (25, false, .invokestatic 18, 3, (0, 0, [792, 530, 69, 531], [])) := rfl
theorem kf_Answer_copyFrom_28 : mcGet K_Answer_copyFrom 28 = (28, false, .aload_n 0, 1, mcX0) := rfl
theorem kf_Answer_copyFrom_29 : mcGet K_Answer_copyFrom 29 = (29, false, .aload_n 1, 1, mcX0) := rfl
theorem kf_Answer_copyFrom_30 : mcGet K_Answer_copyFrom 30 = (30, false, .getfield 24, 3, (3, 2, [207, 0], [])) := rfl
theorem kf_Answer_copyFrom_33 : mcGet K_Answer_copyFrom 33 = (33, false, .putfield 24, 3, (3, 2, [207, 0], [])) := rfl
theorem kf_Answer_copyFrom_36 : mcGet K_Answer_copyFrom 36 = (36, false, .return_, 1, mcX0) := rfl
theorem kf_Client_init_0 : mcGet K_Client_init 0 = (0, false, .aload_n 0, 1, mcX0) := rfl
theorem kf_Client_init_1 : mcGet K_Client_init 1 = (1, false, .invokespecial 3, 3, (0, 0, [319, 77, 78, 0], [])) := rfl
theorem kf_Client_init_4 : mcGet K_Client_init 4 = (4, false, .aload_n 0, 1, mcX0) := rfl
theorem kf_Client_init_5 : mcGet K_Client_init 5 = (5, false, .iconst 3, 1, mcX0) := rfl
theorem kf_Client_init_6 : mcGet K_Client_init 6 = (6, false, .anewarray 9, 3, (6, 0, [320, 321], [])) := rfl
theorem kf_Client_init_9 : mcGet K_Client_init 9 = (9, false, .putfield 11, 3, (8, 0, [351, 1], [])) := rfl
theorem kf_Client_init_12 : mcGet K_Client_init 12 = (12, false, .iconst 0, 1, mcX0) := rfl
theorem kf_Client_init_13 : mcGet K_Client_init 13 = (13, false, .istore_n 1, 1, mcX0) := rfl
theorem kf_Client_init_14 : mcGet K_Client_init 14 = (14, true, .iload_n 1, 1, mcX0) := rfl
theorem kf_Client_init_15 : mcGet K_Client_init 15 = (15, false, .iconst 3, 1, mcX0) := rfl
theorem kf_Client_init_16 : mcGet K_Client_init 16 = (16, false, .if_icmp .ge 22, 3, (38, 0, [], [])) := rfl
theorem kf_Client_init_19 : mcGet K_Client_init 19 = (19, false, .aload_n 0, 1, mcX0) := rfl
theorem kf_Client_init_20 : mcGet K_Client_init 20 = (20, false, .getfield 11, 3, (8, 0, [351, 1], [])) := rfl
theorem kf_Client_init_23 : mcGet K_Client_init 23 = (23, false, .iload_n 1, 1, mcX0) := rfl
theorem kf_Client_init_24 : mcGet K_Client_init 24 = (24, false, .new 9, 3, (7, 5, [320, 322, 62], [])) := rfl
theorem kf_Client_init_27 : mcGet K_Client_init 27 = (27, false, .dup, 1, mcX0) := rfl
theorem kf_Client_init_28 : mcGet K_Client_init 28 = (28, false, .invokespecial 17, 3, (7, 1, [323, 324, 62, 325], [M_Desk_init])) := rfl
theorem kf_Client_init_31 : mcGet K_Client_init 31 = (31, false, .aastore, 1, mcX0) := rfl
theorem kf_Client_init_32 : mcGet K_Client_init 32 = (32, false, .iinc 1 1, 3, mcX0) := rfl
theorem kf_Client_init_35 : mcGet K_Client_init 35 = (35, false, .goto (-21), 3, (14, 0, [], [])) := rfl
theorem kf_Client_init_38 : mcGet K_Client_init 38 = (38, false, .return_, 1, mcX0) := rfl
theorem kf_Client_beginLife_0 : mcGet K_Client_beginLife 0 = (0, false, .aload_n 0, 1, mcX0) := rfl
theorem kf_Client_beginLife_1 : mcGet K_Client_beginLife 1 = (1, false, .dup, 1, mcX0) := rfl
theorem kf_Client_beginLife_2 : mcGet K_Client_beginLife 2 = (2, false, .getfield 18, 3, (8, 1, [353, 0], [])) := rfl
theorem kf_Client_beginLife_5 : mcGet K_Client_beginLife 5 = (5, false, .iconst 1, 1, mcX0) := rfl
theorem kf_Client_beginLife_6 : mcGet K_Client_beginLife 6 = (6, false, .iadd, 1, mcX0) := rfl
theorem kf_Client_beginLife_7 : mcGet K_Client_beginLife 7 = (7, false, .putfield 18, 3, (8, 1, [353, 0], [])) := rfl
theorem kf_Client_beginLife_10 : mcGet K_Client_beginLife 10 = (10, false, .iconst 0, 1, mcX0) := rfl
theorem kf_Client_beginLife_11 : mcGet K_Client_beginLife 11 = (11, false, .istore_n 1, 1, mcX0) := rfl
theorem kf_Client_beginLife_12 : mcGet K_Client_beginLife 12 = (12, true, .iload_n 1, 1, mcX0) := rfl
theorem kf_Client_beginLife_13 : mcGet K_Client_beginLife 13 = (13, false, .iconst 3, 1, mcX0) := rfl
theorem kf_Client_beginLife_14 : mcGet K_Client_beginLife 14 = (14, false, .if_icmp .ge 18, 3, (32, 0, [], [])) := rfl
theorem kf_Client_beginLife_17 : mcGet K_Client_beginLife 17 = (17, false, .aload_n 0, 1, mcX0) := rfl
theorem kf_Client_beginLife_18 : mcGet K_Client_beginLife 18 = (18, false, .getfield 11, 3, (8, 0, [351, 1], [])) := rfl
theorem kf_Client_beginLife_21 : mcGet K_Client_beginLife 21 = (21, false, .iload_n 1, 1, mcX0) := rfl
theorem kf_Client_beginLife_22 : mcGet K_Client_beginLife 22 = (22, false, .aaload, 1, mcX0) := rfl
theorem kf_Client_beginLife_23 : mcGet K_Client_beginLife 23 = (23, false, .invokevirtual 22, 3, (7, 1, [466, 467, 62, 469, 468, 1], [M_Desk_forget])) := rfl
theorem kf_Client_beginLife_26 : mcGet K_Client_beginLife 26 = (26, false, .iinc 1 1, 3, mcX0) := rfl
theorem kf_Client_beginLife_29 : mcGet K_Client_beginLife 29 = (29, false, .goto (-17), 3, (12, 0, [], [])) := rfl
theorem kf_Client_beginLife_32 : mcGet K_Client_beginLife 32 = (32, false, .return_, 1, mcX0) := rfl
theorem kf_Desk_init_0 : mcGet K_Desk_init 0 = (0, false, .aload_n 0, 1, mcX0) := rfl
theorem kf_Desk_init_1 : mcGet K_Desk_init 1 = (1, false, .invokespecial 3, 3, (0, 0, [326, 77, 78, 0], [])) := rfl
theorem kf_Desk_init_4 : mcGet K_Desk_init 4 = (4, false, .aload_n 0, 1, mcX0) := rfl
theorem kf_Desk_init_5 : mcGet K_Desk_init 5 = (5, false, .bipush 20, 2, mcX0) := rfl
theorem kf_Desk_init_7 : mcGet K_Desk_init 7 = (7, false, .newarray .int, 2, (0, 0, [120], [])) := rfl
theorem kf_Desk_init_9 : mcGet K_Desk_init 9 = (9, false, .putfield 9, 3, (7, 0, [329, 1], [])) := rfl
theorem kf_Desk_init_12 : mcGet K_Desk_init 12 = (12, false, .aload_n 0, 1, mcX0) := rfl
theorem kf_Desk_init_13 : mcGet K_Desk_init 13 = (13, false, .new 15, 3, (3, 3, [327, 198, 60], [])) := rfl
theorem kf_Desk_init_16 : mcGet K_Desk_init 16 = (16, false, .dup, 1, mcX0) := rfl
theorem kf_Desk_init_17 : mcGet K_Desk_init 17 = (17, false, .invokespecial 17, 3, (3, 1, [328, 200, 60, 201], [M_Answer_init])) := rfl
theorem kf_Desk_init_20 : mcGet K_Desk_init 20 = (20, false, .putfield 18, 3, (7, 1, [331, 1], [])) := rfl
theorem kf_Desk_init_23 : mcGet K_Desk_init 23 = (23, false, .aload_n 0, 1, mcX0) := rfl
theorem kf_Desk_init_24 : mcGet K_Desk_init 24 = (24, false, .iconst 0, 1, mcX0) := rfl
theorem kf_Desk_init_25 : mcGet K_Desk_init 25 = (25, false, .putfield 22, 3, (7, 2, [333, 0], [])) := rfl
theorem kf_Desk_init_28 : mcGet K_Desk_init 28 = (28, false, .return_, 1, mcX0) := rfl
theorem kf_Desk_addStep_0 : mcGet K_Desk_addStep 0 = (0, false, .aload_n 0, 1, mcX0) := rfl
theorem kf_Desk_addStep_1 : mcGet K_Desk_addStep 1 = (1, false, .getfield 22, 3, (7, 2, [333, 0], [])) := rfl
theorem kf_Desk_addStep_4 : mcGet K_Desk_addStep 4 = (4, false, .iconst 1, 1, mcX0) := rfl
theorem kf_Desk_addStep_5 : mcGet K_Desk_addStep 5 = (5, false, .if_icmp .eq 13, 3, (18, 0, [], [])) := rfl
theorem kf_Desk_addStep_8 : mcGet K_Desk_addStep 8 = (8, false, .aload_n 0, 1, mcX0) := rfl
theorem kf_Desk_addStep_9 : mcGet K_Desk_addStep 9 = (9, false, .iconst 1, 1, mcX0) := rfl
theorem kf_Desk_addStep_10 : mcGet K_Desk_addStep 10 = (10, false, .putfield 22, 3, (7, 2, [333, 0], [])) := rfl
theorem kf_Desk_addStep_13 : mcGet K_Desk_addStep 13 = (13, false, .aload_n 0, 1, mcX0) := rfl
theorem kf_Desk_addStep_14 : mcGet K_Desk_addStep 14 = (14, false, .iconst 0, 1, mcX0) := rfl
theorem kf_Desk_addStep_15 : mcGet K_Desk_addStep 15 = (15, false, .putfield 29, 3, (7, 3, [336, 0], [])) := rfl
theorem kf_Desk_addStep_18 : mcGet K_Desk_addStep 18 = (18, false, .aload_n 0, 1, mcX0) := rfl
theorem kf_Desk_addStep_19 : mcGet K_Desk_addStep 19 = (19, false, .getfield 29, 3, (7, 3, [336, 0], [])) := rfl
theorem kf_Desk_addStep_22 : mcGet K_Desk_addStep 22 = (22, false, .iconst 5, 1, mcX0) := rfl
theorem kf_Desk_addStep_23 : mcGet K_Desk_addStep 23 = (23, false, .imul, 1, mcX0) := rfl
theorem kf_Desk_addStep_24 : mcGet K_Desk_addStep 24 = (24, false, .istore 6, 2, mcX0) := rfl
theorem kf_Desk_addStep_26 : mcGet K_Desk_addStep 26 = (26, false, .aload_n 0, 1, mcX0) := rfl
theorem kf_Desk_addStep_27 : mcGet K_Desk_addStep 27 = (27, false, .getfield 9, 3, (7, 0, [329, 1], [])) := rfl
theorem kf_Desk_addStep_30 : mcGet K_Desk_addStep 30 = (30, false, .iload 6, 2, mcX0) := rfl
theorem kf_Desk_addStep_32 : mcGet K_Desk_addStep 32 = (32, false, .iload_n 1, 1, mcX0) := rfl
theorem kf_Desk_addStep_33 : mcGet K_Desk_addStep 33 = (33, false, .iastore, 1, mcX0) := rfl
theorem kf_Desk_addStep_34 : mcGet K_Desk_addStep 34 = (34, false, .aload_n 0, 1, mcX0) := rfl
theorem kf_Desk_addStep_35 : mcGet K_Desk_addStep 35 = (35, false, .getfield 9, 3, (7, 0, [329, 1], [])) := rfl
theorem kf_Desk_addStep_38 : mcGet K_Desk_addStep 38 = (38, false, .iload 6, 2, mcX0) := rfl
theorem kf_Desk_addStep_40 : mcGet K_Desk_addStep 40 = (40, false, .iconst 1, 1, mcX0) := rfl
theorem kf_Desk_addStep_41 : mcGet K_Desk_addStep 41 = (41, false, .iadd, 1, mcX0) := rfl
theorem kf_Desk_addStep_42 : mcGet K_Desk_addStep 42 = (42, false, .iload_n 2, 1, mcX0) := rfl
theorem kf_Desk_addStep_43 : mcGet K_Desk_addStep 43 = (43, false, .iastore, 1, mcX0) := rfl
theorem kf_Desk_addStep_44 : mcGet K_Desk_addStep 44 = (44, false, .aload_n 0, 1, mcX0) := rfl
theorem kf_Desk_addStep_45 : mcGet K_Desk_addStep 45 = (45, false, .getfield 9, 3, (7, 0, [329, 1], [])) := rfl
theorem kf_Desk_addStep_48 : mcGet K_Desk_addStep 48 = (48, false, .iload 6, 2, mcX0) := rfl
theorem kf_Desk_addStep_50 : mcGet K_Desk_addStep 50 = (50, false, .iconst 2, 1, mcX0) := rfl
theorem kf_Desk_addStep_51 : mcGet K_Desk_addStep 51 = (51, false, .iadd, 1, mcX0) := rfl
theorem kf_Desk_addStep_52 : mcGet K_Desk_addStep 52 = (52, false, .iload_n 3, 1, mcX0) := rfl
theorem kf_Desk_addStep_53 : mcGet K_Desk_addStep 53 = (53, false, .iastore, 1, mcX0) := rfl
theorem kf_Desk_addStep_54 : mcGet K_Desk_addStep 54 = (54, false, .aload_n 0, 1, mcX0) := rfl
theorem kf_Desk_addStep_55 : mcGet K_Desk_addStep 55 = (55, false, .getfield 9, 3, (7, 0, [329, 1], [])) := rfl
theorem kf_Desk_addStep_58 : mcGet K_Desk_addStep 58 = (58, false, .iload 6, 2, mcX0) := rfl
theorem kf_Desk_addStep_60 : mcGet K_Desk_addStep 60 = (60, false, .iconst 3, 1, mcX0) := rfl
theorem kf_Desk_addStep_61 : mcGet K_Desk_addStep 61 = (61, false, .iadd, 1, mcX0) := rfl
theorem kf_Desk_addStep_62 : mcGet K_Desk_addStep 62 = (62, false, .iload 4, 2, mcX0) := rfl
theorem kf_Desk_addStep_64 : mcGet K_Desk_addStep 64 = (64, false, .iastore, 1, mcX0) := rfl
theorem kf_Desk_addStep_65 : mcGet K_Desk_addStep 65 = (65, false, .aload_n 0, 1, mcX0) := rfl
theorem kf_Desk_addStep_66 : mcGet K_Desk_addStep 66 = (66, false, .getfield 9, 3, (7, 0, [329, 1], [])) := rfl
theorem kf_Desk_addStep_69 : mcGet K_Desk_addStep 69 = (69, false, .iload 6, 2, mcX0) := rfl
theorem kf_Desk_addStep_71 : mcGet K_Desk_addStep 71 = (71, false, .iconst 4, 1, mcX0) := rfl
theorem kf_Desk_addStep_72 : mcGet K_Desk_addStep 72 = (72, false, .iadd, 1, mcX0) := rfl
theorem kf_Desk_addStep_73 : mcGet K_Desk_addStep 73 = (73, false, .iload 5, 2, mcX0) := rfl
theorem kf_Desk_addStep_75 : mcGet K_Desk_addStep 75 = (75, false, .iastore, 1, mcX0) := rfl
theorem kf_Desk_addStep_76 : mcGet K_Desk_addStep 76 = (76, false, .aload_n 0, 1, mcX0) := rfl
theorem kf_Desk_addStep_77 : mcGet K_Desk_addStep 77 = (77, false, .dup, 1, mcX0) := rfl
theorem kf_Desk_addStep_78 : mcGet K_Desk_addStep 78 = (78, false, .getfield 29, 3, (7, 3, [336, 0], [])) := rfl
theorem kf_Desk_addStep_81 : mcGet K_Desk_addStep 81 = (81, false, .iconst 1, 1, mcX0) := rfl
theorem kf_Desk_addStep_82 : mcGet K_Desk_addStep 82 = (82, false, .iadd, 1, mcX0) := rfl
theorem kf_Desk_addStep_83 : mcGet K_Desk_addStep 83 = (83, false, .putfield 29, 3, (7, 3, [336, 0], [])) := rfl
theorem kf_Desk_addStep_86 : mcGet K_Desk_addStep 86 = (86, false, .return_, 1, mcX0) := rfl
theorem kf_Desk_awaits_0 : mcGet K_Desk_awaits 0 = (0, false, .aload_n 0, 1, mcX0) := rfl
theorem kf_Desk_awaits_1 : mcGet K_Desk_awaits 1 = (1, false, .getfield 22, 3, (7, 2, [333, 0], [])) := rfl
theorem kf_Desk_awaits_4 : mcGet K_Desk_awaits 4 = (4, false, .iconst 2, 1, mcX0) := rfl
theorem kf_Desk_awaits_5 : mcGet K_Desk_awaits 5 = (5, false, .if_icmp .ne 15, 3, (20, 0, [], [])) := rfl
theorem kf_Desk_awaits_8 : mcGet K_Desk_awaits 8 = (8, false, .aload_n 0, 1, mcX0) := rfl
theorem kf_Desk_awaits_9 : mcGet K_Desk_awaits 9 = (9, false, .getfield 26, 3, (7, 4, [338, 0], [])) := rfl
theorem kf_Desk_awaits_12 : mcGet K_Desk_awaits 12 = (12, false, .iload_n 1, 1, mcX0) := rfl
theorem kf_Desk_awaits_13 : mcGet K_Desk_awaits 13 = (13, false, .if_icmp .ne 7, 3, (20, 0, [], [])) := rfl
theorem kf_Desk_awaits_16 : mcGet K_Desk_awaits 16 = (16, false, .iconst 1, 1, mcX0) := rfl
theorem kf_Desk_awaits_17 : mcGet K_Desk_awaits 17 = (17, false, .goto 4, 3, (21, 0, [], [])) := rfl
theorem kf_Desk_awaits_20 : mcGet K_Desk_awaits 20 = (20, false, .iconst 0, 1, mcX0) := rfl
theorem kf_Desk_awaits_21 : mcGet K_Desk_awaits 21 = (21, false, .ireturn, 1, (1, 0, [], [])) := rfl
theorem kf_Desk_forget_0 : mcGet K_Desk_forget 0 = (0, false, .aload_n 0, 1, mcX0) := rfl
theorem kf_Desk_forget_1 : mcGet K_Desk_forget 1 = (1, false, .iconst 0, 1, mcX0) := rfl
theorem kf_Desk_forget_2 : mcGet K_Desk_forget 2 = (2, false, .putfield 22, 3, (7, 2, [333, 0], [])) := rfl
theorem kf_Desk_forget_5 : mcGet K_Desk_forget 5 = (5, false, .aload_n 0, 1, mcX0) := rfl
theorem kf_Desk_forget_6 : mcGet K_Desk_forget 6 = (6, false, .iconst 0, 1, mcX0) := rfl
theorem kf_Desk_forget_7 : mcGet K_Desk_forget 7 = (7, false, .putfield 26, 3, (7, 4, [338, 0], [])) := rfl
theorem kf_Desk_forget_10 : mcGet K_Desk_forget 10 = (10, false, .return_, 1, mcX0) := rfl
theorem kf_Desk_hasAnswerTo_0 : mcGet K_Desk_hasAnswerTo 0 = (0, false, .aload_n 0, 1, mcX0) := rfl
theorem kf_Desk_hasAnswerTo_1 : mcGet K_Desk_hasAnswerTo 1 = (1, false, .getfield 22, 3, (7, 2, [333, 0], [])) := rfl
theorem kf_Desk_hasAnswerTo_4 : mcGet K_Desk_hasAnswerTo 4 = (4, false, .iconst 3, 1, mcX0) := rfl
theorem kf_Desk_hasAnswerTo_5 : mcGet K_Desk_hasAnswerTo 5 = (5, false, .if_icmp .ne 22, 3, (27, 0, [], [])) := rfl
theorem kf_Desk_hasAnswerTo_8 : mcGet K_Desk_hasAnswerTo 8 = (8, false, .iload_n 1, 1, mcX0) := rfl
theorem kf_Desk_hasAnswerTo_9 : mcGet K_Desk_hasAnswerTo 9 = (9, false, .ifCond .lt 18, 3, (27, 0, [], [])) := rfl
theorem kf_Desk_hasAnswerTo_12 : mcGet K_Desk_hasAnswerTo 12 = (12, false, .iload_n 1, 1, mcX0) := rfl
theorem kf_Desk_hasAnswerTo_13 : mcGet K_Desk_hasAnswerTo 13 = (13, false, .aload_n 0, 1, mcX0) := rfl
theorem kf_Desk_hasAnswerTo_14 : mcGet K_Desk_hasAnswerTo 14 = (14, false, .getfield 18, 3, (7, 1, [331, 1], [])) := rfl
theorem kf_Desk_hasAnswerTo_17 : mcGet K_Desk_hasAnswerTo 17 = (17, false, .getfield 36, 3, (3, 2, [209, 0], [])) := rfl
theorem kf_Desk_hasAnswerTo_20 : mcGet K_Desk_hasAnswerTo 20 = (20, false, .if_icmp .ge 7, 3, (27, 0, [], [])) := rfl
theorem kf_Desk_hasAnswerTo_23 : mcGet K_Desk_hasAnswerTo 23 = (23, false, .iconst 1, 1, mcX0) := rfl
theorem kf_Desk_hasAnswerTo_24 : mcGet K_Desk_hasAnswerTo 24 = (24, false, .goto 4, 3, (28, 0, [], [])) := rfl
theorem kf_Desk_hasAnswerTo_27 : mcGet K_Desk_hasAnswerTo 27 = (27, false, .iconst 0, 1, mcX0) := rfl
theorem kf_Desk_hasAnswerTo_28 : mcGet K_Desk_hasAnswerTo 28 = (28, false, .ireturn, 1, (1, 0, [], [])) := rfl
theorem kf_Desk_open_0 : mcGet K_Desk_open 0 = (0, false, .aload_n 0, 1, mcX0) := rfl
theorem kf_Desk_open_1 : mcGet K_Desk_open 1 = (1, false, .iconst 2, 1, mcX0) := rfl
theorem kf_Desk_open_2 : mcGet K_Desk_open 2 = (2, false, .putfield 22, 3, (7, 2, [333, 0], [])) := rfl
theorem kf_Desk_open_5 : mcGet K_Desk_open 5 = (5, false, .aload_n 0, 1, mcX0) := rfl
theorem kf_Desk_open_6 : mcGet K_Desk_open 6 = (6, false, .dup, 1, mcX0) := rfl
theorem kf_Desk_open_7 : mcGet K_Desk_open 7 = (7, false, .getfield 26, 3, (7, 4, [338, 0], [])) := rfl
theorem kf_Desk_open_10 : mcGet K_Desk_open 10 = (10, false, .iconst 1, 1, mcX0) := rfl
theorem kf_Desk_open_11 : mcGet K_Desk_open 11 = (11, false, .iadd, 1, mcX0) := rfl
theorem kf_Desk_open_12 : mcGet K_Desk_open 12 = (12, false, .putfield 26, 3, (7, 4, [338, 0], [])) := rfl
theorem kf_Desk_open_15 : mcGet K_Desk_open 15 = (15, false, .return_, 1, mcX0) := rfl
theorem kf_Desk_take_0 : mcGet K_Desk_take 0 = (0, false, .aload_n 0, 1, mcX0) := rfl
theorem kf_Desk_take_1 : mcGet K_Desk_take 1 = (1, false, .getfield 18, 3, (7, 1, [331, 1], [])) := rfl
theorem kf_Desk_take_4 : mcGet K_Desk_take 4 = (4, false, .aload_n 1, 1, mcX0) := rfl
theorem kf_Desk_take_5 : mcGet K_Desk_take 5 = (5, false, .invokevirtual 32, 3, (3, 2, [810, 789, 60, 791, 790, 2], [M_Answer_copyFrom])) := rfl
theorem kf_Desk_take_8 : mcGet K_Desk_take 8 = (8, false, .aload_n 0, 1, mcX0) := rfl
theorem kf_Desk_take_9 : mcGet K_Desk_take 9 = (9, false, .iconst 3, 1, mcX0) := rfl
theorem kf_Desk_take_10 : mcGet K_Desk_take 10 = (10, false, .putfield 22, 3, (7, 2, [333, 0], [])) := rfl
theorem kf_Desk_take_13 : mcGet K_Desk_take 13 = (13, false, .return_, 1, mcX0) := rfl
theorem kf_Desk_takesStep_0 : mcGet K_Desk_takesStep 0 = (0, false, .aload_n 0, 1, mcX0) := rfl
theorem kf_Desk_takesStep_1 : mcGet K_Desk_takesStep 1 = (1, false, .getfield 22, 3, (7, 2, [333, 0], [])) := rfl
theorem kf_Desk_takesStep_4 : mcGet K_Desk_takesStep 4 = (4, false, .iconst 2, 1, mcX0) := rfl
theorem kf_Desk_takesStep_5 : mcGet K_Desk_takesStep 5 = (5, false, .if_icmp .eq 23, 3, (28, 0, [], [])) := rfl
theorem kf_Desk_takesStep_8 : mcGet K_Desk_takesStep 8 = (8, false, .aload_n 0, 1, mcX0) := rfl
theorem kf_Desk_takesStep_9 : mcGet K_Desk_takesStep 9 = (9, false, .getfield 22, 3, (7, 2, [333, 0], [])) := rfl
theorem kf_Desk_takesStep_12 : mcGet K_Desk_takesStep 12 = (12, false, .iconst 1, 1, mcX0) := rfl
theorem kf_Desk_takesStep_13 : mcGet K_Desk_takesStep 13 = (13, false, .if_icmp .ne 11, 3, (24, 0, [], [])) := rfl
theorem kf_Desk_takesStep_16 : mcGet K_Desk_takesStep 16 = (16, false, .aload_n 0, 1, mcX0) := rfl
theorem kf_Desk_takesStep_17 : mcGet K_Desk_takesStep 17 = (17, false, .getfield 29, 3, (7, 3, [336, 0], [])) := rfl
theorem kf_Desk_takesStep_20 : mcGet K_Desk_takesStep 20 = (20, false, .iconst 4, 1, mcX0) := rfl
theorem kf_Desk_takesStep_21 : mcGet K_Desk_takesStep 21 = (21, false, .if_icmp .eq 7, 3, (28, 0, [], [])) := rfl
theorem kf_Desk_takesStep_24 : mcGet K_Desk_takesStep 24 = (24, false, .iconst 1, 1, mcX0) := rfl
theorem kf_Desk_takesStep_25 : mcGet K_Desk_takesStep 25 = (25, false, .goto 4, 3, (29, 0, [], [])) := rfl
theorem kf_Desk_takesStep_28 : mcGet K_Desk_takesStep 28 = (28, false, .iconst 0, 1, mcX0) := rfl
theorem kf_Desk_takesStep_29 : mcGet K_Desk_takesStep 29 = (29, false, .ireturn, 1, (1, 0, [], [])) := rfl
theorem kf_Disk_init_0 : mcGet K_Disk_init 0 = (0, false, .aload_n 0, 1, mcX0) := rfl
theorem kf_Disk_init_1 : mcGet K_Disk_init 1 = (1, false, .invokespecial 3, 3, (0, 0, [138, 77, 78, 0], [])) := rfl
theorem kf_Disk_init_4 : mcGet K_Disk_init 4 = (4, false, .aload_n 0, 1, mcX0) := rfl
theorem kf_Disk_init_5 : mcGet K_Disk_init 5 = (5, false, .new 9, 3, (1, 5, [139, 140, 57], [])) := rfl
theorem kf_Disk_init_8 : mcGet K_Disk_init 8 = (8, false, .dup, 1, mcX0) := rfl
theorem kf_Disk_init_9 : mcGet K_Disk_init 9 = (9, false, .invokespecial 11, 3, (1, 1, [141, 142, 57, 143], [M_Tree_init])) := rfl
theorem kf_Disk_init_12 : mcGet K_Disk_init 12 = (12, false, .putfield 12, 3, (4, 0, [217, 1], [])) := rfl
theorem kf_Disk_init_15 : mcGet K_Disk_init 15 = (15, false, .aload_n 0, 1, mcX0) := rfl
theorem kf_Disk_init_16 : mcGet K_Disk_init 16 = (16, false, .new 18, 3, (2, 5, [171, 172, 59], [])) := rfl
theorem kf_Disk_init_19 : mcGet K_Disk_init 19 = (19, false, .dup, 1, mcX0) := rfl
theorem kf_Disk_init_20 : mcGet K_Disk_init 20 = (20, false, .invokespecial 20, 3, (2, 1, [173, 174, 59, 175], [M_Locks_init])) := rfl
theorem kf_Disk_init_23 : mcGet K_Disk_init 23 = (23, false, .putfield 21, 3, (4, 1, [220, 1], [])) := rfl
theorem kf_Disk_init_26 : mcGet K_Disk_init 26 = (26, false, .aload_n 0, 1, mcX0) := rfl
theorem kf_Disk_init_27 : mcGet K_Disk_init 27 = (27, false, .bipush 32, 2, mcX0) := rfl
theorem kf_Disk_init_29 : mcGet K_Disk_init 29 = (29, false, .newarray .int, 2, (0, 0, [120], [])) := rfl
theorem kf_Disk_init_31 : mcGet K_Disk_init 31 = (31, false, .putfield 25, 3, (4, 2, [224, 1], [])) := rfl
theorem kf_Disk_init_34 : mcGet K_Disk_init 34 = (34, false, .aload_n 0, 1, mcX0) := rfl
theorem kf_Disk_init_35 : mcGet K_Disk_init 35 = (35, false, .iconst 4, 1, mcX0) := rfl
theorem kf_Disk_init_36 : mcGet K_Disk_init 36 = (36, false, .newarray .int, 2, (0, 0, [120], [])) := rfl
theorem kf_Disk_init_38 : mcGet K_Disk_init 38 = (38, false, .putfield 29, 3, (4, 3, [225, 1], [])) := rfl
theorem kf_Disk_init_41 : mcGet K_Disk_init 41 = (41, false, .aload_n 0, 1, mcX0) := rfl
theorem kf_Disk_init_42 : mcGet K_Disk_init 42 = (42, false, .bipush 12, 2, mcX0) := rfl
theorem kf_Disk_init_44 : mcGet K_Disk_init 44 = (44, false, .newarray .int, 2, (0, 0, [120], [])) := rfl
theorem kf_Disk_init_46 : mcGet K_Disk_init 46 = (46, false, .putfield 32, 3, (4, 4, [227, 1], [])) := rfl
theorem kf_Disk_init_49 : mcGet K_Disk_init 49 = (49, false, .aload_n 0, 1, mcX0) := rfl
theorem kf_Disk_init_50 : mcGet K_Disk_init 50 = (50, false, .bipush 12, 2, mcX0) := rfl
theorem kf_Disk_init_52 : mcGet K_Disk_init 52 = (52, false, .anewarray 35, 3, (5, 0, [195, 196], [])) := rfl
theorem kf_Disk_init_55 : mcGet K_Disk_init 55 = (55, false, .putfield 37, 3, (4, 5, [229, 1], [])) := rfl
theorem kf_Disk_init_58 : mcGet K_Disk_init 58 = (58, false, .aload_n 0, 1, mcX0) := rfl
theorem kf_Disk_init_59 : mcGet K_Disk_init 59 = (59, false, .getfield 25, 3, (4, 2, [224, 1], [])) := rfl
theorem kf_Disk_init_62 : mcGet K_Disk_init 62 = (62, false, .iconst (-1), 1, mcX0) := rfl
theorem kf_Disk_init_63 : mcGet K_Disk_init 63 = (63, false, .invokestatic 41, 3, (0, 2, [197, 146, 58, 147, 0, 4], [M_Arrays_fill_0])) := rfl
theorem kf_Disk_init_66 : mcGet K_Disk_init 66 = (66, false, .iconst 0, 1, mcX0) := rfl
theorem kf_Disk_init_67 : mcGet K_Disk_init 67 = (67, false, .istore_n 1, 1, mcX0) := rfl
theorem kf_Disk_init_68 : mcGet K_Disk_init 68 = (68, true, .iload_n 1, 1, mcX0) := rfl
theorem kf_Disk_init_69 : mcGet K_Disk_init 69 = (69, false, .bipush 12, 2, mcX0) := rfl
theorem kf_Disk_init_71 : mcGet K_Disk_init 71 = (71, false, .if_icmp .ge 22, 3, (93, 0, [], [])) := rfl
theorem kf_Disk_init_74 : mcGet K_Disk_init 74 = (74, false, .aload_n 0, 1, mcX0) := rfl
theorem kf_Disk_init_75 : mcGet K_Disk_init 75 = (75, false, .getfield 37, 3, (4, 5, [229, 1], [])) := rfl
theorem kf_Disk_init_78 : mcGet K_Disk_init 78 = (78, false, .iload_n 1, 1, mcX0) := rfl
theorem kf_Disk_init_79 : mcGet K_Disk_init 79 = (79, false, .new 35, 3, (3, 3, [195, 198, 60], [])) := rfl
theorem kf_Disk_init_82 : mcGet K_Disk_init 82 = (82, false, .dup, 1, mcX0) := rfl
theorem kf_Disk_init_83 : mcGet K_Disk_init 83 = (83, false, .invokespecial 47, 3, (3, 1, [199, 200, 60, 201], [M_Answer_init])) := rfl
theorem kf_Disk_init_86 : mcGet K_Disk_init 86 = (86, false, .aastore, 1, mcX0) := rfl
theorem kf_Disk_init_87 : mcGet K_Disk_init 87 = (87, false, .iinc 1 1, 3, mcX0) := rfl
theorem kf_Disk_init_90 : mcGet K_Disk_init 90 = (90, false, .goto (-22), 3, (68, 0, [], [])) := rfl
theorem kf_Disk_init_93 : mcGet K_Disk_init 93 = (93, false, .return_, 1, mcX0) := rfl
theorem kf_Disk_beginLife_0 : mcGet K_Disk_beginLife 0 = (0, false, .aload_n 0, 1, mcX0) := rfl
theorem kf_Disk_beginLife_1 : mcGet K_Disk_beginLife 1 = (1, false, .getfield 29, 3, (4, 3, [225, 1], [])) := rfl
theorem kf_Disk_beginLife_4 : mcGet K_Disk_beginLife 4 = (4, false, .iload_n 1, 1, mcX0) := rfl
theorem kf_Disk_beginLife_5 : mcGet K_Disk_beginLife 5 = (5, false, .iload_n 2, 1, mcX0) := rfl
theorem kf_Disk_beginLife_6 : mcGet K_Disk_beginLife 6 = (6, false, .iastore, 1, mcX0) := rfl
theorem kf_Disk_beginLife_7 : mcGet K_Disk_beginLife 7 = (7, false, .iconst 0, 1, mcX0) := rfl
theorem kf_Disk_beginLife_8 : mcGet K_Disk_beginLife 8 = (8, false, .istore_n 3, 1, mcX0) := rfl
theorem kf_Disk_beginLife_9 : mcGet K_Disk_beginLife 9 = (9, true, .iload_n 3, 1, mcX0) := rfl
theorem kf_Disk_beginLife_10 : mcGet K_Disk_beginLife 10 = (10, false, .bipush 8, 2, mcX0) := rfl
theorem kf_Disk_beginLife_12 : mcGet K_Disk_beginLife 12 = (12, false, .if_icmp .ge 21, 3, (33, 0, [], [])) := rfl
theorem kf_Disk_beginLife_15 : mcGet K_Disk_beginLife 15 = (15, false, .aload_n 0, 1, mcX0) := rfl
theorem kf_Disk_beginLife_16 : mcGet K_Disk_beginLife 16 = (16, false, .getfield 25, 3, (4, 2, [224, 1], [])) := rfl
theorem kf_Disk_beginLife_19 : mcGet K_Disk_beginLife 19 = (19, false, .iload_n 1, 1, mcX0) := rfl
theorem kf_Disk_beginLife_20 : mcGet K_Disk_beginLife 20 = (20, false, .bipush 8, 2, mcX0) := rfl
theorem kf_Disk_beginLife_22 : mcGet K_Disk_beginLife 22 = (22, false, .imul, 1, mcX0) := rfl
theorem kf_Disk_beginLife_23 : mcGet K_Disk_beginLife 23 = (23, false, .iload_n 3, 1, mcX0) := rfl
theorem kf_Disk_beginLife_24 : mcGet K_Disk_beginLife 24 = (24, false, .iadd, 1, mcX0) := rfl
theorem kf_Disk_beginLife_25 : mcGet K_Disk_beginLife 25 = (25, false, .iconst (-1), 1, mcX0) := rfl
theorem kf_Disk_beginLife_26 : mcGet K_Disk_beginLife 26 = (26, false, .iastore, 1, mcX0) := rfl
theorem kf_Disk_beginLife_27 : mcGet K_Disk_beginLife 27 = (27, false, .iinc 3 1, 3, mcX0) := rfl
theorem kf_Disk_beginLife_30 : mcGet K_Disk_beginLife 30 = (30, false, .goto (-21), 3, (9, 0, [], [])) := rfl
theorem kf_Disk_beginLife_33 : mcGet K_Disk_beginLife 33 = (33, false, .iconst 0, 1, mcX0) := rfl
theorem kf_Disk_beginLife_34 : mcGet K_Disk_beginLife 34 = (34, false, .istore_n 3, 1, mcX0) := rfl
theorem kf_Disk_beginLife_35 : mcGet K_Disk_beginLife 35 = (35, true, .iload_n 3, 1, mcX0) := rfl
theorem kf_Disk_beginLife_36 : mcGet K_Disk_beginLife 36 = (36, false, .iconst 3, 1, mcX0) := rfl
theorem kf_Disk_beginLife_37 : mcGet K_Disk_beginLife 37 = (37, false, .if_icmp .ge 20, 3, (57, 0, [], [])) := rfl
theorem kf_Disk_beginLife_40 : mcGet K_Disk_beginLife 40 = (40, false, .aload_n 0, 1, mcX0) := rfl
theorem kf_Disk_beginLife_41 : mcGet K_Disk_beginLife 41 = (41, false, .getfield 32, 3, (4, 4, [227, 1], [])) := rfl
theorem kf_Disk_beginLife_44 : mcGet K_Disk_beginLife 44 = (44, false, .iload_n 1, 1, mcX0) := rfl
theorem kf_Disk_beginLife_45 : mcGet K_Disk_beginLife 45 = (45, false, .iload_n 3, 1, mcX0) := rfl
theorem kf_Disk_beginLife_46 : mcGet K_Disk_beginLife 46 = (46, false, .invokestatic 64, 3, (1, 2, [558, 544, 52, 545, 0, 2], [M_Srv_slotOf])) := rfl
theorem kf_Disk_beginLife_49 : mcGet K_Disk_beginLife 49 = (49, false, .iconst 0, 1, mcX0) := rfl
theorem kf_Disk_beginLife_50 : mcGet K_Disk_beginLife 50 = (50, false, .iastore, 1, mcX0) := rfl
theorem kf_Disk_beginLife_51 : mcGet K_Disk_beginLife 51 = (51, false, .iinc 3 1, 3, mcX0) := rfl
theorem kf_Disk_beginLife_54 : mcGet K_Disk_beginLife 54 = (54, false, .goto (-19), 3, (35, 0, [], [])) := rfl
theorem kf_Disk_beginLife_57 : mcGet K_Disk_beginLife 57 = (57, false, .aload_n 0, 1, mcX0) := rfl
theorem kf_Disk_beginLife_58 : mcGet K_Disk_beginLife 58 = (58, false, .getfield 21, 3, (4, 1, [220, 1], [])) := rfl
theorem kf_Disk_beginLife_61 : mcGet K_Disk_beginLife 61 = (61, false, .iload_n 1, 1, mcX0) := rfl
theorem kf_Disk_beginLife_62 : mcGet K_Disk_beginLife 62 = (62, false, .invokevirtual 68, 3, (2, 2, [559, 560, 59, 562, 561, 3], [M_Locks_deleteClient])) := rfl
theorem kf_Disk_beginLife_65 : mcGet K_Disk_beginLife 65 = (65, false, .return_, 1, mcX0) := rfl
theorem kf_Disk_bind_0 : mcGet K_Disk_bind 0 = (0, false, .aload_n 0, 1, mcX0) := rfl
theorem kf_Disk_bind_1 : mcGet K_Disk_bind 1 = (1, false, .getfield 25, 3, (4, 2, [224, 1], [])) := rfl
theorem kf_Disk_bind_4 : mcGet K_Disk_bind 4 = (4, false, .iload_n 1, 1, mcX0) := rfl
theorem kf_Disk_bind_5 : mcGet K_Disk_bind 5 = (5, false, .bipush 8, 2, mcX0) := rfl
theorem kf_Disk_bind_7 : mcGet K_Disk_bind 7 = (7, false, .imul, 1, mcX0) := rfl
theorem kf_Disk_bind_8 : mcGet K_Disk_bind 8 = (8, false, .iload_n 2, 1, mcX0) := rfl
theorem kf_Disk_bind_9 : mcGet K_Disk_bind 9 = (9, false, .iadd, 1, mcX0) := rfl
theorem kf_Disk_bind_10 : mcGet K_Disk_bind 10 = (10, false, .iload_n 3, 1, mcX0) := rfl
theorem kf_Disk_bind_11 : mcGet K_Disk_bind 11 = (11, false, .iastore, 1, mcX0) := rfl
theorem kf_Disk_bind_12 : mcGet K_Disk_bind 12 = (12, false, .return_, 1, mcX0) := rfl
theorem kf_Disk_boundTo_0 : mcGet K_Disk_boundTo 0 = (0, false, .aload_n 0, 1, mcX0) := rfl
theorem kf_Disk_boundTo_1 : mcGet K_Disk_boundTo 1 = (1, false, .getfield 25, 3, (4, 2, [224, 1], [])) := rfl
theorem kf_Disk_boundTo_4 : mcGet K_Disk_boundTo 4 = (4, false, .iload_n 1, 1, mcX0) := rfl
theorem kf_Disk_boundTo_5 : mcGet K_Disk_boundTo 5 = (5, false, .bipush 8, 2, mcX0) := rfl
theorem kf_Disk_boundTo_7 : mcGet K_Disk_boundTo 7 = (7, false, .imul, 1, mcX0) := rfl
theorem kf_Disk_boundTo_8 : mcGet K_Disk_boundTo 8 = (8, false, .iload_n 2, 1, mcX0) := rfl
theorem kf_Disk_boundTo_9 : mcGet K_Disk_boundTo 9 = (9, false, .iadd, 1, mcX0) := rfl
theorem kf_Disk_boundTo_10 : mcGet K_Disk_boundTo 10 = (10, false, .iaload, 1, mcX0) := rfl
theorem kf_Disk_boundTo_11 : mcGet K_Disk_boundTo 11 = (11, false, .ireturn, 1, mcX0) := rfl
theorem kf_Disk_copyFrom_0 : mcGet K_Disk_copyFrom 0 = (0, false, .aload_n 0, 1, mcX0) := rfl
theorem kf_Disk_copyFrom_1 : mcGet K_Disk_copyFrom 1 = (1, false, .getfield 12, 3, (4, 0, [217, 1], [])) := rfl
theorem kf_Disk_copyFrom_4 : mcGet K_Disk_copyFrom 4 = (4, false, .aload_n 1, 1, mcX0) := rfl
theorem kf_Disk_copyFrom_5 : mcGet K_Disk_copyFrom 5 = (5, false, .getfield 12, 3, (4, 0, [217, 1], [])) := rfl
theorem kf_Disk_copyFrom_8 : mcGet K_Disk_copyFrom 8 = (8, false, .invokevirtual 48, 3, (1, 2, [777, 778, 57, 780, 779, 2], [M_Tree_copyFrom])) := rfl
theorem kf_Disk_copyFrom_11 : mcGet K_Disk_copyFrom 11 = (11, false, .aload_n 0, 1, mcX0) := rfl
theorem kf_Disk_copyFrom_12 : mcGet K_Disk_copyFrom 12 = (12, false, .getfield 21, 3, (4, 1, [220, 1], [])) := rfl
theorem kf_Disk_copyFrom_15 : mcGet K_Disk_copyFrom 15 = (15, false, .aload_n 1, 1, mcX0) := rfl
theorem kf_Disk_copyFrom_16 : mcGet K_Disk_copyFrom 16 = (16, false, .getfield 21, 3, (4, 1, [220, 1], [])) := rfl
theorem kf_Disk_copyFrom_19 : mcGet K_Disk_copyFrom 19 = (19, false, .invokevirtual 52, 3, (2, 2, [782, 783, 59, 785, 784, 2], [M_Locks_copyFrom])) := rfl
theorem kf_Disk_copyFrom_22 : mcGet K_Disk_copyFrom 22 = (22, false, .aload_n 1, 1, mcX0) := rfl
theorem kf_Disk_copyFrom_23 : mcGet K_Disk_copyFrom 23 = (23, false, .getfield 25, 3, (4, 2, [224, 1], [])) := rfl
theorem kf_Disk_copyFrom_26 : mcGet K_Disk_copyFrom 26 = (26, false, .iconst 0, 1, mcX0) := rfl
theorem kf_Disk_copyFrom_27 : mcGet K_Disk_copyFrom 27 = (27, false, .aload_n 0, 1, mcX0) := rfl
theorem kf_Disk_copyFrom_28 : mcGet K_Disk_copyFrom 28 = (28, false, .getfield 25, 3, (4, 2, [224, 1], [])) := rfl
theorem kf_Disk_copyFrom_31 : mcGet K_Disk_copyFrom 31 = (31, false, .iconst 0, 1, mcX0) := rfl
theorem kf_Disk_copyFrom_32 : mcGet K_Disk_copyFrom 32 = (32, false, .bipush 32, 2, mcX0) := rfl
theorem kf_Disk_copyFrom_34 : mcGet K_Disk_copyFrom 34 = (34, false, .invokestatic 55, 3, (0, 0, [787, 530, 69, 531], [])) := rfl
theorem kf_Disk_copyFrom_37 : mcGet K_Disk_copyFrom 37 = (37, false, .aload_n 1, 1, mcX0) := rfl
theorem kf_Disk_copyFrom_38 : mcGet K_Disk_copyFrom 38 = (38, false, .getfield 29, 3, (4, 3, [225, 1], [])) := rfl
theorem kf_Disk_copyFrom_41 : mcGet K_Disk_copyFrom 41 = (41, false, .iconst 0, 1, mcX0) := rfl
theorem kf_Disk_copyFrom_42 : mcGet K_Disk_copyFrom 42 = (42, false, .aload_n 0, 1, mcX0) := rfl
theorem kf_Disk_copyFrom_43 : mcGet K_Disk_copyFrom 43 = (43, false, .getfield 29, 3, (4, 3, [225, 1], [])) := rfl
theorem kf_Disk_copyFrom_46 : mcGet K_Disk_copyFrom 46 = (46, false, .iconst 0, 1, mcX0) := rfl
theorem kf_Disk_copyFrom_47 : mcGet K_Disk_copyFrom 47 = (47, false, .iconst 4, 1, mcX0) := rfl
theorem kf_Disk_copyFrom_48 : mcGet K_Disk_copyFrom 48 = (48, false, .invokestatic 55, 3, (0, 0, [787, 530, 69, 531], [])) := rfl
theorem kf_Disk_copyFrom_51 : mcGet K_Disk_copyFrom 51 = (51, false, .aload_n 1, 1, mcX0) := rfl
theorem kf_Disk_copyFrom_52 : mcGet K_Disk_copyFrom 52 = (52, false, .getfield 32, 3, (4, 4, [227, 1], [])) := rfl
theorem kf_Disk_copyFrom_55 : mcGet K_Disk_copyFrom 55 = (55, false, .iconst 0, 1, mcX0) := rfl
theorem kf_Disk_copyFrom_56 : mcGet K_Disk_copyFrom 56 = (56, false, .aload_n 0, 1, mcX0) := rfl
theorem kf_Disk_copyFrom_57 : mcGet K_Disk_copyFrom 57 = (57, false, .getfield 32, 3, (4, 4, [227, 1], [])) := rfl
theorem kf_Disk_copyFrom_60 : mcGet K_Disk_copyFrom 60 = (60, false, .iconst 0, 1, mcX0) := rfl
theorem kf_Disk_copyFrom_61 : mcGet K_Disk_copyFrom 61 = (61, false, .bipush 12, 2, mcX0) := rfl
theorem kf_Disk_copyFrom_63 : mcGet K_Disk_copyFrom 63 = (63, false, .invokestatic 55, 3, (0, 0, [787, 530, 69, 531], [])) := rfl
theorem kf_Disk_copyFrom_66 : mcGet K_Disk_copyFrom 66 = (66, false, .iconst 0, 1, mcX0) := rfl
theorem kf_Disk_copyFrom_67 : mcGet K_Disk_copyFrom 67 = (67, false, .istore_n 2, 1, mcX0) := rfl
theorem kf_Disk_copyFrom_68 : mcGet K_Disk_copyFrom 68 = (68, true, .iload_n 2, 1, mcX0) := rfl
theorem kf_Disk_copyFrom_69 : mcGet K_Disk_copyFrom 69 = (69, false, .bipush 12, 2, mcX0) := rfl
theorem kf_Disk_copyFrom_71 : mcGet K_Disk_copyFrom 71 = (71, false, .if_icmp .ge 24, 3, (95, 0, [], [])) := rfl
theorem kf_Disk_copyFrom_74 : mcGet K_Disk_copyFrom 74 = (74, false, .aload_n 0, 1, mcX0) := rfl
theorem kf_Disk_copyFrom_75 : mcGet K_Disk_copyFrom 75 = (75, false, .getfield 37, 3, (4, 5, [229, 1], [])) := rfl
theorem kf_Disk_copyFrom_78 : mcGet K_Disk_copyFrom 78 = (78, false, .iload_n 2, 1, mcX0) := rfl
theorem kf_Disk_copyFrom_79 : mcGet K_Disk_copyFrom 79 = (79, false, .aaload, 1, mcX0) := rfl
theorem kf_Disk_copyFrom_80 : mcGet K_Disk_copyFrom 80 = (80, false, .aload_n 1, 1, mcX0) := rfl
theorem kf_Disk_copyFrom_81 : mcGet K_Disk_copyFrom 81 = (81, false, .getfield 37, 3, (4, 5, [229, 1], [])) := rfl
theorem kf_Disk_copyFrom_84 : mcGet K_Disk_copyFrom 84 = (84, false, .iload_n 2, 1, mcX0) := rfl
theorem kf_Disk_copyFrom_85 : mcGet K_Disk_copyFrom 85 = (85, false, .aaload, 1, mcX0) := rfl
theorem kf_Disk_copyFrom_86 : mcGet K_Disk_copyFrom 86 = (86, false, .invokevirtual 61, 3, (3, 2, [788, 789, 60, 791, 790, 2], [M_Answer_copyFrom])) := rfl
theorem kf_Disk_copyFrom_89 : mcGet K_Disk_copyFrom 89 = (89, false, .iinc 2 1, 3, mcX0) := rfl
theorem kf_Disk_copyFrom_92 : mcGet K_Disk_copyFrom 92 = (92, false, .goto (-24), 3, (68, 0, [], [])) := rfl
theorem kf_Disk_copyFrom_95 : mcGet K_Disk_copyFrom 95 = (95, false, .return_, 1, mcX0) := rfl
theorem kf_Disk_deleteNode_0 : mcGet K_Disk_deleteNode 0 = (0, false, .aload_n 0, 1, mcX0) := rfl
theorem kf_Disk_deleteNode_1 : mcGet K_Disk_deleteNode 1 = (1, false, .getfield 12, 3, (4, 0, [217, 1], [])) := rfl
theorem kf_Disk_deleteNode_4 : mcGet K_Disk_deleteNode 4 = (4, false, .iload_n 1, 1, mcX0) := rfl
theorem kf_Disk_deleteNode_5 : mcGet K_Disk_deleteNode 5 = (5, false, .iconst 0, 1, mcX0) := rfl
theorem kf_Disk_deleteNode_6 : mcGet K_Disk_deleteNode 6 = (6, false, .invokevirtual 72, 3, (1, 3, [635, 636, 57, 638, 637, 4], [M_Tree_resize])) := rfl
theorem kf_Disk_deleteNode_9 : mcGet K_Disk_deleteNode 9 = (9, false, .aload_n 0, 1, mcX0) := rfl
theorem kf_Disk_deleteNode_10 : mcGet K_Disk_deleteNode 10 = (10, false, .getfield 12, 3, (4, 0, [217, 1], [])) := rfl
theorem kf_Disk_deleteNode_13 : mcGet K_Disk_deleteNode 13 = (13, false, .iload_n 1, 1, mcX0) := rfl
theorem kf_Disk_deleteNode_14 : mcGet K_Disk_deleteNode 14 = (14, false, .invokevirtual 76, 3, (1, 2, [639, 640, 57, 642, 641, 2], [M_Tree_delete])) := rfl
theorem kf_Disk_deleteNode_17 : mcGet K_Disk_deleteNode 17 = (17, false, .aload_n 0, 1, mcX0) := rfl
theorem kf_Disk_deleteNode_18 : mcGet K_Disk_deleteNode 18 = (18, false, .getfield 21, 3, (4, 1, [220, 1], [])) := rfl
theorem kf_Disk_deleteNode_21 : mcGet K_Disk_deleteNode 21 = (21, false, .iload_n 1, 1, mcX0) := rfl
theorem kf_Disk_deleteNode_22 : mcGet K_Disk_deleteNode 22 = (22, false, .invokevirtual 79, 3, (2, 2, [643, 644, 59, 646, 645, 4], [M_Locks_deleteNode])) := rfl
theorem kf_Disk_deleteNode_25 : mcGet K_Disk_deleteNode 25 = (25, false, .iconst 0, 1, mcX0) := rfl
theorem kf_Disk_deleteNode_26 : mcGet K_Disk_deleteNode 26 = (26, false, .istore_n 2, 1, mcX0) := rfl
theorem kf_Disk_deleteNode_27 : mcGet K_Disk_deleteNode 27 = (27, true, .iload_n 2, 1, mcX0) := rfl
theorem kf_Disk_deleteNode_28 : mcGet K_Disk_deleteNode 28 = (28, false, .bipush 32, 2, mcX0) := rfl
theorem kf_Disk_deleteNode_30 : mcGet K_Disk_deleteNode 30 = (30, false, .if_icmp .ge 26, 3, (56, 0, [], [])) := rfl
theorem kf_Disk_deleteNode_33 : mcGet K_Disk_deleteNode 33 = (33, false, .aload_n 0, 1, mcX0) := rfl
theorem kf_Disk_deleteNode_34 : mcGet K_Disk_deleteNode 34 = (34, false, .getfield 25, 3, (4, 2, [224, 1], [])) := rfl
theorem kf_Disk_deleteNode_37 : mcGet K_Disk_deleteNode 37 = (37, false, .iload_n 2, 1, mcX0) := rfl
theorem kf_Disk_deleteNode_38 : mcGet K_Disk_deleteNode 38 = (38, false, .iaload, 1, mcX0) := rfl
theorem kf_Disk_deleteNode_39 : mcGet K_Disk_deleteNode 39 = (39, false, .iload_n 1, 1, mcX0) := rfl
theorem kf_Disk_deleteNode_40 : mcGet K_Disk_deleteNode 40 = (40, false, .if_icmp .ne 10, 3, (50, 0, [], [])) := rfl
theorem kf_Disk_deleteNode_43 : mcGet K_Disk_deleteNode 43 = (43, false, .aload_n 0, 1, mcX0) := rfl
theorem kf_Disk_deleteNode_44 : mcGet K_Disk_deleteNode 44 = (44, false, .getfield 25, 3, (4, 2, [224, 1], [])) := rfl
theorem kf_Disk_deleteNode_47 : mcGet K_Disk_deleteNode 47 = (47, false, .iload_n 2, 1, mcX0) := rfl
theorem kf_Disk_deleteNode_48 : mcGet K_Disk_deleteNode 48 = (48, false, .iconst (-1), 1, mcX0) := rfl
theorem kf_Disk_deleteNode_49 : mcGet K_Disk_deleteNode 49 = (49, false, .iastore, 1, mcX0) := rfl
theorem kf_Disk_deleteNode_50 : mcGet K_Disk_deleteNode 50 = (50, false, .iinc 2 1, 3, mcX0) := rfl
theorem kf_Disk_deleteNode_53 : mcGet K_Disk_deleteNode 53 = (53, false, .goto (-26), 3, (27, 0, [], [])) := rfl
theorem kf_Disk_deleteNode_56 : mcGet K_Disk_deleteNode 56 = (56, false, .return_, 1, mcX0) := rfl
theorem kf_Locks_init_0 : mcGet K_Locks_init 0 = (0, false, .aload_n 0, 1, mcX0) := rfl
theorem kf_Locks_init_1 : mcGet K_Locks_init 1 = (1, false, .invokespecial 3, 3, (0, 0, [176, 77, 78, 0], [])) := rfl
theorem kf_Locks_init_4 : mcGet K_Locks_init 4 = (4, false, .aload_n 0, 1, mcX0) := rfl
theorem kf_Locks_init_5 : mcGet K_Locks_init 5 = (5, false, .sipush 128, 3, mcX0) := rfl
theorem kf_Locks_init_8 : mcGet K_Locks_init 8 = (8, false, .newarray .long, 2, (1, 0, [194], [])) := rfl
theorem kf_Locks_init_10 : mcGet K_Locks_init 10 = (10, false, .putfield 9, 3, (2, 0, [177, 1], [])) := rfl
theorem kf_Locks_init_13 : mcGet K_Locks_init 13 = (13, false, .aload_n 0, 1, mcX0) := rfl
theorem kf_Locks_init_14 : mcGet K_Locks_init 14 = (14, false, .sipush 128, 3, mcX0) := rfl
theorem kf_Locks_init_17 : mcGet K_Locks_init 17 = (17, false, .newarray .long, 2, (1, 0, [194], [])) := rfl
theorem kf_Locks_init_19 : mcGet K_Locks_init 19 = (19, false, .putfield 15, 3, (2, 1, [178, 1], [])) := rfl
theorem kf_Locks_init_22 : mcGet K_Locks_init 22 = (22, false, .aload_n 0, 1, mcX0) := rfl
theorem kf_Locks_init_23 : mcGet K_Locks_init 23 = (23, false, .sipush 128, 3, mcX0) := rfl
theorem kf_Locks_init_26 : mcGet K_Locks_init 26 = (26, false, .newarray .long, 2, (1, 0, [194], [])) := rfl
theorem kf_Locks_init_28 : mcGet K_Locks_init 28 = (28, false, .putfield 18, 3, (2, 2, [179, 1], [])) := rfl
theorem kf_Locks_init_31 : mcGet K_Locks_init 31 = (31, false, .aload_n 0, 1, mcX0) := rfl
theorem kf_Locks_init_32 : mcGet K_Locks_init 32 = (32, false, .sipush 128, 3, mcX0) := rfl
theorem kf_Locks_init_35 : mcGet K_Locks_init 35 = (35, false, .newarray .long, 2, (1, 0, [194], [])) := rfl
theorem kf_Locks_init_37 : mcGet K_Locks_init 37 = (37, false, .putfield 21, 3, (2, 3, [180, 1], [])) := rfl
theorem kf_Locks_init_40 : mcGet K_Locks_init 40 = (40, false, .aload_n 0, 1, mcX0) := rfl
theorem kf_Locks_init_41 : mcGet K_Locks_init 41 = (41, false, .iconst 4, 1, mcX0) := rfl
theorem kf_Locks_init_42 : mcGet K_Locks_init 42 = (42, false, .newarray .int, 2, (0, 0, [120], [])) := rfl
theorem kf_Locks_init_44 : mcGet K_Locks_init 44 = (44, false, .putfield 24, 3, (2, 4, [181, 1], [])) := rfl
theorem kf_Locks_init_47 : mcGet K_Locks_init 47 = (47, false, .return_, 1, mcX0) := rfl
theorem kf_Locks_aloneOfOthers_0 : mcGet K_Locks_aloneOfOthers 0 = (0, false, .lconst 0, 1, mcX0) := rfl
theorem kf_Locks_aloneOfOthers_1 : mcGet K_Locks_aloneOfOthers 1 = (1, false, .lstore_n 3, 1, mcX0) := rfl
theorem kf_Locks_aloneOfOthers_2 : mcGet K_Locks_aloneOfOthers 2 = (2, false, .iconst 0, 1, mcX0) := rfl
theorem kf_Locks_aloneOfOthers_3 : mcGet K_Locks_aloneOfOthers 3 = (3, false, .istore 5, 2, mcX0) := rfl
theorem kf_Locks_aloneOfOthers_5 : mcGet K_Locks_aloneOfOthers 5 = (5, true, .iload 5, 2, mcX0) := rfl
theorem kf_Locks_aloneOfOthers_7 : mcGet K_Locks_aloneOfOthers 7 = (7, false, .iconst 4, 1, mcX0) := rfl
theorem kf_Locks_aloneOfOthers_8 : mcGet K_Locks_aloneOfOthers 8 = (8, false, .if_icmp .ge 46, 3, (54, 0, [], [])) := rfl
theorem kf_Locks_aloneOfOthers_11 : mcGet K_Locks_aloneOfOthers 11 = (11, false, .iload 5, 2, mcX0) := rfl
theorem kf_Locks_aloneOfOthers_13 : mcGet K_Locks_aloneOfOthers 13 = (13, false, .bipush 32, 2, mcX0) := rfl
theorem kf_Locks_aloneOfOthers_15 : mcGet K_Locks_aloneOfOthers 15 = (15, false, .imul, 1, mcX0) := rfl
theorem kf_Locks_aloneOfOthers_16 : mcGet K_Locks_aloneOfOthers 16 = (16, false, .iload_n 2, 1, mcX0) := rfl
theorem kf_Locks_aloneOfOthers_17 : mcGet K_Locks_aloneOfOthers 17 = (17, false, .iadd, 1, mcX0) := rfl
theorem kf_Locks_aloneOfOthers_18 : mcGet K_Locks_aloneOfOthers 18 = (18, false, .istore 6, 2, mcX0) := rfl
theorem kf_Locks_aloneOfOthers_20 : mcGet K_Locks_aloneOfOthers 20 = (20, false, .lload_n 3, 1, mcX0) := rfl
theorem kf_Locks_aloneOfOthers_21 : mcGet K_Locks_aloneOfOthers 21 = (21, false, .iload 5, 2, mcX0) := rfl
theorem kf_Locks_aloneOfOthers_23 : mcGet K_Locks_aloneOfOthers 23 = (23, false, .iload_n 1, 1, mcX0) := rfl
theorem kf_Locks_aloneOfOthers_24 : mcGet K_Locks_aloneOfOthers 24 = (24, false, .if_icmp .ne 7, 3, (31, 0, [], [])) := rfl
theorem kf_Locks_aloneOfOthers_27 : mcGet K_Locks_aloneOfOthers 27 = (27, false, .lconst 0, 1, mcX0) := rfl
theorem kf_Locks_aloneOfOthers_28 : mcGet K_Locks_aloneOfOthers 28 = (28, false, .goto 18, 3, (46, 0, [], [])) := rfl
theorem kf_Locks_aloneOfOthers_31 : mcGet K_Locks_aloneOfOthers 31 = (31, false, .aload_n 0, 1, mcX0) := rfl
theorem kf_Locks_aloneOfOthers_32 : mcGet K_Locks_aloneOfOthers 32 = (32, false, .getfield 15, 3, (2, 1, [178, 1], [])) := rfl
theorem kf_Locks_aloneOfOthers_35 : mcGet K_Locks_aloneOfOthers 35 = (35, false, .iload 6, 2, mcX0) := rfl
theorem kf_Locks_aloneOfOthers_37 : mcGet K_Locks_aloneOfOthers 37 = (37, false, .laload, 1, mcX0) := rfl
theorem kf_Locks_aloneOfOthers_38 : mcGet K_Locks_aloneOfOthers 38 = (38, false, .aload_n 0, 1, mcX0) := rfl
theorem kf_Locks_aloneOfOthers_39 : mcGet K_Locks_aloneOfOthers 39 = (39, false, .getfield 21, 3, (2, 3, [180, 1], [])) := rfl
theorem kf_Locks_aloneOfOthers_42 : mcGet K_Locks_aloneOfOthers 42 = (42, false, .iload 6, 2, mcX0) := rfl
theorem kf_Locks_aloneOfOthers_44 : mcGet K_Locks_aloneOfOthers 44 = (44, false, .laload, 1, mcX0) := rfl
theorem kf_Locks_aloneOfOthers_45 : mcGet K_Locks_aloneOfOthers 45 = (45, false, .lor, 1, mcX0) := rfl
theorem kf_Locks_aloneOfOthers_46 : mcGet K_Locks_aloneOfOthers 46 = (46, false, .lor, 1, mcX0) := rfl
theorem kf_Locks_aloneOfOthers_47 : mcGet K_Locks_aloneOfOthers 47 = (47, false, .lstore_n 3, 1, mcX0) := rfl
theorem kf_Locks_aloneOfOthers_48 : mcGet K_Locks_aloneOfOthers 48 = (48, false, .iinc 5 1, 3, mcX0) := rfl
theorem kf_Locks_aloneOfOthers_51 : mcGet K_Locks_aloneOfOthers 51 = (51, false, .goto (-46), 3, (5, 0, [], [])) := rfl
theorem kf_Locks_aloneOfOthers_54 : mcGet K_Locks_aloneOfOthers 54 = (54, false, .lload_n 3, 1, mcX0) := rfl
theorem kf_Locks_aloneOfOthers_55 : mcGet K_Locks_aloneOfOthers 55 = (55, false, .lreturn, 1, mcX0) := rfl
theorem kf_Locks_anyOfOthers_0 : mcGet K_Locks_anyOfOthers 0 = (0, false, .aload_n 0, 1, mcX0) := rfl
theorem kf_Locks_anyOfOthers_1 : mcGet K_Locks_anyOfOthers 1 = (1, false, .iload_n 1, 1, mcX0) := rfl
theorem kf_Locks_anyOfOthers_2 : mcGet K_Locks_anyOfOthers 2 = (2, false, .iload_n 2, 1, mcX0) := rfl
theorem kf_Locks_anyOfOthers_3 : mcGet K_Locks_anyOfOthers 3 = (3, false, .invokevirtual 34, 3, (2, 3, [687, 664, 59, 666, 665, 7], [M_Locks_aloneOfOthers])) := rfl
theorem kf_Locks_anyOfOthers_6 : mcGet K_Locks_anyOfOthers 6 = (6, false, .lstore_n 3, 1, mcX0) := rfl
theorem kf_Locks_anyOfOthers_7 : mcGet K_Locks_anyOfOthers 7 = (7, false, .iconst 0, 1, mcX0) := rfl
theorem kf_Locks_anyOfOthers_8 : mcGet K_Locks_anyOfOthers 8 = (8, false, .istore 5, 2, mcX0) := rfl
theorem kf_Locks_anyOfOthers_10 : mcGet K_Locks_anyOfOthers 10 = (10, true, .iload 5, 2, mcX0) := rfl
theorem kf_Locks_anyOfOthers_12 : mcGet K_Locks_anyOfOthers 12 = (12, false, .iconst 4, 1, mcX0) := rfl
theorem kf_Locks_anyOfOthers_13 : mcGet K_Locks_anyOfOthers 13 = (13, false, .if_icmp .ge 46, 3, (59, 0, [], [])) := rfl
theorem kf_Locks_anyOfOthers_16 : mcGet K_Locks_anyOfOthers 16 = (16, false, .iload 5, 2, mcX0) := rfl
theorem kf_Locks_anyOfOthers_18 : mcGet K_Locks_anyOfOthers 18 = (18, false, .bipush 32, 2, mcX0) := rfl
theorem kf_Locks_anyOfOthers_20 : mcGet K_Locks_anyOfOthers 20 = (20, false, .imul, 1, mcX0) := rfl
theorem kf_Locks_anyOfOthers_21 : mcGet K_Locks_anyOfOthers 21 = (21, false, .iload_n 2, 1, mcX0) := rfl
theorem kf_Locks_anyOfOthers_22 : mcGet K_Locks_anyOfOthers 22 = (22, false, .iadd, 1, mcX0) := rfl
theorem kf_Locks_anyOfOthers_23 : mcGet K_Locks_anyOfOthers 23 = (23, false, .istore 6, 2, mcX0) := rfl
theorem kf_Locks_anyOfOthers_25 : mcGet K_Locks_anyOfOthers 25 = (25, false, .lload_n 3, 1, mcX0) := rfl
theorem kf_Locks_anyOfOthers_26 : mcGet K_Locks_anyOfOthers 26 = (26, false, .iload 5, 2, mcX0) := rfl
theorem kf_Locks_anyOfOthers_28 : mcGet K_Locks_anyOfOthers 28 = (28, false, .iload_n 1, 1, mcX0) := rfl
theorem kf_Locks_anyOfOthers_29 : mcGet K_Locks_anyOfOthers 29 = (29, false, .if_icmp .ne 7, 3, (36, 0, [], [])) := rfl
theorem kf_Locks_anyOfOthers_32 : mcGet K_Locks_anyOfOthers 32 = (32, false, .lconst 0, 1, mcX0) := rfl
theorem kf_Locks_anyOfOthers_33 : mcGet K_Locks_anyOfOthers 33 = (33, false, .goto 18, 3, (51, 0, [], [])) := rfl
theorem kf_Locks_anyOfOthers_36 : mcGet K_Locks_anyOfOthers 36 = (36, false, .aload_n 0, 1, mcX0) := rfl
theorem kf_Locks_anyOfOthers_37 : mcGet K_Locks_anyOfOthers 37 = (37, false, .getfield 9, 3, (2, 0, [177, 1], [])) := rfl
theorem kf_Locks_anyOfOthers_40 : mcGet K_Locks_anyOfOthers 40 = (40, false, .iload 6, 2, mcX0) := rfl
theorem kf_Locks_anyOfOthers_42 : mcGet K_Locks_anyOfOthers 42 = (42, false, .laload, 1, mcX0) := rfl
theorem kf_Locks_anyOfOthers_43 : mcGet K_Locks_anyOfOthers 43 = (43, false, .aload_n 0, 1, mcX0) := rfl
theorem kf_Locks_anyOfOthers_44 : mcGet K_Locks_anyOfOthers 44 = (44, false, .getfield 18, 3, (2, 2, [179, 1], [])) := rfl
theorem kf_Locks_anyOfOthers_47 : mcGet K_Locks_anyOfOthers 47 = (47, false, .iload 6, 2, mcX0) := rfl
theorem kf_Locks_anyOfOthers_49 : mcGet K_Locks_anyOfOthers 49 = (49, false, .laload, 1, mcX0) := rfl
theorem kf_Locks_anyOfOthers_50 : mcGet K_Locks_anyOfOthers 50 = (50, false, .lor, 1, mcX0) := rfl
theorem kf_Locks_anyOfOthers_51 : mcGet K_Locks_anyOfOthers 51 = (51, false, .lor, 1, mcX0) := rfl
theorem kf_Locks_anyOfOthers_52 : mcGet K_Locks_anyOfOthers 52 = (52, false, .lstore_n 3, 1, mcX0) := rfl
theorem kf_Locks_anyOfOthers_53 : mcGet K_Locks_anyOfOthers 53 = (53, false, .iinc 5 1, 3, mcX0) := rfl
theorem kf_Locks_anyOfOthers_56 : mcGet K_Locks_anyOfOthers 56 = (56, false, .goto (-46), 3, (10, 0, [], [])) := rfl
theorem kf_Locks_anyOfOthers_59 : mcGet K_Locks_anyOfOthers 59 = (59, false, .lload_n 3, 1, mcX0) := rfl
theorem kf_Locks_anyOfOthers_60 : mcGet K_Locks_anyOfOthers 60 = (60, false, .lreturn, 1, mcX0) := rfl
theorem kf_Locks_becomeFormer_0 : mcGet K_Locks_becomeFormer 0 = (0, false, .iconst 0, 1, mcX0) := rfl
theorem kf_Locks_becomeFormer_1 : mcGet K_Locks_becomeFormer 1 = (1, false, .istore_n 1, 1, mcX0) := rfl
theorem kf_Locks_becomeFormer_2 : mcGet K_Locks_becomeFormer 2 = (2, true, .iload_n 1, 1, mcX0) := rfl
theorem kf_Locks_becomeFormer_3 : mcGet K_Locks_becomeFormer 3 = (3, false, .sipush 128, 3, mcX0) := rfl
theorem kf_Locks_becomeFormer_6 : mcGet K_Locks_becomeFormer 6 = (6, false, .if_icmp .ge 39, 3, (45, 0, [], [])) := rfl
theorem kf_Locks_becomeFormer_9 : mcGet K_Locks_becomeFormer 9 = (9, false, .aload_n 0, 1, mcX0) := rfl
theorem kf_Locks_becomeFormer_10 : mcGet K_Locks_becomeFormer 10 = (10, false, .getfield 18, 3, (2, 2, [179, 1], [])) := rfl
theorem kf_Locks_becomeFormer_13 : mcGet K_Locks_becomeFormer 13 = (13, false, .iload_n 1, 1, mcX0) := rfl
theorem kf_Locks_becomeFormer_14 : mcGet K_Locks_becomeFormer 14 = (14, false, .dup2, 1, mcX0) := rfl
theorem kf_Locks_becomeFormer_15 : mcGet K_Locks_becomeFormer 15 = (15, false, .laload, 1, mcX0) := rfl
theorem kf_Locks_becomeFormer_16 : mcGet K_Locks_becomeFormer 16 = (16, false, .aload_n 0, 1, mcX0) := rfl
theorem kf_Locks_becomeFormer_17 : mcGet K_Locks_becomeFormer 17 = (17, false, .getfield 9, 3, (2, 0, [177, 1], [])) := rfl
theorem kf_Locks_becomeFormer_20 : mcGet K_Locks_becomeFormer 20 = (20, false, .iload_n 1, 1, mcX0) := rfl
theorem kf_Locks_becomeFormer_21 : mcGet K_Locks_becomeFormer 21 = (21, false, .laload, 1, mcX0) := rfl
theorem kf_Locks_becomeFormer_22 : mcGet K_Locks_becomeFormer 22 = (22, false, .lor, 1, mcX0) := rfl
theorem kf_Locks_becomeFormer_23 : mcGet K_Locks_becomeFormer 23 = (23, false, .lastore, 1, mcX0) := rfl
theorem kf_Locks_becomeFormer_24 : mcGet K_Locks_becomeFormer 24 = (24, false, .aload_n 0, 1, mcX0) := rfl
theorem kf_Locks_becomeFormer_25 : mcGet K_Locks_becomeFormer 25 = (25, false, .getfield 21, 3, (2, 3, [180, 1], [])) := rfl
theorem kf_Locks_becomeFormer_28 : mcGet K_Locks_becomeFormer 28 = (28, false, .iload_n 1, 1, mcX0) := rfl
theorem kf_Locks_becomeFormer_29 : mcGet K_Locks_becomeFormer 29 = (29, false, .dup2, 1, mcX0) := rfl
theorem kf_Locks_becomeFormer_30 : mcGet K_Locks_becomeFormer 30 = (30, false, .laload, 1, mcX0) := rfl
theorem kf_Locks_becomeFormer_31 : mcGet K_Locks_becomeFormer 31 = (31, false, .aload_n 0, 1, mcX0) := rfl
theorem kf_Locks_becomeFormer_32 : mcGet K_Locks_becomeFormer 32 = (32, false, .getfield 15, 3, (2, 1, [178, 1], [])) := rfl
theorem kf_Locks_becomeFormer_35 : mcGet K_Locks_becomeFormer 35 = (35, false, .iload_n 1, 1, mcX0) := rfl
theorem kf_Locks_becomeFormer_36 : mcGet K_Locks_becomeFormer 36 = (36, false, .laload, 1, mcX0) := rfl
theorem kf_Locks_becomeFormer_37 : mcGet K_Locks_becomeFormer 37 = (37, false, .lor, 1, mcX0) := rfl
theorem kf_Locks_becomeFormer_38 : mcGet K_Locks_becomeFormer 38 = (38, false, .lastore, 1, mcX0) := rfl
theorem kf_Locks_becomeFormer_39 : mcGet K_Locks_becomeFormer 39 = (39, false, .iinc 1 1, 3, mcX0) := rfl
theorem kf_Locks_becomeFormer_42 : mcGet K_Locks_becomeFormer 42 = (42, false, .goto (-40), 3, (2, 0, [], [])) := rfl
theorem kf_Locks_becomeFormer_45 : mcGet K_Locks_becomeFormer 45 = (45, false, .iconst 0, 1, mcX0) := rfl
theorem kf_Locks_becomeFormer_46 : mcGet K_Locks_becomeFormer 46 = (46, false, .istore_n 1, 1, mcX0) := rfl
theorem kf_Locks_becomeFormer_47 : mcGet K_Locks_becomeFormer 47 = (47, true, .iload_n 1, 1, mcX0) := rfl
theorem kf_Locks_becomeFormer_48 : mcGet K_Locks_becomeFormer 48 = (48, false, .iconst 4, 1, mcX0) := rfl
theorem kf_Locks_becomeFormer_49 : mcGet K_Locks_becomeFormer 49 = (49, false, .if_icmp .ge 14, 3, (63, 0, [], [])) := rfl
theorem kf_Locks_becomeFormer_52 : mcGet K_Locks_becomeFormer 52 = (52, false, .aload_n 0, 1, mcX0) := rfl
theorem kf_Locks_becomeFormer_53 : mcGet K_Locks_becomeFormer 53 = (53, false, .iload_n 1, 1, mcX0) := rfl
theorem kf_Locks_becomeFormer_54 : mcGet K_Locks_becomeFormer 54 = (54, false, .invokevirtual 44, 3, (2, 2, [563, 564, 59, 566, 565, 3], [M_Locks_endLease])) := rfl
theorem kf_Locks_becomeFormer_57 : mcGet K_Locks_becomeFormer 57 = (57, false, .iinc 1 1, 3, mcX0) := rfl
theorem kf_Locks_becomeFormer_60 : mcGet K_Locks_becomeFormer 60 = (60, false, .goto (-13), 3, (47, 0, [], [])) := rfl
theorem kf_Locks_becomeFormer_63 : mcGet K_Locks_becomeFormer 63 = (63, false, .return_, 1, mcX0) := rfl
theorem kf_Locks_copyFrom_0 : mcGet K_Locks_copyFrom 0 = (0, false, .aload_n 1, 1, mcX0) := rfl
theorem kf_Locks_copyFrom_1 : mcGet K_Locks_copyFrom 1 = (1, false, .getfield 9, 3, (2, 0, [177, 1], [])) := rfl
theorem kf_Locks_copyFrom_4 : mcGet K_Locks_copyFrom 4 = (4, false, .iconst 0, 1, mcX0) := rfl
theorem kf_Locks_copyFrom_5 : mcGet K_Locks_copyFrom 5 = (5, false, .aload_n 0, 1, mcX0) := rfl
theorem kf_Locks_copyFrom_6 : mcGet K_Locks_copyFrom 6 = (6, false, .getfield 9, 3, (2, 0, [177, 1], [])) := rfl
theorem kf_Locks_copyFrom_9 : mcGet K_Locks_copyFrom 9 = (9, false, .iconst 0, 1, mcX0) := rfl
theorem kf_Locks_copyFrom_10 : mcGet K_Locks_copyFrom 10 = (10, false, .sipush 128, 3, mcX0) := rfl
theorem kf_Locks_copyFrom_13 : mcGet K_Locks_copyFrom 13 = (13, false, .invokestatic 28, 3, (0, 0, [786, 530, 69, 531], [])) := rfl
theorem kf_Locks_copyFrom_16 : mcGet K_Locks_copyFrom 16 = (16, false, .aload_n 1, 1, mcX0) := rfl
theorem kf_Locks_copyFrom_17 : mcGet K_Locks_copyFrom 17 = (17, false, .getfield 15, 3, (2, 1, [178, 1], [])) := rfl
theorem kf_Locks_copyFrom_20 : mcGet K_Locks_copyFrom 20 = (20, false, .iconst 0, 1, mcX0) := rfl
theorem kf_Locks_copyFrom_21 : mcGet K_Locks_copyFrom 21 = (21, false, .aload_n 0, 1, mcX0) := rfl
theorem kf_Locks_copyFrom_22 : mcGet K_Locks_copyFrom 22 = (22, false, .getfield 15, 3, (2, 1, [178, 1], [])) := rfl
theorem kf_Locks_copyFrom_25 : mcGet K_Locks_copyFrom 25 = (25, false, .iconst 0, 1, mcX0) := rfl
theorem kf_Locks_copyFrom_26 : mcGet K_Locks_copyFrom 26 = (26, false, .sipush 128, 3, mcX0) := rfl
theorem kf_Locks_copyFrom_29 : mcGet K_Locks_copyFrom 29 = (29, false, .invokestatic 28, 3, (0, 0, [786, 530, 69, 531], [])) := rfl
theorem kf_Locks_copyFrom_32 : mcGet K_Locks_copyFrom 32 = (32, false, .aload_n 1, 1, mcX0) := rfl
theorem kf_Locks_copyFrom_33 : mcGet K_Locks_copyFrom 33 = (33, false, .getfield 18, 3, (2, 2, [179, 1], [])) := rfl
theorem kf_Locks_copyFrom_36 : mcGet K_Locks_copyFrom 36 = (36, false, .iconst 0, 1, mcX0) := rfl
theorem kf_Locks_copyFrom_37 : mcGet K_Locks_copyFrom 37 = (37, false, .aload_n 0, 1, mcX0) := rfl
theorem kf_Locks_copyFrom_38 : mcGet K_Locks_copyFrom 38 = (38, false, .getfield 18, 3, (2, 2, [179, 1], [])) := rfl
theorem kf_Locks_copyFrom_41 : mcGet K_Locks_copyFrom 41 = (41, false, .iconst 0, 1, mcX0) := rfl
theorem kf_Locks_copyFrom_42 : mcGet K_Locks_copyFrom 42 = (42, false, .sipush 128, 3, mcX0) := rfl
theorem kf_Locks_copyFrom_45 : mcGet K_Locks_copyFrom 45 = (45, false, .invokestatic 28, 3, (0, 0, [786, 530, 69, 531], [])) := rfl
theorem kf_Locks_copyFrom_48 : mcGet K_Locks_copyFrom 48 = (48, false, .aload_n 1, 1, mcX0) := rfl
theorem kf_Locks_copyFrom_49 : mcGet K_Locks_copyFrom 49 = (49, false, .getfield 21, 3, (2, 3, [180, 1], [])) := rfl
theorem kf_Locks_copyFrom_52 : mcGet K_Locks_copyFrom 52 = (52, false, .iconst 0, 1, mcX0) := rfl
theorem kf_Locks_copyFrom_53 : mcGet K_Locks_copyFrom 53 = (53, false, .aload_n 0, 1, mcX0) := rfl
theorem kf_Locks_copyFrom_54 : mcGet K_Locks_copyFrom 54 = (54, false, .getfield 21, 3, (2, 3, [180, 1], [])) := rfl
theorem kf_Locks_copyFrom_57 : mcGet K_Locks_copyFrom 57 = (57, false, .iconst 0, 1, mcX0) := rfl
theorem kf_Locks_copyFrom_58 : mcGet K_Locks_copyFrom 58 = (58, false, .sipush 128, 3, mcX0) := rfl
theorem kf_Locks_copyFrom_61 : mcGet K_Locks_copyFrom 61 = (61, false, .invokestatic 28, 3, (0, 0, [786, 530, 69, 531], [])) := rfl
theorem kf_Locks_copyFrom_64 : mcGet K_Locks_copyFrom 64 = (64, false, .aload_n 1, 1, mcX0) := rfl
theorem kf_Locks_copyFrom_65 : mcGet K_Locks_copyFrom 65 = (65, false, .getfield 24, 3, (2, 4, [181, 1], [])) := rfl
theorem kf_Locks_copyFrom_68 : mcGet K_Locks_copyFrom 68 = (68, false, .iconst 0, 1, mcX0) := rfl
theorem kf_Locks_copyFrom_69 : mcGet K_Locks_copyFrom 69 = (69, false, .aload_n 0, 1, mcX0) := rfl
theorem kf_Locks_copyFrom_70 : mcGet K_Locks_copyFrom 70 = (70, false, .getfield 24, 3, (2, 4, [181, 1], [])) := rfl
theorem kf_Locks_copyFrom_73 : mcGet K_Locks_copyFrom 73 = (73, false, .iconst 0, 1, mcX0) := rfl
theorem kf_Locks_copyFrom_74 : mcGet K_Locks_copyFrom 74 = (74, false, .iconst 4, 1, mcX0) := rfl
theorem kf_Locks_copyFrom_75 : mcGet K_Locks_copyFrom 75 = (75, false, .invokestatic 28, 3, (0, 0, [786, 530, 69, 531], [])) := rfl
theorem kf_Locks_copyFrom_78 : mcGet K_Locks_copyFrom 78 = (78, false, .return_, 1, mcX0) := rfl
theorem kf_Locks_deleteClient_0 : mcGet K_Locks_deleteClient 0 = (0, false, .aload_n 0, 1, mcX0) := rfl
theorem kf_Locks_deleteClient_1 : mcGet K_Locks_deleteClient 1 = (1, false, .iload_n 1, 1, mcX0) := rfl
theorem kf_Locks_deleteClient_2 : mcGet K_Locks_deleteClient 2 = (2, false, .invokevirtual 44, 3, (2, 2, [563, 564, 59, 566, 565, 3], [M_Locks_endLease])) := rfl
theorem kf_Locks_deleteClient_5 : mcGet K_Locks_deleteClient 5 = (5, false, .iload_n 1, 1, mcX0) := rfl
theorem kf_Locks_deleteClient_6 : mcGet K_Locks_deleteClient 6 = (6, false, .bipush 32, 2, mcX0) := rfl
theorem kf_Locks_deleteClient_8 : mcGet K_Locks_deleteClient 8 = (8, false, .imul, 1, mcX0) := rfl
theorem kf_Locks_deleteClient_9 : mcGet K_Locks_deleteClient 9 = (9, false, .istore_n 2, 1, mcX0) := rfl
theorem kf_Locks_deleteClient_10 : mcGet K_Locks_deleteClient 10 = (10, true, .iload_n 2, 1, mcX0) := rfl
theorem kf_Locks_deleteClient_11 : mcGet K_Locks_deleteClient 11 = (11, false, .iload_n 1, 1, mcX0) := rfl
theorem kf_Locks_deleteClient_12 : mcGet K_Locks_deleteClient 12 = (12, false, .iconst 1, 1, mcX0) := rfl
theorem kf_Locks_deleteClient_13 : mcGet K_Locks_deleteClient 13 = (13, false, .iadd, 1, mcX0) := rfl
theorem kf_Locks_deleteClient_14 : mcGet K_Locks_deleteClient 14 = (14, false, .bipush 32, 2, mcX0) := rfl
theorem kf_Locks_deleteClient_16 : mcGet K_Locks_deleteClient 16 = (16, false, .imul, 1, mcX0) := rfl
theorem kf_Locks_deleteClient_17 : mcGet K_Locks_deleteClient 17 = (17, false, .if_icmp .ge 23, 3, (40, 0, [], [])) := rfl
theorem kf_Locks_deleteClient_20 : mcGet K_Locks_deleteClient 20 = (20, false, .aload_n 0, 1, mcX0) := rfl
theorem kf_Locks_deleteClient_21 : mcGet K_Locks_deleteClient 21 = (21, false, .getfield 18, 3, (2, 2, [179, 1], [])) := rfl
theorem kf_Locks_deleteClient_24 : mcGet K_Locks_deleteClient 24 = (24, false, .iload_n 2, 1, mcX0) := rfl
theorem kf_Locks_deleteClient_25 : mcGet K_Locks_deleteClient 25 = (25, false, .lconst 0, 1, mcX0) := rfl
theorem kf_Locks_deleteClient_26 : mcGet K_Locks_deleteClient 26 = (26, false, .lastore, 1, mcX0) := rfl
theorem kf_Locks_deleteClient_27 : mcGet K_Locks_deleteClient 27 = (27, false, .aload_n 0, 1, mcX0) := rfl
theorem kf_Locks_deleteClient_28 : mcGet K_Locks_deleteClient 28 = (28, false, .getfield 21, 3, (2, 3, [180, 1], [])) := rfl
theorem kf_Locks_deleteClient_31 : mcGet K_Locks_deleteClient 31 = (31, false, .iload_n 2, 1, mcX0) := rfl
theorem kf_Locks_deleteClient_32 : mcGet K_Locks_deleteClient 32 = (32, false, .lconst 0, 1, mcX0) := rfl
theorem kf_Locks_deleteClient_33 : mcGet K_Locks_deleteClient 33 = (33, false, .lastore, 1, mcX0) := rfl
theorem kf_Locks_deleteClient_34 : mcGet K_Locks_deleteClient 34 = (34, false, .iinc 2 1, 3, mcX0) := rfl
theorem kf_Locks_deleteClient_37 : mcGet K_Locks_deleteClient 37 = (37, false, .goto (-27), 3, (10, 0, [], [])) := rfl
theorem kf_Locks_deleteClient_40 : mcGet K_Locks_deleteClient 40 = (40, false, .return_, 1, mcX0) := rfl
theorem kf_Locks_deleteFormer_0 : mcGet K_Locks_deleteFormer 0 = (0, false, .aload_n 0, 1, mcX0) := rfl
theorem kf_Locks_deleteFormer_1 : mcGet K_Locks_deleteFormer 1 = (1, false, .getfield 18, 3, (2, 2, [179, 1], [])) := rfl
theorem kf_Locks_deleteFormer_4 : mcGet K_Locks_deleteFormer 4 = (4, false, .lconst 0, 1, mcX0) := rfl
theorem kf_Locks_deleteFormer_5 : mcGet K_Locks_deleteFormer 5 = (5, false, .invokestatic 54, 3, (0, 2, [872, 873, 58, 874, 0, 5], [M_Arrays_fill_1])) := rfl
theorem kf_Locks_deleteFormer_8 : mcGet K_Locks_deleteFormer 8 = (8, false, .aload_n 0, 1, mcX0) := rfl
theorem kf_Locks_deleteFormer_9 : mcGet K_Locks_deleteFormer 9 = (9, false, .getfield 21, 3, (2, 3, [180, 1], [])) := rfl
theorem kf_Locks_deleteFormer_12 : mcGet K_Locks_deleteFormer 12 = (12, false, .lconst 0, 1, mcX0) := rfl
theorem kf_Locks_deleteFormer_13 : mcGet K_Locks_deleteFormer 13 = (13, false, .invokestatic 54, 3, (0, 2, [872, 873, 58, 874, 0, 5], [M_Arrays_fill_1])) := rfl
theorem kf_Locks_deleteFormer_16 : mcGet K_Locks_deleteFormer 16 = (16, false, .return_, 1, mcX0) := rfl
theorem kf_Locks_deleteNode_0 : mcGet K_Locks_deleteNode 0 = (0, false, .iconst 0, 1, mcX0) := rfl
theorem kf_Locks_deleteNode_1 : mcGet K_Locks_deleteNode 1 = (1, false, .istore_n 2, 1, mcX0) := rfl
theorem kf_Locks_deleteNode_2 : mcGet K_Locks_deleteNode 2 = (2, true, .iload_n 2, 1, mcX0) := rfl
theorem kf_Locks_deleteNode_3 : mcGet K_Locks_deleteNode 3 = (3, false, .iconst 4, 1, mcX0) := rfl
theorem kf_Locks_deleteNode_4 : mcGet K_Locks_deleteNode 4 = (4, false, .if_icmp .ge 44, 3, (48, 0, [], [])) := rfl
theorem kf_Locks_deleteNode_7 : mcGet K_Locks_deleteNode 7 = (7, false, .iload_n 2, 1, mcX0) := rfl
theorem kf_Locks_deleteNode_8 : mcGet K_Locks_deleteNode 8 = (8, false, .bipush 32, 2, mcX0) := rfl
theorem kf_Locks_deleteNode_10 : mcGet K_Locks_deleteNode 10 = (10, false, .imul, 1, mcX0) := rfl
theorem kf_Locks_deleteNode_11 : mcGet K_Locks_deleteNode 11 = (11, false, .iload_n 1, 1, mcX0) := rfl
theorem kf_Locks_deleteNode_12 : mcGet K_Locks_deleteNode 12 = (12, false, .iadd, 1, mcX0) := rfl
theorem kf_Locks_deleteNode_13 : mcGet K_Locks_deleteNode 13 = (13, false, .istore_n 3, 1, mcX0) := rfl
theorem kf_Locks_deleteNode_14 : mcGet K_Locks_deleteNode 14 = (14, false, .aload_n 0, 1, mcX0) := rfl
theorem kf_Locks_deleteNode_15 : mcGet K_Locks_deleteNode 15 = (15, false, .getfield 9, 3, (2, 0, [177, 1], [])) := rfl
theorem kf_Locks_deleteNode_18 : mcGet K_Locks_deleteNode 18 = (18, false, .iload_n 3, 1, mcX0) := rfl
theorem kf_Locks_deleteNode_19 : mcGet K_Locks_deleteNode 19 = (19, false, .lconst 0, 1, mcX0) := rfl
theorem kf_Locks_deleteNode_20 : mcGet K_Locks_deleteNode 20 = (20, false, .lastore, 1, mcX0) := rfl
theorem kf_Locks_deleteNode_21 : mcGet K_Locks_deleteNode 21 = (21, false, .aload_n 0, 1, mcX0) := rfl
theorem kf_Locks_deleteNode_22 : mcGet K_Locks_deleteNode 22 = (22, false, .getfield 15, 3, (2, 1, [178, 1], [])) := rfl
theorem kf_Locks_deleteNode_25 : mcGet K_Locks_deleteNode 25 = (25, false, .iload_n 3, 1, mcX0) := rfl
theorem kf_Locks_deleteNode_26 : mcGet K_Locks_deleteNode 26 = (26, false, .lconst 0, 1, mcX0) := rfl
theorem kf_Locks_deleteNode_27 : mcGet K_Locks_deleteNode 27 = (27, false, .lastore, 1, mcX0) := rfl
theorem kf_Locks_deleteNode_28 : mcGet K_Locks_deleteNode 28 = (28, false, .aload_n 0, 1, mcX0) := rfl
theorem kf_Locks_deleteNode_29 : mcGet K_Locks_deleteNode 29 = (29, false, .getfield 18, 3, (2, 2, [179, 1], [])) := rfl
theorem kf_Locks_deleteNode_32 : mcGet K_Locks_deleteNode 32 = (32, false, .iload_n 3, 1, mcX0) := rfl
theorem kf_Locks_deleteNode_33 : mcGet K_Locks_deleteNode 33 = (33, false, .lconst 0, 1, mcX0) := rfl
theorem kf_Locks_deleteNode_34 : mcGet K_Locks_deleteNode 34 = (34, false, .lastore, 1, mcX0) := rfl
theorem kf_Locks_deleteNode_35 : mcGet K_Locks_deleteNode 35 = (35, false, .aload_n 0, 1, mcX0) := rfl
theorem kf_Locks_deleteNode_36 : mcGet K_Locks_deleteNode 36 = (36, false, .getfield 21, 3, (2, 3, [180, 1], [])) := rfl
theorem kf_Locks_deleteNode_39 : mcGet K_Locks_deleteNode 39 = (39, false, .iload_n 3, 1, mcX0) := rfl
theorem kf_Locks_deleteNode_40 : mcGet K_Locks_deleteNode 40 = (40, false, .lconst 0, 1, mcX0) := rfl
theorem kf_Locks_deleteNode_41 : mcGet K_Locks_deleteNode 41 = (41, false, .lastore, 1, mcX0) := rfl
theorem kf_Locks_deleteNode_42 : mcGet K_Locks_deleteNode 42 = (42, false, .iinc 2 1, 3, mcX0) := rfl
theorem kf_Locks_deleteNode_45 : mcGet K_Locks_deleteNode 45 = (45, false, .goto (-43), 3, (2, 0, [], [])) := rfl
theorem kf_Locks_deleteNode_48 : mcGet K_Locks_deleteNode 48 = (48, false, .return_, 1, mcX0) := rfl
theorem kf_Locks_endLease_0 : mcGet K_Locks_endLease 0 = (0, false, .iload_n 1, 1, mcX0) := rfl
theorem kf_Locks_endLease_1 : mcGet K_Locks_endLease 1 = (1, false, .bipush 32, 2, mcX0) := rfl
theorem kf_Locks_endLease_3 : mcGet K_Locks_endLease 3 = (3, false, .imul, 1, mcX0) := rfl
theorem kf_Locks_endLease_4 : mcGet K_Locks_endLease 4 = (4, false, .istore_n 2, 1, mcX0) := rfl
theorem kf_Locks_endLease_5 : mcGet K_Locks_endLease 5 = (5, true, .iload_n 2, 1, mcX0) := rfl
theorem kf_Locks_endLease_6 : mcGet K_Locks_endLease 6 = (6, false, .iload_n 1, 1, mcX0) := rfl
theorem kf_Locks_endLease_7 : mcGet K_Locks_endLease 7 = (7, false, .iconst 1, 1, mcX0) := rfl
theorem kf_Locks_endLease_8 : mcGet K_Locks_endLease 8 = (8, false, .iadd, 1, mcX0) := rfl
theorem kf_Locks_endLease_9 : mcGet K_Locks_endLease 9 = (9, false, .bipush 32, 2, mcX0) := rfl
theorem kf_Locks_endLease_11 : mcGet K_Locks_endLease 11 = (11, false, .imul, 1, mcX0) := rfl
theorem kf_Locks_endLease_12 : mcGet K_Locks_endLease 12 = (12, false, .if_icmp .ge 23, 3, (35, 0, [], [])) := rfl
theorem kf_Locks_endLease_15 : mcGet K_Locks_endLease 15 = (15, false, .aload_n 0, 1, mcX0) := rfl
theorem kf_Locks_endLease_16 : mcGet K_Locks_endLease 16 = (16, false, .getfield 9, 3, (2, 0, [177, 1], [])) := rfl
theorem kf_Locks_endLease_19 : mcGet K_Locks_endLease 19 = (19, false, .iload_n 2, 1, mcX0) := rfl
theorem kf_Locks_endLease_20 : mcGet K_Locks_endLease 20 = (20, false, .lconst 0, 1, mcX0) := rfl
theorem kf_Locks_endLease_21 : mcGet K_Locks_endLease 21 = (21, false, .lastore, 1, mcX0) := rfl
theorem kf_Locks_endLease_22 : mcGet K_Locks_endLease 22 = (22, false, .aload_n 0, 1, mcX0) := rfl
theorem kf_Locks_endLease_23 : mcGet K_Locks_endLease 23 = (23, false, .getfield 15, 3, (2, 1, [178, 1], [])) := rfl
theorem kf_Locks_endLease_26 : mcGet K_Locks_endLease 26 = (26, false, .iload_n 2, 1, mcX0) := rfl
theorem kf_Locks_endLease_27 : mcGet K_Locks_endLease 27 = (27, false, .lconst 0, 1, mcX0) := rfl
theorem kf_Locks_endLease_28 : mcGet K_Locks_endLease 28 = (28, false, .lastore, 1, mcX0) := rfl
theorem kf_Locks_endLease_29 : mcGet K_Locks_endLease 29 = (29, false, .iinc 2 1, 3, mcX0) := rfl
theorem kf_Locks_endLease_32 : mcGet K_Locks_endLease 32 = (32, false, .goto (-27), 3, (5, 0, [], [])) := rfl
theorem kf_Locks_endLease_35 : mcGet K_Locks_endLease 35 = (35, false, .aload_n 0, 1, mcX0) := rfl
theorem kf_Locks_endLease_36 : mcGet K_Locks_endLease 36 = (36, false, .getfield 24, 3, (2, 4, [181, 1], [])) := rfl
theorem kf_Locks_endLease_39 : mcGet K_Locks_endLease 39 = (39, false, .iload_n 1, 1, mcX0) := rfl
theorem kf_Locks_endLease_40 : mcGet K_Locks_endLease 40 = (40, false, .iconst 0, 1, mcX0) := rfl
theorem kf_Locks_endLease_41 : mcGet K_Locks_endLease 41 = (41, false, .iastore, 1, mcX0) := rfl
theorem kf_Locks_endLease_42 : mcGet K_Locks_endLease 42 = (42, false, .return_, 1, mcX0) := rfl
theorem kf_Locks_endLeases_0 : mcGet K_Locks_endLeases 0 = (0, false, .iconst 0, 1, mcX0) := rfl
theorem kf_Locks_endLeases_1 : mcGet K_Locks_endLeases 1 = (1, false, .istore_n 2, 1, mcX0) := rfl
theorem kf_Locks_endLeases_2 : mcGet K_Locks_endLeases 2 = (2, true, .iload_n 2, 1, mcX0) := rfl
theorem kf_Locks_endLeases_3 : mcGet K_Locks_endLeases 3 = (3, false, .iconst 4, 1, mcX0) := rfl
theorem kf_Locks_endLeases_4 : mcGet K_Locks_endLeases 4 = (4, false, .if_icmp .ge 24, 3, (28, 0, [], [])) := rfl
theorem kf_Locks_endLeases_7 : mcGet K_Locks_endLeases 7 = (7, false, .iload_n 1, 1, mcX0) := rfl
theorem kf_Locks_endLeases_8 : mcGet K_Locks_endLeases 8 = (8, false, .aload_n 0, 1, mcX0) := rfl
theorem kf_Locks_endLeases_9 : mcGet K_Locks_endLeases 9 = (9, false, .getfield 24, 3, (2, 4, [181, 1], [])) := rfl
theorem kf_Locks_endLeases_12 : mcGet K_Locks_endLeases 12 = (12, false, .iload_n 2, 1, mcX0) := rfl
theorem kf_Locks_endLeases_13 : mcGet K_Locks_endLeases 13 = (13, false, .iaload, 1, mcX0) := rfl
theorem kf_Locks_endLeases_14 : mcGet K_Locks_endLeases 14 = (14, false, .if_icmp .lt 8, 3, (22, 0, [], [])) := rfl
theorem kf_Locks_endLeases_17 : mcGet K_Locks_endLeases 17 = (17, false, .aload_n 0, 1, mcX0) := rfl
theorem kf_Locks_endLeases_18 : mcGet K_Locks_endLeases 18 = (18, false, .iload_n 2, 1, mcX0) := rfl
theorem kf_Locks_endLeases_19 : mcGet K_Locks_endLeases 19 = (19, false, .invokevirtual 44, 3, (2, 2, [563, 564, 59, 566, 565, 3], [M_Locks_endLease])) := rfl
theorem kf_Locks_endLeases_22 : mcGet K_Locks_endLeases 22 = (22, false, .iinc 2 1, 3, mcX0) := rfl
theorem kf_Locks_endLeases_25 : mcGet K_Locks_endLeases 25 = (25, false, .goto (-23), 3, (2, 0, [], [])) := rfl
theorem kf_Locks_endLeases_28 : mcGet K_Locks_endLeases 28 = (28, false, .return_, 1, mcX0) := rfl
theorem kf_Locks_give_0 : mcGet K_Locks_give 0 = (0, false, .iload_n 1, 1, mcX0) := rfl
theorem kf_Locks_give_1 : mcGet K_Locks_give 1 = (1, false, .bipush 32, 2, mcX0) := rfl
theorem kf_Locks_give_3 : mcGet K_Locks_give 3 = (3, false, .imul, 1, mcX0) := rfl
theorem kf_Locks_give_4 : mcGet K_Locks_give 4 = (4, false, .iload_n 2, 1, mcX0) := rfl
theorem kf_Locks_give_5 : mcGet K_Locks_give 5 = (5, false, .iadd, 1, mcX0) := rfl
theorem kf_Locks_give_6 : mcGet K_Locks_give 6 = (6, false, .istore 6, 2, mcX0) := rfl
theorem kf_Locks_give_8 : mcGet K_Locks_give 8 = (8, false, .aload_n 0, 1, mcX0) := rfl
theorem kf_Locks_give_9 : mcGet K_Locks_give 9 = (9, false, .iload_n 1, 1, mcX0) := rfl
theorem kf_Locks_give_10 : mcGet K_Locks_give 10 = (10, false, .iload_n 2, 1, mcX0) := rfl
theorem kf_Locks_give_11 : mcGet K_Locks_give 11 = (11, false, .lload_n 3, 1, mcX0) := rfl
theorem kf_Locks_give_12 : mcGet K_Locks_give 12 = (12, false, .invokevirtual 38, 3, (2, 4, [747, 748, 59, 750, 749, 6], [M_Locks_release])) := rfl
theorem kf_Locks_give_15 : mcGet K_Locks_give 15 = (15, false, .aload_n 0, 1, mcX0) := rfl
theorem kf_Locks_give_16 : mcGet K_Locks_give 16 = (16, false, .getfield 18, 3, (2, 2, [179, 1], [])) := rfl
theorem kf_Locks_give_19 : mcGet K_Locks_give 19 = (19, false, .iload 6, 2, mcX0) := rfl
theorem kf_Locks_give_21 : mcGet K_Locks_give 21 = (21, false, .dup2, 1, mcX0) := rfl
theorem kf_Locks_give_22 : mcGet K_Locks_give 22 = (22, false, .laload, 1, mcX0) := rfl
theorem kf_Locks_give_23 : mcGet K_Locks_give 23 = (23, false, .lload_n 3, 1, mcX0) := rfl
theorem kf_Locks_give_24 : mcGet K_Locks_give 24 = (24, false, .ldc2_w 42, 3, (0, 0, [751], [])) := rfl
theorem kf_Locks_give_27 : mcGet K_Locks_give 27 = (27, false, .lxor, 1, mcX0) := rfl
theorem kf_Locks_give_28 : mcGet K_Locks_give 28 = (28, false, .land, 1, mcX0) := rfl
theorem kf_Locks_give_29 : mcGet K_Locks_give 29 = (29, false, .lastore, 1, mcX0) := rfl
theorem kf_Locks_give_30 : mcGet K_Locks_give 30 = (30, false, .aload_n 0, 1, mcX0) := rfl
theorem kf_Locks_give_31 : mcGet K_Locks_give 31 = (31, false, .getfield 21, 3, (2, 3, [180, 1], [])) := rfl
theorem kf_Locks_give_34 : mcGet K_Locks_give 34 = (34, false, .iload 6, 2, mcX0) := rfl
theorem kf_Locks_give_36 : mcGet K_Locks_give 36 = (36, false, .dup2, 1, mcX0) := rfl
theorem kf_Locks_give_37 : mcGet K_Locks_give 37 = (37, false, .laload, 1, mcX0) := rfl
theorem kf_Locks_give_38 : mcGet K_Locks_give 38 = (38, false, .lload_n 3, 1, mcX0) := rfl
theorem kf_Locks_give_39 : mcGet K_Locks_give 39 = (39, false, .ldc2_w 42, 3, (0, 0, [751], [])) := rfl
theorem kf_Locks_give_42 : mcGet K_Locks_give 42 = (42, false, .lxor, 1, mcX0) := rfl
theorem kf_Locks_give_43 : mcGet K_Locks_give 43 = (43, false, .land, 1, mcX0) := rfl
theorem kf_Locks_give_44 : mcGet K_Locks_give 44 = (44, false, .lastore, 1, mcX0) := rfl
theorem kf_Locks_give_45 : mcGet K_Locks_give 45 = (45, false, .iload 5, 2, mcX0) := rfl
theorem kf_Locks_give_47 : mcGet K_Locks_give 47 = (47, false, .iconst 2, 1, mcX0) := rfl
theorem kf_Locks_give_48 : mcGet K_Locks_give 48 = (48, false, .if_icmp .ne 17, 3, (65, 0, [], [])) := rfl
theorem kf_Locks_give_51 : mcGet K_Locks_give 51 = (51, false, .aload_n 0, 1, mcX0) := rfl
theorem kf_Locks_give_52 : mcGet K_Locks_give 52 = (52, false, .getfield 15, 3, (2, 1, [178, 1], [])) := rfl
theorem kf_Locks_give_55 : mcGet K_Locks_give 55 = (55, false, .iload 6, 2, mcX0) := rfl
theorem kf_Locks_give_57 : mcGet K_Locks_give 57 = (57, false, .dup2, 1, mcX0) := rfl
theorem kf_Locks_give_58 : mcGet K_Locks_give 58 = (58, false, .laload, 1, mcX0) := rfl
theorem kf_Locks_give_59 : mcGet K_Locks_give 59 = (59, false, .lload_n 3, 1, mcX0) := rfl
theorem kf_Locks_give_60 : mcGet K_Locks_give 60 = (60, false, .lor, 1, mcX0) := rfl
theorem kf_Locks_give_61 : mcGet K_Locks_give 61 = (61, false, .lastore, 1, mcX0) := rfl
theorem kf_Locks_give_62 : mcGet K_Locks_give 62 = (62, false, .goto 14, 3, (76, 0, [], [])) := rfl
theorem kf_Locks_give_65 : mcGet K_Locks_give 65 = (65, false, .aload_n 0, 1, mcX0) := rfl
theorem kf_Locks_give_66 : mcGet K_Locks_give 66 = (66, false, .getfield 9, 3, (2, 0, [177, 1], [])) := rfl
theorem kf_Locks_give_69 : mcGet K_Locks_give 69 = (69, false, .iload 6, 2, mcX0) := rfl
theorem kf_Locks_give_71 : mcGet K_Locks_give 71 = (71, false, .dup2, 1, mcX0) := rfl
theorem kf_Locks_give_72 : mcGet K_Locks_give 72 = (72, false, .laload, 1, mcX0) := rfl
theorem kf_Locks_give_73 : mcGet K_Locks_give 73 = (73, false, .lload_n 3, 1, mcX0) := rfl
theorem kf_Locks_give_74 : mcGet K_Locks_give 74 = (74, false, .lor, 1, mcX0) := rfl
theorem kf_Locks_give_75 : mcGet K_Locks_give 75 = (75, false, .lastore, 1, mcX0) := rfl
theorem kf_Locks_give_76 : mcGet K_Locks_give 76 = (76, false, .return_, 1, mcX0) := rfl
theorem kf_Locks_hasFormer_0 : mcGet K_Locks_hasFormer 0 = (0, false, .iload_n 1, 1, mcX0) := rfl
theorem kf_Locks_hasFormer_1 : mcGet K_Locks_hasFormer 1 = (1, false, .bipush 32, 2, mcX0) := rfl
theorem kf_Locks_hasFormer_3 : mcGet K_Locks_hasFormer 3 = (3, false, .imul, 1, mcX0) := rfl
theorem kf_Locks_hasFormer_4 : mcGet K_Locks_hasFormer 4 = (4, false, .iload_n 2, 1, mcX0) := rfl
theorem kf_Locks_hasFormer_5 : mcGet K_Locks_hasFormer 5 = (5, false, .iadd, 1, mcX0) := rfl
theorem kf_Locks_hasFormer_6 : mcGet K_Locks_hasFormer 6 = (6, false, .istore 6, 2, mcX0) := rfl
theorem kf_Locks_hasFormer_8 : mcGet K_Locks_hasFormer 8 = (8, false, .iload 5, 2, mcX0) := rfl
theorem kf_Locks_hasFormer_10 : mcGet K_Locks_hasFormer 10 = (10, false, .iconst 2, 1, mcX0) := rfl
theorem kf_Locks_hasFormer_11 : mcGet K_Locks_hasFormer 11 = (11, false, .if_icmp .ne 13, 3, (24, 0, [], [])) := rfl
theorem kf_Locks_hasFormer_14 : mcGet K_Locks_hasFormer 14 = (14, false, .aload_n 0, 1, mcX0) := rfl
theorem kf_Locks_hasFormer_15 : mcGet K_Locks_hasFormer 15 = (15, false, .getfield 21, 3, (2, 3, [180, 1], [])) := rfl
theorem kf_Locks_hasFormer_18 : mcGet K_Locks_hasFormer 18 = (18, false, .iload 6, 2, mcX0) := rfl
theorem kf_Locks_hasFormer_20 : mcGet K_Locks_hasFormer 20 = (20, false, .laload, 1, mcX0) := rfl
theorem kf_Locks_hasFormer_21 : mcGet K_Locks_hasFormer 21 = (21, false, .goto 10, 3, (31, 0, [], [])) := rfl
theorem kf_Locks_hasFormer_24 : mcGet K_Locks_hasFormer 24 = (24, false, .aload_n 0, 1, mcX0) := rfl
theorem kf_Locks_hasFormer_25 : mcGet K_Locks_hasFormer 25 = (25, false, .getfield 18, 3, (2, 2, [179, 1], [])) := rfl
theorem kf_Locks_hasFormer_28 : mcGet K_Locks_hasFormer 28 = (28, false, .iload 6, 2, mcX0) := rfl
theorem kf_Locks_hasFormer_30 : mcGet K_Locks_hasFormer 30 = (30, false, .laload, 1, mcX0) := rfl
theorem kf_Locks_hasFormer_31 : mcGet K_Locks_hasFormer 31 = (31, false, .lstore 7, 2, mcX0) := rfl
theorem kf_Locks_hasFormer_33 : mcGet K_Locks_hasFormer 33 = (33, false, .lload 7, 2, mcX0) := rfl
theorem kf_Locks_hasFormer_35 : mcGet K_Locks_hasFormer 35 = (35, false, .lload_n 3, 1, mcX0) := rfl
theorem kf_Locks_hasFormer_36 : mcGet K_Locks_hasFormer 36 = (36, false, .land, 1, mcX0) := rfl
theorem kf_Locks_hasFormer_37 : mcGet K_Locks_hasFormer 37 = (37, false, .lload_n 3, 1, mcX0) := rfl
theorem kf_Locks_hasFormer_38 : mcGet K_Locks_hasFormer 38 = (38, false, .lcmp, 1, mcX0) := rfl
theorem kf_Locks_hasFormer_39 : mcGet K_Locks_hasFormer 39 = (39, false, .ifCond .ne 7, 3, (46, 0, [], [])) := rfl
theorem kf_Locks_hasFormer_42 : mcGet K_Locks_hasFormer 42 = (42, false, .iconst 1, 1, mcX0) := rfl
theorem kf_Locks_hasFormer_43 : mcGet K_Locks_hasFormer 43 = (43, false, .goto 4, 3, (47, 0, [], [])) := rfl
theorem kf_Locks_hasFormer_46 : mcGet K_Locks_hasFormer 46 = (46, false, .iconst 0, 1, mcX0) := rfl
theorem kf_Locks_hasFormer_47 : mcGet K_Locks_hasFormer 47 = (47, false, .ireturn, 1, (1, 0, [], [])) := rfl
theorem kf_Locks_leaseLeft_0 : mcGet K_Locks_leaseLeft 0 = (0, false, .aload_n 0, 1, mcX0) := rfl
theorem kf_Locks_leaseLeft_1 : mcGet K_Locks_leaseLeft 1 = (1, false, .getfield 24, 3, (2, 4, [181, 1], [])) := rfl
theorem kf_Locks_leaseLeft_4 : mcGet K_Locks_leaseLeft 4 = (4, false, .iload_n 1, 1, mcX0) := rfl
theorem kf_Locks_leaseLeft_5 : mcGet K_Locks_leaseLeft 5 = (5, false, .iaload, 1, mcX0) := rfl
theorem kf_Locks_leaseLeft_6 : mcGet K_Locks_leaseLeft 6 = (6, false, .iload_n 2, 1, mcX0) := rfl
theorem kf_Locks_leaseLeft_7 : mcGet K_Locks_leaseLeft 7 = (7, false, .isub, 1, mcX0) := rfl
theorem kf_Locks_leaseLeft_8 : mcGet K_Locks_leaseLeft 8 = (8, false, .iconst 0, 1, mcX0) := rfl
theorem kf_Locks_leaseLeft_9 : mcGet K_Locks_leaseLeft 9 = (9, false, .invokestatic 48, 3, (2, 0, [914, 712, 70, 713], [])) := rfl
theorem kf_Locks_leaseLeft_12 : mcGet K_Locks_leaseLeft 12 = (12, false, .ireturn, 1, mcX0) := rfl
theorem kf_Locks_release_0 : mcGet K_Locks_release 0 = (0, false, .iload_n 1, 1, mcX0) := rfl
theorem kf_Locks_release_1 : mcGet K_Locks_release 1 = (1, false, .bipush 32, 2, mcX0) := rfl
theorem kf_Locks_release_3 : mcGet K_Locks_release 3 = (3, false, .imul, 1, mcX0) := rfl
theorem kf_Locks_release_4 : mcGet K_Locks_release 4 = (4, false, .iload_n 2, 1, mcX0) := rfl
theorem kf_Locks_release_5 : mcGet K_Locks_release 5 = (5, false, .iadd, 1, mcX0) := rfl
theorem kf_Locks_release_6 : mcGet K_Locks_release 6 = (6, false, .istore 5, 2, mcX0) := rfl
theorem kf_Locks_release_8 : mcGet K_Locks_release 8 = (8, false, .aload_n 0, 1, mcX0) := rfl
theorem kf_Locks_release_9 : mcGet K_Locks_release 9 = (9, false, .getfield 9, 3, (2, 0, [177, 1], [])) := rfl
theorem kf_Locks_release_12 : mcGet K_Locks_release 12 = (12, false, .iload 5, 2, mcX0) := rfl
theorem kf_Locks_release_14 : mcGet K_Locks_release 14 = (14, false, .dup2, 1, mcX0) := rfl
theorem kf_Locks_release_15 : mcGet K_Locks_release 15 = (15, false, .laload, 1, mcX0) := rfl
theorem kf_Locks_release_16 : mcGet K_Locks_release 16 = (16, false, .lload_n 3, 1, mcX0) := rfl
theorem kf_Locks_release_17 : mcGet K_Locks_release 17 = (17, false, .ldc2_w 42, 3, (0, 0, [751], [])) := rfl
theorem kf_Locks_release_20 : mcGet K_Locks_release 20 = (20, false, .lxor, 1, mcX0) := rfl
theorem kf_Locks_release_21 : mcGet K_Locks_release 21 = (21, false, .land, 1, mcX0) := rfl
theorem kf_Locks_release_22 : mcGet K_Locks_release 22 = (22, false, .lastore, 1, mcX0) := rfl
theorem kf_Locks_release_23 : mcGet K_Locks_release 23 = (23, false, .aload_n 0, 1, mcX0) := rfl
theorem kf_Locks_release_24 : mcGet K_Locks_release 24 = (24, false, .getfield 15, 3, (2, 1, [178, 1], [])) := rfl
theorem kf_Locks_release_27 : mcGet K_Locks_release 27 = (27, false, .iload 5, 2, mcX0) := rfl
theorem kf_Locks_release_29 : mcGet K_Locks_release 29 = (29, false, .dup2, 1, mcX0) := rfl
theorem kf_Locks_release_30 : mcGet K_Locks_release 30 = (30, false, .laload, 1, mcX0) := rfl
theorem kf_Locks_release_31 : mcGet K_Locks_release 31 = (31, false, .lload_n 3, 1, mcX0) := rfl
theorem kf_Locks_release_32 : mcGet K_Locks_release 32 = (32, false, .ldc2_w 42, 3, (0, 0, [751], [])) := rfl
theorem kf_Locks_release_35 : mcGet K_Locks_release 35 = (35, false, .lxor, 1, mcX0) := rfl
theorem kf_Locks_release_36 : mcGet K_Locks_release 36 = (36, false, .land, 1, mcX0) := rfl
theorem kf_Locks_release_37 : mcGet K_Locks_release 37 = (37, false, .lastore, 1, mcX0) := rfl
theorem kf_Locks_release_38 : mcGet K_Locks_release 38 = (38, false, .return_, 1, mcX0) := rfl
theorem kf_Locks_sortOf_0 : mcGet K_Locks_sortOf 0 = (0, false, .iload_n 1, 1, mcX0) := rfl
theorem kf_Locks_sortOf_1 : mcGet K_Locks_sortOf 1 = (1, false, .bipush 32, 2, mcX0) := rfl
theorem kf_Locks_sortOf_3 : mcGet K_Locks_sortOf 3 = (3, false, .imul, 1, mcX0) := rfl
theorem kf_Locks_sortOf_4 : mcGet K_Locks_sortOf 4 = (4, false, .iload_n 2, 1, mcX0) := rfl
theorem kf_Locks_sortOf_5 : mcGet K_Locks_sortOf 5 = (5, false, .iadd, 1, mcX0) := rfl
theorem kf_Locks_sortOf_6 : mcGet K_Locks_sortOf 6 = (6, false, .istore 4, 2, mcX0) := rfl
theorem kf_Locks_sortOf_8 : mcGet K_Locks_sortOf 8 = (8, false, .lconst 1, 1, mcX0) := rfl
theorem kf_Locks_sortOf_9 : mcGet K_Locks_sortOf 9 = (9, false, .iload_n 3, 1, mcX0) := rfl
theorem kf_Locks_sortOf_10 : mcGet K_Locks_sortOf 10 = (10, false, .lshl, 1, mcX0) := rfl
theorem kf_Locks_sortOf_11 : mcGet K_Locks_sortOf 11 = (11, false, .lstore 5, 2, mcX0) := rfl
theorem kf_Locks_sortOf_13 : mcGet K_Locks_sortOf 13 = (13, false, .aload_n 0, 1, mcX0) := rfl
theorem kf_Locks_sortOf_14 : mcGet K_Locks_sortOf 14 = (14, false, .getfield 15, 3, (2, 1, [178, 1], [])) := rfl
theorem kf_Locks_sortOf_17 : mcGet K_Locks_sortOf 17 = (17, false, .iload 4, 2, mcX0) := rfl
theorem kf_Locks_sortOf_19 : mcGet K_Locks_sortOf 19 = (19, false, .laload, 1, mcX0) := rfl
theorem kf_Locks_sortOf_20 : mcGet K_Locks_sortOf 20 = (20, false, .lload 5, 2, mcX0) := rfl
theorem kf_Locks_sortOf_22 : mcGet K_Locks_sortOf 22 = (22, false, .land, 1, mcX0) := rfl
theorem kf_Locks_sortOf_23 : mcGet K_Locks_sortOf 23 = (23, false, .lconst 0, 1, mcX0) := rfl
theorem kf_Locks_sortOf_24 : mcGet K_Locks_sortOf 24 = (24, false, .lcmp, 1, mcX0) := rfl
theorem kf_Locks_sortOf_25 : mcGet K_Locks_sortOf 25 = (25, false, .ifCond .eq 5, 3, (30, 0, [], [])) := rfl
theorem kf_Locks_sortOf_28 : mcGet K_Locks_sortOf 28 = (28, false, .iconst 2, 1, mcX0) := rfl
theorem kf_Locks_sortOf_29 : mcGet K_Locks_sortOf 29 = (29, false, .ireturn, 1, mcX0) := rfl
theorem kf_Locks_sortOf_30 : mcGet K_Locks_sortOf 30 = (30, false, .aload_n 0, 1, mcX0) := rfl
theorem kf_Locks_sortOf_31 : mcGet K_Locks_sortOf 31 = (31, false, .getfield 9, 3, (2, 0, [177, 1], [])) := rfl
theorem kf_Locks_sortOf_34 : mcGet K_Locks_sortOf 34 = (34, false, .iload 4, 2, mcX0) := rfl
theorem kf_Locks_sortOf_36 : mcGet K_Locks_sortOf 36 = (36, false, .laload, 1, mcX0) := rfl
theorem kf_Locks_sortOf_37 : mcGet K_Locks_sortOf 37 = (37, false, .lload 5, 2, mcX0) := rfl
theorem kf_Locks_sortOf_39 : mcGet K_Locks_sortOf 39 = (39, false, .land, 1, mcX0) := rfl
theorem kf_Locks_sortOf_40 : mcGet K_Locks_sortOf 40 = (40, false, .lconst 0, 1, mcX0) := rfl
theorem kf_Locks_sortOf_41 : mcGet K_Locks_sortOf 41 = (41, false, .lcmp, 1, mcX0) := rfl
theorem kf_Locks_sortOf_42 : mcGet K_Locks_sortOf 42 = (42, false, .ifCond .eq 5, 3, (47, 0, [], [])) := rfl
theorem kf_Locks_sortOf_45 : mcGet K_Locks_sortOf 45 = (45, false, .iconst 1, 1, mcX0) := rfl
theorem kf_Locks_sortOf_46 : mcGet K_Locks_sortOf 46 = (46, false, .ireturn, 1, mcX0) := rfl
theorem kf_Locks_sortOf_47 : mcGet K_Locks_sortOf 47 = (47, false, .aload_n 0, 1, mcX0) := rfl
theorem kf_Locks_sortOf_48 : mcGet K_Locks_sortOf 48 = (48, false, .getfield 21, 3, (2, 3, [180, 1], [])) := rfl
theorem kf_Locks_sortOf_51 : mcGet K_Locks_sortOf 51 = (51, false, .iload 4, 2, mcX0) := rfl
theorem kf_Locks_sortOf_53 : mcGet K_Locks_sortOf 53 = (53, false, .laload, 1, mcX0) := rfl
theorem kf_Locks_sortOf_54 : mcGet K_Locks_sortOf 54 = (54, false, .lload 5, 2, mcX0) := rfl
theorem kf_Locks_sortOf_56 : mcGet K_Locks_sortOf 56 = (56, false, .land, 1, mcX0) := rfl
theorem kf_Locks_sortOf_57 : mcGet K_Locks_sortOf 57 = (57, false, .lconst 0, 1, mcX0) := rfl
theorem kf_Locks_sortOf_58 : mcGet K_Locks_sortOf 58 = (58, false, .lcmp, 1, mcX0) := rfl
theorem kf_Locks_sortOf_59 : mcGet K_Locks_sortOf 59 = (59, false, .ifCond .eq 6, 3, (65, 0, [], [])) := rfl
theorem kf_Locks_sortOf_62 : mcGet K_Locks_sortOf 62 = (62, false, .bipush 6, 2, mcX0) := rfl
theorem kf_Locks_sortOf_64 : mcGet K_Locks_sortOf 64 = (64, false, .ireturn, 1, mcX0) := rfl
theorem kf_Locks_sortOf_65 : mcGet K_Locks_sortOf 65 = (65, false, .aload_n 0, 1, mcX0) := rfl
theorem kf_Locks_sortOf_66 : mcGet K_Locks_sortOf 66 = (66, false, .getfield 18, 3, (2, 2, [179, 1], [])) := rfl
theorem kf_Locks_sortOf_69 : mcGet K_Locks_sortOf 69 = (69, false, .iload 4, 2, mcX0) := rfl
theorem kf_Locks_sortOf_71 : mcGet K_Locks_sortOf 71 = (71, false, .laload, 1, mcX0) := rfl
theorem kf_Locks_sortOf_72 : mcGet K_Locks_sortOf 72 = (72, false, .lload 5, 2, mcX0) := rfl
theorem kf_Locks_sortOf_74 : mcGet K_Locks_sortOf 74 = (74, false, .land, 1, mcX0) := rfl
theorem kf_Locks_sortOf_75 : mcGet K_Locks_sortOf 75 = (75, false, .lconst 0, 1, mcX0) := rfl
theorem kf_Locks_sortOf_76 : mcGet K_Locks_sortOf 76 = (76, false, .lcmp, 1, mcX0) := rfl
theorem kf_Locks_sortOf_77 : mcGet K_Locks_sortOf 77 = (77, false, .ifCond .eq 7, 3, (84, 0, [], [])) := rfl
theorem kf_Locks_sortOf_80 : mcGet K_Locks_sortOf 80 = (80, false, .iconst 5, 1, mcX0) := rfl
theorem kf_Locks_sortOf_81 : mcGet K_Locks_sortOf 81 = (81, false, .goto 4, 3, (85, 0, [], [])) := rfl
theorem kf_Locks_sortOf_84 : mcGet K_Locks_sortOf 84 = (84, false, .iconst 0, 1, mcX0) := rfl
theorem kf_Locks_sortOf_85 : mcGet K_Locks_sortOf 85 = (85, false, .ireturn, 1, mcX0) := rfl
theorem kf_Post_init_0 : mcGet K_Post_init 0 = (0, false, .aload_n 0, 1, mcX0) := rfl
theorem kf_Post_init_1 : mcGet K_Post_init 1 = (1, false, .invokespecial 3, 3, (0, 0, [86, 77, 78, 0], [])) := rfl
theorem kf_Post_init_4 : mcGet K_Post_init 4 = (4, false, .aload_n 0, 1, mcX0) := rfl
theorem kf_Post_init_5 : mcGet K_Post_init 5 = (5, false, .sipush 300, 3, mcX0) := rfl
theorem kf_Post_init_8 : mcGet K_Post_init 8 = (8, false, .newarray .int, 2, (0, 0, [120], [])) := rfl
theorem kf_Post_init_10 : mcGet K_Post_init 10 = (10, false, .putfield 9, 3, (0, 0, [87, 1], [])) := rfl
theorem kf_Post_init_13 : mcGet K_Post_init 13 = (13, false, .aload_n 0, 1, mcX0) := rfl
theorem kf_Post_init_14 : mcGet K_Post_init 14 = (14, false, .sipush 300, 3, mcX0) := rfl
theorem kf_Post_init_17 : mcGet K_Post_init 17 = (17, false, .newarray .int, 2, (0, 0, [120], [])) := rfl
theorem kf_Post_init_19 : mcGet K_Post_init 19 = (19, false, .putfield 15, 3, (0, 1, [90, 1], [])) := rfl
theorem kf_Post_init_22 : mcGet K_Post_init 22 = (22, false, .aload_n 0, 1, mcX0) := rfl
theorem kf_Post_init_23 : mcGet K_Post_init 23 = (23, false, .sipush 300, 3, mcX0) := rfl
theorem kf_Post_init_26 : mcGet K_Post_init 26 = (26, false, .newarray .int, 2, (0, 0, [120], [])) := rfl
theorem kf_Post_init_28 : mcGet K_Post_init 28 = (28, false, .putfield 18, 3, (0, 2, [93, 1], [])) := rfl
theorem kf_Post_init_31 : mcGet K_Post_init 31 = (31, false, .aload_n 0, 1, mcX0) := rfl
theorem kf_Post_init_32 : mcGet K_Post_init 32 = (32, false, .sipush 300, 3, mcX0) := rfl
theorem kf_Post_init_35 : mcGet K_Post_init 35 = (35, false, .newarray .int, 2, (0, 0, [120], [])) := rfl
theorem kf_Post_init_37 : mcGet K_Post_init 37 = (37, false, .putfield 21, 3, (0, 3, [96, 1], [])) := rfl
theorem kf_Post_init_40 : mcGet K_Post_init 40 = (40, false, .aload_n 0, 1, mcX0) := rfl
theorem kf_Post_init_41 : mcGet K_Post_init 41 = (41, false, .sipush 300, 3, mcX0) := rfl
theorem kf_Post_init_44 : mcGet K_Post_init 44 = (44, false, .newarray .int, 2, (0, 0, [120], [])) := rfl
theorem kf_Post_init_46 : mcGet K_Post_init 46 = (46, false, .putfield 24, 3, (0, 4, [99, 1], [])) := rfl
theorem kf_Post_init_49 : mcGet K_Post_init 49 = (49, false, .aload_n 0, 1, mcX0) := rfl
theorem kf_Post_init_50 : mcGet K_Post_init 50 = (50, false, .sipush 6000, 3, mcX0) := rfl
theorem kf_Post_init_53 : mcGet K_Post_init 53 = (53, false, .newarray .int, 2, (0, 0, [120], [])) := rfl
theorem kf_Post_init_55 : mcGet K_Post_init 55 = (55, false, .putfield 27, 3, (0, 5, [101, 1], [])) := rfl
theorem kf_Post_init_58 : mcGet K_Post_init 58 = (58, false, .return_, 1, mcX0) := rfl
theorem kf_Post_placeOf_0 : mcGet K_Post_placeOf 0 = (0, false, .iload_n 1, 1, mcX0) := rfl
theorem kf_Post_placeOf_1 : mcGet K_Post_placeOf 1 = (1, false, .iconst 4, 1, mcX0) := rfl
theorem kf_Post_placeOf_2 : mcGet K_Post_placeOf 2 = (2, false, .imul, 1, mcX0) := rfl
theorem kf_Post_placeOf_3 : mcGet K_Post_placeOf 3 = (3, false, .iload_n 2, 1, mcX0) := rfl
theorem kf_Post_placeOf_4 : mcGet K_Post_placeOf 4 = (4, false, .iadd, 1, mcX0) := rfl
theorem kf_Post_placeOf_5 : mcGet K_Post_placeOf 5 = (5, false, .iconst 5, 1, mcX0) := rfl
theorem kf_Post_placeOf_6 : mcGet K_Post_placeOf 6 = (6, false, .imul, 1, mcX0) := rfl
theorem kf_Post_placeOf_7 : mcGet K_Post_placeOf 7 = (7, false, .ireturn, 1, mcX0) := rfl
theorem kf_Post_put_0 : mcGet K_Post_put 0 = (0, false, .aload_n 0, 1, mcX0) := rfl
theorem kf_Post_put_1 : mcGet K_Post_put 1 = (1, false, .getfield 30, 3, (0, 6, [103, 0], [])) := rfl
theorem kf_Post_put_4 : mcGet K_Post_put 4 = (4, false, .istore 5, 2, mcX0) := rfl
theorem kf_Post_put_6 : mcGet K_Post_put 6 = (6, false, .aload_n 0, 1, mcX0) := rfl
theorem kf_Post_put_7 : mcGet K_Post_put 7 = (7, false, .getfield 9, 3, (0, 0, [87, 1], [])) := rfl
theorem kf_Post_put_10 : mcGet K_Post_put 10 = (10, false, .iload 5, 2, mcX0) := rfl
theorem kf_Post_put_12 : mcGet K_Post_put 12 = (12, false, .iload_n 1, 1, mcX0) := rfl
theorem kf_Post_put_13 : mcGet K_Post_put 13 = (13, false, .iastore, 1, mcX0) := rfl
theorem kf_Post_put_14 : mcGet K_Post_put 14 = (14, false, .aload_n 0, 1, mcX0) := rfl
theorem kf_Post_put_15 : mcGet K_Post_put 15 = (15, false, .getfield 15, 3, (0, 1, [90, 1], [])) := rfl
theorem kf_Post_put_18 : mcGet K_Post_put 18 = (18, false, .iload 5, 2, mcX0) := rfl
theorem kf_Post_put_20 : mcGet K_Post_put 20 = (20, false, .iload_n 2, 1, mcX0) := rfl
theorem kf_Post_put_21 : mcGet K_Post_put 21 = (21, false, .iastore, 1, mcX0) := rfl
theorem kf_Post_put_22 : mcGet K_Post_put 22 = (22, false, .aload_n 0, 1, mcX0) := rfl
theorem kf_Post_put_23 : mcGet K_Post_put 23 = (23, false, .getfield 18, 3, (0, 2, [93, 1], [])) := rfl
theorem kf_Post_put_26 : mcGet K_Post_put 26 = (26, false, .iload 5, 2, mcX0) := rfl
theorem kf_Post_put_28 : mcGet K_Post_put 28 = (28, false, .iload_n 3, 1, mcX0) := rfl
theorem kf_Post_put_29 : mcGet K_Post_put 29 = (29, false, .iastore, 1, mcX0) := rfl
theorem kf_Post_put_30 : mcGet K_Post_put 30 = (30, false, .aload_n 0, 1, mcX0) := rfl
theorem kf_Post_put_31 : mcGet K_Post_put 31 = (31, false, .getfield 21, 3, (0, 3, [96, 1], [])) := rfl
theorem kf_Post_put_34 : mcGet K_Post_put 34 = (34, false, .iload 5, 2, mcX0) := rfl
theorem kf_Post_put_36 : mcGet K_Post_put 36 = (36, false, .aload 4, 2, mcX0) := rfl
theorem kf_Post_put_38 : mcGet K_Post_put 38 = (38, false, .getfield 34, 3, (7, 4, [339, 0], [])) := rfl
theorem kf_Post_put_41 : mcGet K_Post_put 41 = (41, false, .iastore, 1, mcX0) := rfl
theorem kf_Post_put_42 : mcGet K_Post_put 42 = (42, false, .aload_n 0, 1, mcX0) := rfl
theorem kf_Post_put_43 : mcGet K_Post_put 43 = (43, false, .getfield 24, 3, (0, 4, [99, 1], [])) := rfl
theorem kf_Post_put_46 : mcGet K_Post_put 46 = (46, false, .iload 5, 2, mcX0) := rfl
theorem kf_Post_put_48 : mcGet K_Post_put 48 = (48, false, .aload 4, 2, mcX0) := rfl
theorem kf_Post_put_50 : mcGet K_Post_put 50 = (50, false, .getfield 38, 3, (7, 3, [335, 0], [])) := rfl
theorem kf_Post_put_53 : mcGet K_Post_put 53 = (53, false, .iastore, 1, mcX0) := rfl
theorem kf_Post_put_54 : mcGet K_Post_put 54 = (54, false, .aload 4, 2, mcX0) := rfl
theorem kf_Post_put_56 : mcGet K_Post_put 56 = (56, false, .getfield 40, 3, (7, 0, [330, 1], [])) := rfl
theorem kf_Post_put_59 : mcGet K_Post_put 59 = (59, false, .iconst 0, 1, mcX0) := rfl
theorem kf_Post_put_60 : mcGet K_Post_put 60 = (60, false, .aload_n 0, 1, mcX0) := rfl
theorem kf_Post_put_61 : mcGet K_Post_put 61 = (61, false, .getfield 27, 3, (0, 5, [101, 1], [])) := rfl
theorem kf_Post_put_64 : mcGet K_Post_put 64 = (64, false, .aload_n 0, 1, mcX0) := rfl
theorem kf_Post_put_65 : mcGet K_Post_put 65 = (65, false, .iload 5, 2, mcX0) := rfl
theorem kf_Post_put_67 : mcGet K_Post_put 67 = (67, false, .iconst 0, 1, mcX0) := rfl
theorem kf_Post_put_68 : mcGet K_Post_put 68 = (68, false, .invokevirtual 41, 3, (0, 3, [525, 526, 53, 528, 527, 3], [M_Post_placeOf])) := rfl
theorem kf_Post_put_71 : mcGet K_Post_put 71 = (71, false, .bipush 20, 2, mcX0) := rfl
theorem kf_Post_put_73 : mcGet K_Post_put 73 = (73, false, .invokestatic 45, 3, (0, 0, [529, 530, 69, 531], [])) := rfl
theorem kf_Post_put_76 : mcGet K_Post_put 76 = (76, false, .aload_n 0, 1, mcX0) := rfl
theorem kf_Post_put_77 : mcGet K_Post_put 77 = (77, false, .dup, 1, mcX0) := rfl
theorem kf_Post_put_78 : mcGet K_Post_put 78 = (78, false, .getfield 30, 3, (0, 6, [103, 0], [])) := rfl
theorem kf_Post_put_81 : mcGet K_Post_put 81 = (81, false, .iconst 1, 1, mcX0) := rfl
theorem kf_Post_put_82 : mcGet K_Post_put 82 = (82, false, .iadd, 1, mcX0) := rfl
theorem kf_Post_put_83 : mcGet K_Post_put 83 = (83, false, .putfield 30, 3, (0, 6, [103, 0], [])) := rfl
theorem kf_Post_put_86 : mcGet K_Post_put 86 = (86, false, .iload 5, 2, mcX0) := rfl
theorem kf_Post_put_88 : mcGet K_Post_put 88 = (88, false, .ireturn, 1, mcX0) := rfl
theorem kf_Server_init_0 : mcGet K_Server_init 0 = (0, false, .aload_n 0, 1, mcX0) := rfl
theorem kf_Server_init_1 : mcGet K_Server_init 1 = (1, false, .invokespecial 3, 3, (0, 0, [126, 77, 78, 0], [])) := rfl
theorem kf_Server_init_4 : mcGet K_Server_init 4 = (4, false, .aload_n 0, 1, mcX0) := rfl
theorem kf_Server_init_5 : mcGet K_Server_init 5 = (5, false, .new 9, 3, (5, 13, [127, 128, 55], [])) := rfl
theorem kf_Server_init_8 : mcGet K_Server_init 8 = (8, false, .dup, 1, mcX0) := rfl
theorem kf_Server_init_9 : mcGet K_Server_init 9 = (9, false, .invokespecial 11, 3, (5, 1, [129, 130, 55, 131], [M_Worker_init])) := rfl
theorem kf_Server_init_12 : mcGet K_Server_init 12 = (12, false, .putfield 12, 3, (6, 0, [289, 1], [])) := rfl
theorem kf_Server_init_15 : mcGet K_Server_init 15 = (15, false, .aload_n 0, 1, mcX0) := rfl
theorem kf_Server_init_16 : mcGet K_Server_init 16 = (16, false, .aload_n 0, 1, mcX0) := rfl
theorem kf_Server_init_17 : mcGet K_Server_init 17 = (17, false, .getfield 12, 3, (6, 0, [289, 1], [])) := rfl
theorem kf_Server_init_20 : mcGet K_Server_init 20 = (20, false, .getfield 18, 3, (5, 0, [246, 1], [])) := rfl
theorem kf_Server_init_23 : mcGet K_Server_init 23 = (23, false, .putfield 22, 3, (6, 1, [290, 1], [])) := rfl
theorem kf_Server_init_26 : mcGet K_Server_init 26 = (26, false, .aload_n 0, 1, mcX0) := rfl
theorem kf_Server_init_27 : mcGet K_Server_init 27 = (27, false, .new 23, 3, (4, 6, [287, 134, 56], [])) := rfl
theorem kf_Server_init_30 : mcGet K_Server_init 30 = (30, false, .dup, 1, mcX0) := rfl
theorem kf_Server_init_31 : mcGet K_Server_init 31 = (31, false, .invokespecial 25, 3, (4, 1, [288, 136, 56, 137], [M_Disk_init])) := rfl
theorem kf_Server_init_34 : mcGet K_Server_init 34 = (34, false, .putfield 26, 3, (6, 2, [292, 1], [])) := rfl
theorem kf_Server_init_37 : mcGet K_Server_init 37 = (37, false, .aload_n 0, 1, mcX0) := rfl
theorem kf_Server_init_38 : mcGet K_Server_init 38 = (38, false, .iconst 1, 1, mcX0) := rfl
theorem kf_Server_init_39 : mcGet K_Server_init 39 = (39, false, .putfield 29, 3, (6, 3, [293, 2], [])) := rfl
theorem kf_Server_init_42 : mcGet K_Server_init 42 = (42, false, .aload_n 0, 1, mcX0) := rfl
theorem kf_Server_init_43 : mcGet K_Server_init 43 = (43, false, .iconst (-1), 1, mcX0) := rfl
theorem kf_Server_init_44 : mcGet K_Server_init 44 = (44, false, .putfield 33, 3, (6, 4, [295, 0], [])) := rfl
theorem kf_Server_init_47 : mcGet K_Server_init 47 = (47, false, .return_, 1, mcX0) := rfl
theorem kf_Server_beginAnew_0 : mcGet K_Server_beginAnew 0 = (0, false, .aload_n 0, 1, mcX0) := rfl
theorem kf_Server_beginAnew_1 : mcGet K_Server_beginAnew 1 = (1, false, .getfield 22, 3, (6, 1, [290, 1], [])) := rfl
theorem kf_Server_beginAnew_4 : mcGet K_Server_beginAnew 4 = (4, false, .getfield 115, 3, (4, 1, [222, 1], [])) := rfl
theorem kf_Server_beginAnew_7 : mcGet K_Server_beginAnew 7 = (7, false, .invokevirtual 119, 3, (2, 1, [848, 849, 59, 851, 850, 2], [M_Locks_becomeFormer])) := rfl
theorem kf_Server_beginAnew_10 : mcGet K_Server_beginAnew 10 = (10, false, .aload_n 0, 1, mcX0) := rfl
theorem kf_Server_beginAnew_11 : mcGet K_Server_beginAnew 11 = (11, false, .aload_n 0, 1, mcX0) := rfl
theorem kf_Server_beginAnew_12 : mcGet K_Server_beginAnew 12 = (12, false, .getfield 86, 3, (6, 5, [297, 0], [])) := rfl
theorem kf_Server_beginAnew_15 : mcGet K_Server_beginAnew 15 = (15, false, .sipush 30000, 3, mcX0) := rfl
theorem kf_Server_beginAnew_18 : mcGet K_Server_beginAnew 18 = (18, false, .iadd, 1, mcX0) := rfl
theorem kf_Server_beginAnew_19 : mcGet K_Server_beginAnew 19 = (19, false, .putfield 89, 3, (6, 6, [299, 0], [])) := rfl
theorem kf_Server_beginAnew_22 : mcGet K_Server_beginAnew 22 = (22, false, .aload_n 0, 1, mcX0) := rfl
theorem kf_Server_beginAnew_23 : mcGet K_Server_beginAnew 23 = (23, false, .iconst 1, 1, mcX0) := rfl
theorem kf_Server_beginAnew_24 : mcGet K_Server_beginAnew 24 = (24, false, .putfield 29, 3, (6, 3, [293, 2], [])) := rfl
theorem kf_Server_beginAnew_27 : mcGet K_Server_beginAnew 27 = (27, false, .return_, 1, mcX0) := rfl
theorem kf_Server_doCall_0 : mcGet K_Server_doCall 0 = (0, false, .aload_n 1, 1, mcX0) := rfl
theorem kf_Server_doCall_1 : mcGet K_Server_doCall 1 = (1, false, .getfield 37, 3, (0, 0, [88, 1], [])) := rfl
theorem kf_Server_doCall_4 : mcGet K_Server_doCall 4 = (4, false, .iload_n 2, 1, mcX0) := rfl
theorem kf_Server_doCall_5 : mcGet K_Server_doCall 5 = (5, false, .iaload, 1, mcX0) := rfl
theorem kf_Server_doCall_6 : mcGet K_Server_doCall 6 = (6, false, .istore_n 3, 1, mcX0) := rfl
theorem kf_Server_doCall_7 : mcGet K_Server_doCall 7 = (7, false, .iload_n 3, 1, mcX0) := rfl
theorem kf_Server_doCall_8 : mcGet K_Server_doCall 8 = (8, false, .aload_n 1, 1, mcX0) := rfl
theorem kf_Server_doCall_9 : mcGet K_Server_doCall 9 = (9, false, .getfield 55, 3, (0, 1, [91, 1], [])) := rfl
theorem kf_Server_doCall_12 : mcGet K_Server_doCall 12 = (12, false, .iload_n 2, 1, mcX0) := rfl
theorem kf_Server_doCall_13 : mcGet K_Server_doCall 13 = (13, false, .iaload, 1, mcX0) := rfl
theorem kf_Server_doCall_14 : mcGet K_Server_doCall 14 = (14, false, .invokestatic 58, 3, (1, 2, [543, 544, 52, 545, 0, 2], [M_Srv_slotOf])) := rfl
theorem kf_Server_doCall_17 : mcGet K_Server_doCall 17 = (17, false, .istore 4, 2, mcX0) := rfl
theorem kf_Server_doCall_19 : mcGet K_Server_doCall 19 = (19, false, .aload_n 1, 1, mcX0) := rfl
theorem kf_Server_doCall_20 : mcGet K_Server_doCall 20 = (20, false, .getfield 43, 3, (0, 2, [94, 1], [])) := rfl
theorem kf_Server_doCall_23 : mcGet K_Server_doCall 23 = (23, false, .iload_n 2, 1, mcX0) := rfl
theorem kf_Server_doCall_24 : mcGet K_Server_doCall 24 = (24, false, .iaload, 1, mcX0) := rfl
theorem kf_Server_doCall_25 : mcGet K_Server_doCall 25 = (25, false, .aload_n 0, 1, mcX0) := rfl
theorem kf_Server_doCall_26 : mcGet K_Server_doCall 26 = (26, false, .getfield 22, 3, (6, 1, [290, 1], [])) := rfl
theorem kf_Server_doCall_29 : mcGet K_Server_doCall 29 = (29, false, .getfield 49, 3, (4, 3, [226, 1], [])) := rfl
theorem kf_Server_doCall_32 : mcGet K_Server_doCall 32 = (32, false, .iload_n 3, 1, mcX0) := rfl
theorem kf_Server_doCall_33 : mcGet K_Server_doCall 33 = (33, false, .iaload, 1, mcX0) := rfl
theorem kf_Server_doCall_34 : mcGet K_Server_doCall 34 = (34, false, .if_icmp .le 17, 3, (51, 0, [], [])) := rfl
theorem kf_Server_doCall_37 : mcGet K_Server_doCall 37 = (37, false, .aload_n 0, 1, mcX0) := rfl
theorem kf_Server_doCall_38 : mcGet K_Server_doCall 38 = (38, false, .getfield 22, 3, (6, 1, [290, 1], [])) := rfl
theorem kf_Server_doCall_41 : mcGet K_Server_doCall 41 = (41, false, .iload_n 3, 1, mcX0) := rfl
theorem kf_Server_doCall_42 : mcGet K_Server_doCall 42 = (42, false, .aload_n 1, 1, mcX0) := rfl
theorem kf_Server_doCall_43 : mcGet K_Server_doCall 43 = (43, false, .getfield 43, 3, (0, 2, [94, 1], [])) := rfl
theorem kf_Server_doCall_46 : mcGet K_Server_doCall 46 = (46, false, .iload_n 2, 1, mcX0) := rfl
theorem kf_Server_doCall_47 : mcGet K_Server_doCall 47 = (47, false, .iaload, 1, mcX0) := rfl
theorem kf_Server_doCall_48 : mcGet K_Server_doCall 48 = (48, false, .invokevirtual 73, 3, (4, 3, [554, 555, 56, 557, 556, 4], [M_Disk_beginLife])) := rfl
theorem kf_Server_doCall_51 : mcGet K_Server_doCall 51 = (51, false, .aload_n 0, 1, mcX0) := rfl
theorem kf_Server_doCall_52 : mcGet K_Server_doCall 52 = (52, false, .getfield 22, 3, (6, 1, [290, 1], [])) := rfl
theorem kf_Server_doCall_55 : mcGet K_Server_doCall 55 = (55, false, .getfield 77, 3, (4, 5, [230, 1], [])) := rfl
theorem kf_Server_doCall_58 : mcGet K_Server_doCall 58 = (58, false, .iload 4, 2, mcX0) := rfl
theorem kf_Server_doCall_60 : mcGet K_Server_doCall 60 = (60, false, .aaload, 1, mcX0) := rfl
theorem kf_Server_doCall_61 : mcGet K_Server_doCall 61 = (61, false, .astore 5, 2, mcX0) := rfl
theorem kf_Server_doCall_63 : mcGet K_Server_doCall 63 = (63, false, .aload 5, 2, mcX0) := rfl
theorem kf_Server_doCall_65 : mcGet K_Server_doCall 65 = (65, false, .iconst 0, 1, mcX0) := rfl
theorem kf_Server_doCall_66 : mcGet K_Server_doCall 66 = (66, false, .putfield 81, 3, (3, 2, [208, 0], [])) := rfl
theorem kf_Server_doCall_69 : mcGet K_Server_doCall 69 = (69, false, .aload_n 0, 1, mcX0) := rfl
theorem kf_Server_doCall_70 : mcGet K_Server_doCall 70 = (70, false, .getfield 12, 3, (6, 0, [289, 1], [])) := rfl
theorem kf_Server_doCall_73 : mcGet K_Server_doCall 73 = (73, false, .iload_n 3, 1, mcX0) := rfl
theorem kf_Server_doCall_74 : mcGet K_Server_doCall 74 = (74, false, .aload_n 0, 1, mcX0) := rfl
theorem kf_Server_doCall_75 : mcGet K_Server_doCall 75 = (75, false, .getfield 86, 3, (6, 5, [297, 0], [])) := rfl
theorem kf_Server_doCall_78 : mcGet K_Server_doCall 78 = (78, false, .aload_n 0, 1, mcX0) := rfl
theorem kf_Server_doCall_79 : mcGet K_Server_doCall 79 = (79, false, .getfield 86, 3, (6, 5, [297, 0], [])) := rfl
theorem kf_Server_doCall_82 : mcGet K_Server_doCall 82 = (82, false, .aload_n 0, 1, mcX0) := rfl
theorem kf_Server_doCall_83 : mcGet K_Server_doCall 83 = (83, false, .getfield 89, 3, (6, 6, [299, 0], [])) := rfl
theorem kf_Server_doCall_86 : mcGet K_Server_doCall 86 = (86, false, .if_icmp .ge 7, 3, (93, 0, [], [])) := rfl
theorem kf_Server_doCall_89 : mcGet K_Server_doCall 89 = (89, false, .iconst 1, 1, mcX0) := rfl
theorem kf_Server_doCall_90 : mcGet K_Server_doCall 90 = (90, false, .goto 4, 3, (94, 0, [], [])) := rfl
theorem kf_Server_doCall_93 : mcGet K_Server_doCall 93 = (93, false, .iconst 0, 1, mcX0) := rfl
theorem kf_Server_doCall_94 : mcGet K_Server_doCall 94 = (94, false, .invokevirtual 92, 3, (5, 4, [567, 568, 55, 570, 569, 4], [M_Worker_workFor])) := rfl
theorem kf_Server_doCall_97 : mcGet K_Server_doCall 97 = (97, false, .iconst 0, 1, mcX0) := rfl
theorem kf_Server_doCall_98 : mcGet K_Server_doCall 98 = (98, false, .istore 6, 2, mcX0) := rfl
theorem kf_Server_doCall_100 : mcGet K_Server_doCall 100 = (100, false, .iconst 0, 1, mcX0) := rfl
theorem kf_Server_doCall_101 : mcGet K_Server_doCall 101 = (101, false, .istore 7, 2, mcX0) := rfl
theorem kf_Server_doCall_103 : mcGet K_Server_doCall 103 = (103, true, .iload 7, 2, mcX0) := rfl
theorem kf_Server_doCall_105 : mcGet K_Server_doCall 105 = (105, false, .aload_n 1, 1, mcX0) := rfl
theorem kf_Server_doCall_106 : mcGet K_Server_doCall 106 = (106, false, .getfield 96, 3, (0, 4, [100, 1], [])) := rfl
theorem kf_Server_doCall_109 : mcGet K_Server_doCall 109 = (109, false, .iload_n 2, 1, mcX0) := rfl
theorem kf_Server_doCall_110 : mcGet K_Server_doCall 110 = (110, false, .iaload, 1, mcX0) := rfl
theorem kf_Server_doCall_111 : mcGet K_Server_doCall 111 = (111, false, .if_icmp .ge 48, 3, (159, 0, [], [])) := rfl
theorem kf_Server_doCall_114 : mcGet K_Server_doCall 114 = (114, false, .iload 6, 2, mcX0) := rfl
theorem kf_Server_doCall_116 : mcGet K_Server_doCall 116 = (116, false, .ifCond .ne 43, 3, (159, 0, [], [])) := rfl
theorem kf_Server_doCall_119 : mcGet K_Server_doCall 119 = (119, false, .aload_n 0, 1, mcX0) := rfl
theorem kf_Server_doCall_120 : mcGet K_Server_doCall 120 = (120, false, .getfield 12, 3, (6, 0, [289, 1], [])) := rfl
theorem kf_Server_doCall_123 : mcGet K_Server_doCall 123 = (123, false, .aload_n 1, 1, mcX0) := rfl
theorem kf_Server_doCall_124 : mcGet K_Server_doCall 124 = (124, false, .getfield 99, 3, (0, 5, [102, 1], [])) := rfl
theorem kf_Server_doCall_127 : mcGet K_Server_doCall 127 = (127, false, .aload_n 1, 1, mcX0) := rfl
theorem kf_Server_doCall_128 : mcGet K_Server_doCall 128 = (128, false, .iload_n 2, 1, mcX0) := rfl
theorem kf_Server_doCall_129 : mcGet K_Server_doCall 129 = (129, false, .iload 7, 2, mcX0) := rfl
theorem kf_Server_doCall_131 : mcGet K_Server_doCall 131 = (131, false, .invokevirtual 102, 3, (0, 3, [571, 526, 53, 528, 527, 3], [M_Post_placeOf])) := rfl
theorem kf_Server_doCall_134 : mcGet K_Server_doCall 134 = (134, false, .invokevirtual 105, 3, (5, 3, [572, 573, 55, 575, 574, 4], [M_Worker_doStep])) := rfl
theorem kf_Server_doCall_137 : mcGet K_Server_doCall 137 = (137, false, .istore 6, 2, mcX0) := rfl
theorem kf_Server_doCall_139 : mcGet K_Server_doCall 139 = (139, false, .aload 5, 2, mcX0) := rfl
theorem kf_Server_doCall_141 : mcGet K_Server_doCall 141 = (141, false, .iload 6, 2, mcX0) := rfl
theorem kf_Server_doCall_143 : mcGet K_Server_doCall 143 = (143, false, .aload_n 0, 1, mcX0) := rfl
theorem kf_Server_doCall_144 : mcGet K_Server_doCall 144 = (144, false, .getfield 12, 3, (6, 0, [289, 1], [])) := rfl
theorem kf_Server_doCall_147 : mcGet K_Server_doCall 147 = (147, false, .getfield 109, 3, (5, 12, [259, 0], [])) := rfl
theorem kf_Server_doCall_150 : mcGet K_Server_doCall 150 = (150, false, .invokevirtual 112, 3, (3, 3, [769, 770, 60, 772, 771, 3], [M_Answer_append])) := rfl
theorem kf_Server_doCall_153 : mcGet K_Server_doCall 153 = (153, false, .iinc 7 1, 3, mcX0) := rfl
theorem kf_Server_doCall_156 : mcGet K_Server_doCall 156 = (156, false, .goto (-53), 3, (103, 0, [], [])) := rfl
theorem kf_Server_doCall_159 : mcGet K_Server_doCall 159 = (159, false, .aload_n 0, 1, mcX0) := rfl
theorem kf_Server_doCall_160 : mcGet K_Server_doCall 160 = (160, false, .getfield 22, 3, (6, 1, [290, 1], [])) := rfl
theorem kf_Server_doCall_163 : mcGet K_Server_doCall 163 = (163, false, .getfield 52, 3, (4, 4, [228, 1], [])) := rfl
theorem kf_Server_doCall_166 : mcGet K_Server_doCall 166 = (166, false, .iload 4, 2, mcX0) := rfl
theorem kf_Server_doCall_168 : mcGet K_Server_doCall 168 = (168, false, .aload_n 1, 1, mcX0) := rfl
theorem kf_Server_doCall_169 : mcGet K_Server_doCall 169 = (169, false, .getfield 46, 3, (0, 3, [97, 1], [])) := rfl
theorem kf_Server_doCall_172 : mcGet K_Server_doCall 172 = (172, false, .iload_n 2, 1, mcX0) := rfl
theorem kf_Server_doCall_173 : mcGet K_Server_doCall 173 = (173, false, .iaload, 1, mcX0) := rfl
theorem kf_Server_doCall_174 : mcGet K_Server_doCall 174 = (174, false, .iastore, 1, mcX0) := rfl
theorem kf_Server_doCall_175 : mcGet K_Server_doCall 175 = (175, false, .aload 5, 2, mcX0) := rfl
theorem kf_Server_doCall_177 : mcGet K_Server_doCall 177 = (177, false, .getfield 81, 3, (3, 2, [208, 0], [])) := rfl
theorem kf_Server_doCall_180 : mcGet K_Server_doCall 180 = (180, false, .ireturn, 1, mcX0) := rfl
theorem kf_Server_fateOf_0 : mcGet K_Server_fateOf 0 = (0, false, .aload_n 1, 1, mcX0) := rfl
theorem kf_Server_fateOf_1 : mcGet K_Server_fateOf 1 = (1, false, .getfield 37, 3, (0, 0, [88, 1], [])) := rfl
theorem kf_Server_fateOf_4 : mcGet K_Server_fateOf 4 = (4, false, .iload_n 2, 1, mcX0) := rfl
theorem kf_Server_fateOf_5 : mcGet K_Server_fateOf 5 = (5, false, .iaload, 1, mcX0) := rfl
theorem kf_Server_fateOf_6 : mcGet K_Server_fateOf 6 = (6, false, .istore_n 3, 1, mcX0) := rfl
theorem kf_Server_fateOf_7 : mcGet K_Server_fateOf 7 = (7, false, .aload_n 1, 1, mcX0) := rfl
theorem kf_Server_fateOf_8 : mcGet K_Server_fateOf 8 = (8, false, .getfield 43, 3, (0, 2, [94, 1], [])) := rfl
theorem kf_Server_fateOf_11 : mcGet K_Server_fateOf 11 = (11, false, .iload_n 2, 1, mcX0) := rfl
theorem kf_Server_fateOf_12 : mcGet K_Server_fateOf 12 = (12, false, .iaload, 1, mcX0) := rfl
theorem kf_Server_fateOf_13 : mcGet K_Server_fateOf 13 = (13, false, .istore 4, 2, mcX0) := rfl
theorem kf_Server_fateOf_15 : mcGet K_Server_fateOf 15 = (15, false, .aload_n 1, 1, mcX0) := rfl
theorem kf_Server_fateOf_16 : mcGet K_Server_fateOf 16 = (16, false, .getfield 46, 3, (0, 3, [97, 1], [])) := rfl
theorem kf_Server_fateOf_19 : mcGet K_Server_fateOf 19 = (19, false, .iload_n 2, 1, mcX0) := rfl
theorem kf_Server_fateOf_20 : mcGet K_Server_fateOf 20 = (20, false, .iaload, 1, mcX0) := rfl
theorem kf_Server_fateOf_21 : mcGet K_Server_fateOf 21 = (21, false, .istore 5, 2, mcX0) := rfl
theorem kf_Server_fateOf_23 : mcGet K_Server_fateOf 23 = (23, false, .aload_n 0, 1, mcX0) := rfl
theorem kf_Server_fateOf_24 : mcGet K_Server_fateOf 24 = (24, false, .getfield 22, 3, (6, 1, [290, 1], [])) := rfl
theorem kf_Server_fateOf_27 : mcGet K_Server_fateOf 27 = (27, false, .getfield 49, 3, (4, 3, [226, 1], [])) := rfl
theorem kf_Server_fateOf_30 : mcGet K_Server_fateOf 30 = (30, false, .iload_n 3, 1, mcX0) := rfl
theorem kf_Server_fateOf_31 : mcGet K_Server_fateOf 31 = (31, false, .iaload, 1, mcX0) := rfl
theorem kf_Server_fateOf_32 : mcGet K_Server_fateOf 32 = (32, false, .istore 6, 2, mcX0) := rfl
theorem kf_Server_fateOf_34 : mcGet K_Server_fateOf 34 = (34, false, .aload_n 0, 1, mcX0) := rfl
theorem kf_Server_fateOf_35 : mcGet K_Server_fateOf 35 = (35, false, .getfield 29, 3, (6, 3, [293, 2], [])) := rfl
theorem kf_Server_fateOf_38 : mcGet K_Server_fateOf 38 = (38, false, .ifCond .eq 23, 3, (61, 0, [], [])) := rfl
theorem kf_Server_fateOf_41 : mcGet K_Server_fateOf 41 = (41, false, .iload 4, 2, mcX0) := rfl
theorem kf_Server_fateOf_43 : mcGet K_Server_fateOf 43 = (43, false, .iload 6, 2, mcX0) := rfl
theorem kf_Server_fateOf_45 : mcGet K_Server_fateOf 45 = (45, false, .if_icmp .lt 16, 3, (61, 0, [], [])) := rfl
theorem kf_Server_fateOf_48 : mcGet K_Server_fateOf 48 = (48, false, .iload 4, 2, mcX0) := rfl
theorem kf_Server_fateOf_50 : mcGet K_Server_fateOf 50 = (50, false, .iload 6, 2, mcX0) := rfl
theorem kf_Server_fateOf_52 : mcGet K_Server_fateOf 52 = (52, false, .if_icmp .le 11, 3, (63, 0, [], [])) := rfl
theorem kf_Server_fateOf_55 : mcGet K_Server_fateOf 55 = (55, false, .iload 5, 2, mcX0) := rfl
theorem kf_Server_fateOf_57 : mcGet K_Server_fateOf 57 = (57, false, .iconst 1, 1, mcX0) := rfl
theorem kf_Server_fateOf_58 : mcGet K_Server_fateOf 58 = (58, false, .if_icmp .eq 5, 3, (63, 0, [], [])) := rfl
theorem kf_Server_fateOf_61 : mcGet K_Server_fateOf 61 = (61, false, .iconst 0, 1, mcX0) := rfl
theorem kf_Server_fateOf_62 : mcGet K_Server_fateOf 62 = (62, false, .ireturn, 1, mcX0) := rfl
theorem kf_Server_fateOf_63 : mcGet K_Server_fateOf 63 = (63, false, .iload 4, 2, mcX0) := rfl
theorem kf_Server_fateOf_65 : mcGet K_Server_fateOf 65 = (65, false, .iload 6, 2, mcX0) := rfl
theorem kf_Server_fateOf_67 : mcGet K_Server_fateOf 67 = (67, false, .if_icmp .le 7, 3, (74, 0, [], [])) := rfl
theorem kf_Server_fateOf_70 : mcGet K_Server_fateOf 70 = (70, false, .iconst 0, 1, mcX0) := rfl
theorem kf_Server_fateOf_71 : mcGet K_Server_fateOf 71 = (71, false, .goto 21, 3, (92, 0, [], [])) := rfl
theorem kf_Server_fateOf_74 : mcGet K_Server_fateOf 74 = (74, false, .aload_n 0, 1, mcX0) := rfl
theorem kf_Server_fateOf_75 : mcGet K_Server_fateOf 75 = (75, false, .getfield 22, 3, (6, 1, [290, 1], [])) := rfl
theorem kf_Server_fateOf_78 : mcGet K_Server_fateOf 78 = (78, false, .getfield 52, 3, (4, 4, [228, 1], [])) := rfl
theorem kf_Server_fateOf_81 : mcGet K_Server_fateOf 81 = (81, false, .iload_n 3, 1, mcX0) := rfl
theorem kf_Server_fateOf_82 : mcGet K_Server_fateOf 82 = (82, false, .aload_n 1, 1, mcX0) := rfl
theorem kf_Server_fateOf_83 : mcGet K_Server_fateOf 83 = (83, false, .getfield 55, 3, (0, 1, [91, 1], [])) := rfl
theorem kf_Server_fateOf_86 : mcGet K_Server_fateOf 86 = (86, false, .iload_n 2, 1, mcX0) := rfl
theorem kf_Server_fateOf_87 : mcGet K_Server_fateOf 87 = (87, false, .iaload, 1, mcX0) := rfl
theorem kf_Server_fateOf_88 : mcGet K_Server_fateOf 88 = (88, false, .invokestatic 58, 3, (1, 2, [543, 544, 52, 545, 0, 2], [M_Srv_slotOf])) := rfl
theorem kf_Server_fateOf_91 : mcGet K_Server_fateOf 91 = (91, false, .iaload, 1, mcX0) := rfl
theorem kf_Server_fateOf_92 : mcGet K_Server_fateOf 92 = (92, false, .istore 7, 2, mcX0) := rfl
theorem kf_Server_fateOf_94 : mcGet K_Server_fateOf 94 = (94, false, .iload 5, 2, mcX0) := rfl
theorem kf_Server_fateOf_96 : mcGet K_Server_fateOf 96 = (96, false, .iload 7, 2, mcX0) := rfl
theorem kf_Server_fateOf_98 : mcGet K_Server_fateOf 98 = (98, false, .if_icmp .ne 5, 3, (103, 0, [], [])) := rfl
theorem kf_Server_fateOf_101 : mcGet K_Server_fateOf 101 = (101, false, .iconst 2, 1, mcX0) := rfl
theorem kf_Server_fateOf_102 : mcGet K_Server_fateOf 102 = (102, false, .ireturn, 1, mcX0) := rfl
theorem kf_Server_fateOf_103 : mcGet K_Server_fateOf 103 = (103, false, .iload 5, 2, mcX0) := rfl
theorem kf_Server_fateOf_105 : mcGet K_Server_fateOf 105 = (105, false, .iload 7, 2, mcX0) := rfl
theorem kf_Server_fateOf_107 : mcGet K_Server_fateOf 107 = (107, false, .iconst 1, 1, mcX0) := rfl
theorem kf_Server_fateOf_108 : mcGet K_Server_fateOf 108 = (108, false, .iadd, 1, mcX0) := rfl
theorem kf_Server_fateOf_109 : mcGet K_Server_fateOf 109 = (109, false, .if_icmp .ne 7, 3, (116, 0, [], [])) := rfl
theorem kf_Server_fateOf_112 : mcGet K_Server_fateOf 112 = (112, false, .iconst 1, 1, mcX0) := rfl
theorem kf_Server_fateOf_113 : mcGet K_Server_fateOf 113 = (113, false, .goto 4, 3, (117, 0, [], [])) := rfl
theorem kf_Server_fateOf_116 : mcGet K_Server_fateOf 116 = (116, false, .iconst 0, 1, mcX0) := rfl
theorem kf_Server_fateOf_117 : mcGet K_Server_fateOf 117 = (117, false, .ireturn, 1, mcX0) := rfl
theorem kf_Server_goOn_0 : mcGet K_Server_goOn 0 = (0, false, .aload_n 0, 1, mcX0) := rfl
theorem kf_Server_goOn_1 : mcGet K_Server_goOn 1 = (1, false, .dup, 1, mcX0) := rfl
theorem kf_Server_goOn_2 : mcGet K_Server_goOn 2 = (2, false, .getfield 86, 3, (6, 5, [297, 0], [])) := rfl
theorem kf_Server_goOn_5 : mcGet K_Server_goOn 5 = (5, false, .iload_n 1, 1, mcX0) := rfl
theorem kf_Server_goOn_6 : mcGet K_Server_goOn 6 = (6, false, .iadd, 1, mcX0) := rfl
theorem kf_Server_goOn_7 : mcGet K_Server_goOn 7 = (7, false, .putfield 86, 3, (6, 5, [297, 0], [])) := rfl
theorem kf_Server_goOn_10 : mcGet K_Server_goOn 10 = (10, false, .aload_n 0, 1, mcX0) := rfl
theorem kf_Server_goOn_11 : mcGet K_Server_goOn 11 = (11, false, .getfield 29, 3, (6, 3, [293, 2], [])) := rfl
theorem kf_Server_goOn_14 : mcGet K_Server_goOn 14 = (14, false, .ifCond .ne 4, 3, (18, 0, [], [])) := rfl
theorem kf_Server_goOn_17 : mcGet K_Server_goOn 17 = (17, false, .return_, 1, mcX0) := rfl
theorem kf_Server_goOn_18 : mcGet K_Server_goOn 18 = (18, false, .aload_n 0, 1, mcX0) := rfl
theorem kf_Server_goOn_19 : mcGet K_Server_goOn 19 = (19, false, .getfield 22, 3, (6, 1, [290, 1], [])) := rfl
theorem kf_Server_goOn_22 : mcGet K_Server_goOn 22 = (22, false, .getfield 115, 3, (4, 1, [222, 1], [])) := rfl
theorem kf_Server_goOn_25 : mcGet K_Server_goOn 25 = (25, false, .aload_n 0, 1, mcX0) := rfl
theorem kf_Server_goOn_26 : mcGet K_Server_goOn 26 = (26, false, .getfield 86, 3, (6, 5, [297, 0], [])) := rfl
theorem kf_Server_goOn_29 : mcGet K_Server_goOn 29 = (29, false, .invokevirtual 124, 3, (2, 2, [864, 865, 59, 867, 866, 3], [M_Locks_endLeases])) := rfl
theorem kf_Server_goOn_32 : mcGet K_Server_goOn 32 = (32, false, .aload_n 0, 1, mcX0) := rfl
theorem kf_Server_goOn_33 : mcGet K_Server_goOn 33 = (33, false, .getfield 86, 3, (6, 5, [297, 0], [])) := rfl
theorem kf_Server_goOn_36 : mcGet K_Server_goOn 36 = (36, false, .aload_n 0, 1, mcX0) := rfl
theorem kf_Server_goOn_37 : mcGet K_Server_goOn 37 = (37, false, .getfield 89, 3, (6, 6, [299, 0], [])) := rfl
theorem kf_Server_goOn_40 : mcGet K_Server_goOn 40 = (40, false, .if_icmp .lt 13, 3, (53, 0, [], [])) := rfl
theorem kf_Server_goOn_43 : mcGet K_Server_goOn 43 = (43, false, .aload_n 0, 1, mcX0) := rfl
theorem kf_Server_goOn_44 : mcGet K_Server_goOn 44 = (44, false, .getfield 22, 3, (6, 1, [290, 1], [])) := rfl
theorem kf_Server_goOn_47 : mcGet K_Server_goOn 47 = (47, false, .getfield 115, 3, (4, 1, [222, 1], [])) := rfl
theorem kf_Server_goOn_50 : mcGet K_Server_goOn 50 = (50, false, .invokevirtual 128, 3, (2, 1, [868, 869, 59, 871, 870, 1], [M_Locks_deleteFormer])) := rfl
theorem kf_Server_goOn_53 : mcGet K_Server_goOn 53 = (53, false, .return_, 1, mcX0) := rfl
theorem kf_Server_halt_0 : mcGet K_Server_halt 0 = (0, false, .aload_n 0, 1, mcX0) := rfl
theorem kf_Server_halt_1 : mcGet K_Server_halt 1 = (1, false, .iconst 0, 1, mcX0) := rfl
theorem kf_Server_halt_2 : mcGet K_Server_halt 2 = (2, false, .putfield 29, 3, (6, 3, [293, 2], [])) := rfl
theorem kf_Server_halt_5 : mcGet K_Server_halt 5 = (5, false, .aload_n 0, 1, mcX0) := rfl
theorem kf_Server_halt_6 : mcGet K_Server_halt 6 = (6, false, .iconst (-1), 1, mcX0) := rfl
theorem kf_Server_halt_7 : mcGet K_Server_halt 7 = (7, false, .putfield 33, 3, (6, 4, [295, 0], [])) := rfl
theorem kf_Server_halt_10 : mcGet K_Server_halt 10 = (10, false, .return_, 1, mcX0) := rfl
theorem kf_Server_write_0 : mcGet K_Server_write 0 = (0, false, .aload_n 0, 1, mcX0) := rfl
theorem kf_Server_write_1 : mcGet K_Server_write 1 = (1, false, .getfield 33, 3, (6, 4, [295, 0], [])) := rfl
theorem kf_Server_write_4 : mcGet K_Server_write 4 = (4, false, .iconst (-1), 1, mcX0) := rfl
theorem kf_Server_write_5 : mcGet K_Server_write 5 = (5, false, .if_icmp .ne 12, 3, (17, 0, [], [])) := rfl
theorem kf_Server_write_8 : mcGet K_Server_write 8 = (8, false, .aload_n 0, 1, mcX0) := rfl
theorem kf_Server_write_9 : mcGet K_Server_write 9 = (9, false, .aload_n 1, 1, mcX0) := rfl
theorem kf_Server_write_10 : mcGet K_Server_write 10 = (10, false, .iload_n 2, 1, mcX0) := rfl
theorem kf_Server_write_11 : mcGet K_Server_write 11 = (11, false, .invokevirtual 62, 3, (6, 3, [550, 552, 54, 553, 1, 8], [M_Server_doCall])) := rfl
theorem kf_Server_write_14 : mcGet K_Server_write 14 = (14, false, .pop, 1, mcX0) := rfl
theorem kf_Server_write_15 : mcGet K_Server_write 15 = (15, false, .iconst 1, 1, mcX0) := rfl
theorem kf_Server_write_16 : mcGet K_Server_write 16 = (16, false, .ireturn, 1, mcX0) := rfl
theorem kf_Server_write_17 : mcGet K_Server_write 17 = (17, false, .aload_n 0, 1, mcX0) := rfl
theorem kf_Server_write_18 : mcGet K_Server_write 18 = (18, false, .getfield 26, 3, (6, 2, [292, 1], [])) := rfl
theorem kf_Server_write_21 : mcGet K_Server_write 21 = (21, false, .aload_n 0, 1, mcX0) := rfl
theorem kf_Server_write_22 : mcGet K_Server_write 22 = (22, false, .getfield 22, 3, (6, 1, [290, 1], [])) := rfl
theorem kf_Server_write_25 : mcGet K_Server_write 25 = (25, false, .invokevirtual 66, 3, (4, 2, [773, 774, 56, 776, 775, 3], [M_Disk_copyFrom])) := rfl
theorem kf_Server_write_28 : mcGet K_Server_write 28 = (28, false, .iconst 1, 1, mcX0) := rfl
theorem kf_Server_write_29 : mcGet K_Server_write 29 = (29, false, .aload_n 0, 1, mcX0) := rfl
theorem kf_Server_write_30 : mcGet K_Server_write 30 = (30, false, .aload_n 1, 1, mcX0) := rfl
theorem kf_Server_write_31 : mcGet K_Server_write 31 = (31, false, .iload_n 2, 1, mcX0) := rfl
theorem kf_Server_write_32 : mcGet K_Server_write 32 = (32, false, .invokevirtual 62, 3, (6, 3, [550, 552, 54, 553, 1, 8], [M_Server_doCall])) := rfl
theorem kf_Server_write_35 : mcGet K_Server_write 35 = (35, false, .iadd, 1, mcX0) := rfl
theorem kf_Server_write_36 : mcGet K_Server_write 36 = (36, false, .istore_n 3, 1, mcX0) := rfl
theorem kf_Server_write_37 : mcGet K_Server_write 37 = (37, false, .aload_n 0, 1, mcX0) := rfl
theorem kf_Server_write_38 : mcGet K_Server_write 38 = (38, false, .getfield 33, 3, (6, 4, [295, 0], [])) := rfl
theorem kf_Server_write_41 : mcGet K_Server_write 41 = (41, false, .iload_n 3, 1, mcX0) := rfl
theorem kf_Server_write_42 : mcGet K_Server_write 42 = (42, false, .if_icmp .lt 7, 3, (49, 0, [], [])) := rfl
theorem kf_Server_write_45 : mcGet K_Server_write 45 = (45, false, .iconst 1, 1, mcX0) := rfl
theorem kf_Server_write_46 : mcGet K_Server_write 46 = (46, false, .goto 4, 3, (50, 0, [], [])) := rfl
theorem kf_Server_write_49 : mcGet K_Server_write 49 = (49, false, .iconst 0, 1, mcX0) := rfl
theorem kf_Server_write_50 : mcGet K_Server_write 50 = (50, false, .istore 4, 2, mcX0) := rfl
theorem kf_Server_write_52 : mcGet K_Server_write 52 = (52, false, .iload 4, 2, mcX0) := rfl
theorem kf_Server_write_54 : mcGet K_Server_write 54 = (54, false, .ifCond .ne 14, 3, (68, 0, [], [])) := rfl
theorem kf_Server_write_57 : mcGet K_Server_write 57 = (57, false, .aload_n 0, 1, mcX0) := rfl
theorem kf_Server_write_58 : mcGet K_Server_write 58 = (58, false, .getfield 22, 3, (6, 1, [290, 1], [])) := rfl
theorem kf_Server_write_61 : mcGet K_Server_write 61 = (61, false, .aload_n 0, 1, mcX0) := rfl
theorem kf_Server_write_62 : mcGet K_Server_write 62 = (62, false, .getfield 26, 3, (6, 2, [292, 1], [])) := rfl
theorem kf_Server_write_65 : mcGet K_Server_write 65 = (65, false, .invokevirtual 66, 3, (4, 2, [773, 774, 56, 776, 775, 3], [M_Disk_copyFrom])) := rfl
theorem kf_Server_write_68 : mcGet K_Server_write 68 = (68, false, .aload_n 0, 1, mcX0) := rfl
theorem kf_Server_write_69 : mcGet K_Server_write 69 = (69, false, .invokevirtual 70, 3, (6, 1, [793, 794, 54, 796, 795, 1], [M_Server_halt])) := rfl
theorem kf_Server_write_72 : mcGet K_Server_write 72 = (72, false, .iload 4, 2, mcX0) := rfl
theorem kf_Server_write_74 : mcGet K_Server_write 74 = (74, false, .ifCond .eq 7, 3, (81, 0, [], [])) := rfl
theorem kf_Server_write_77 : mcGet K_Server_write 77 = (77, false, .iconst 1, 1, mcX0) := rfl
theorem kf_Server_write_78 : mcGet K_Server_write 78 = (78, false, .goto 4, 3, (82, 0, [], [])) := rfl
theorem kf_Server_write_81 : mcGet K_Server_write 81 = (81, false, .iconst 3, 1, mcX0) := rfl
theorem kf_Server_write_82 : mcGet K_Server_write 82 = (82, false, .ireturn, 1, mcX0) := rfl
theorem kf_Tree_init_0 : mcGet K_Tree_init 0 = (0, false, .aload_n 0, 1, mcX0) := rfl
theorem kf_Tree_init_1 : mcGet K_Tree_init 1 = (1, false, .invokespecial 3, 3, (0, 0, [144, 77, 78, 0], [])) := rfl
theorem kf_Tree_init_4 : mcGet K_Tree_init 4 = (4, false, .aload_n 0, 1, mcX0) := rfl
theorem kf_Tree_init_5 : mcGet K_Tree_init 5 = (5, false, .bipush 32, 2, mcX0) := rfl
theorem kf_Tree_init_7 : mcGet K_Tree_init 7 = (7, false, .newarray .int, 2, (0, 0, [120], [])) := rfl
theorem kf_Tree_init_9 : mcGet K_Tree_init 9 = (9, false, .putfield 9, 3, (1, 0, [148, 1], [])) := rfl
theorem kf_Tree_init_12 : mcGet K_Tree_init 12 = (12, false, .aload_n 0, 1, mcX0) := rfl
theorem kf_Tree_init_13 : mcGet K_Tree_init 13 = (13, false, .bipush 32, 2, mcX0) := rfl
theorem kf_Tree_init_15 : mcGet K_Tree_init 15 = (15, false, .newarray .int, 2, (0, 0, [120], [])) := rfl
theorem kf_Tree_init_17 : mcGet K_Tree_init 17 = (17, false, .putfield 15, 3, (1, 1, [151, 1], [])) := rfl
theorem kf_Tree_init_20 : mcGet K_Tree_init 20 = (20, false, .aload_n 0, 1, mcX0) := rfl
theorem kf_Tree_init_21 : mcGet K_Tree_init 21 = (21, false, .bipush 32, 2, mcX0) := rfl
theorem kf_Tree_init_23 : mcGet K_Tree_init 23 = (23, false, .newarray .int, 2, (0, 0, [120], [])) := rfl
theorem kf_Tree_init_25 : mcGet K_Tree_init 25 = (25, false, .putfield 18, 3, (1, 2, [153, 1], [])) := rfl
theorem kf_Tree_init_28 : mcGet K_Tree_init 28 = (28, false, .aload_n 0, 1, mcX0) := rfl
theorem kf_Tree_init_29 : mcGet K_Tree_init 29 = (29, false, .bipush 32, 2, mcX0) := rfl
theorem kf_Tree_init_31 : mcGet K_Tree_init 31 = (31, false, .newarray .int, 2, (0, 0, [120], [])) := rfl
theorem kf_Tree_init_33 : mcGet K_Tree_init 33 = (33, false, .putfield 21, 3, (1, 3, [156, 1], [])) := rfl
theorem kf_Tree_init_36 : mcGet K_Tree_init 36 = (36, false, .aload_n 0, 1, mcX0) := rfl
theorem kf_Tree_init_37 : mcGet K_Tree_init 37 = (37, false, .sipush 2048, 3, mcX0) := rfl
theorem kf_Tree_init_40 : mcGet K_Tree_init 40 = (40, false, .newarray .int, 2, (0, 0, [120], [])) := rfl
theorem kf_Tree_init_42 : mcGet K_Tree_init 42 = (42, false, .putfield 24, 3, (1, 4, [159, 1], [])) := rfl
theorem kf_Tree_init_45 : mcGet K_Tree_init 45 = (45, false, .aload_n 0, 1, mcX0) := rfl
theorem kf_Tree_init_46 : mcGet K_Tree_init 46 = (46, false, .getfield 9, 3, (1, 0, [148, 1], [])) := rfl
theorem kf_Tree_init_49 : mcGet K_Tree_init 49 = (49, false, .iconst (-1), 1, mcX0) := rfl
theorem kf_Tree_init_50 : mcGet K_Tree_init 50 = (50, false, .invokestatic 27, 3, (0, 2, [145, 146, 58, 147, 0, 4], [M_Arrays_fill_0])) := rfl
theorem kf_Tree_init_53 : mcGet K_Tree_init 53 = (53, false, .aload_n 0, 1, mcX0) := rfl
theorem kf_Tree_init_54 : mcGet K_Tree_init 54 = (54, false, .getfield 15, 3, (1, 1, [151, 1], [])) := rfl
theorem kf_Tree_init_57 : mcGet K_Tree_init 57 = (57, false, .iconst (-1), 1, mcX0) := rfl
theorem kf_Tree_init_58 : mcGet K_Tree_init 58 = (58, false, .invokestatic 27, 3, (0, 2, [145, 146, 58, 147, 0, 4], [M_Arrays_fill_0])) := rfl
theorem kf_Tree_init_61 : mcGet K_Tree_init 61 = (61, false, .aload_n 0, 1, mcX0) := rfl
theorem kf_Tree_init_62 : mcGet K_Tree_init 62 = (62, false, .getfield 9, 3, (1, 0, [148, 1], [])) := rfl
theorem kf_Tree_init_65 : mcGet K_Tree_init 65 = (65, false, .iconst 0, 1, mcX0) := rfl
theorem kf_Tree_init_66 : mcGet K_Tree_init 66 = (66, false, .iconst 1, 1, mcX0) := rfl
theorem kf_Tree_init_67 : mcGet K_Tree_init 67 = (67, false, .iastore, 1, mcX0) := rfl
theorem kf_Tree_init_68 : mcGet K_Tree_init 68 = (68, false, .return_, 1, mcX0) := rfl
theorem kf_Tree_add_0 : mcGet K_Tree_add 0 = (0, false, .aload_n 0, 1, mcX0) := rfl
theorem kf_Tree_add_1 : mcGet K_Tree_add 1 = (1, false, .getfield 9, 3, (1, 0, [148, 1], [])) := rfl
theorem kf_Tree_add_4 : mcGet K_Tree_add 4 = (4, false, .iload_n 1, 1, mcX0) := rfl
theorem kf_Tree_add_5 : mcGet K_Tree_add 5 = (5, false, .iload_n 2, 1, mcX0) := rfl
theorem kf_Tree_add_6 : mcGet K_Tree_add 6 = (6, false, .iastore, 1, mcX0) := rfl
theorem kf_Tree_add_7 : mcGet K_Tree_add 7 = (7, false, .aload_n 0, 1, mcX0) := rfl
theorem kf_Tree_add_8 : mcGet K_Tree_add 8 = (8, false, .iload_n 1, 1, mcX0) := rfl
theorem kf_Tree_add_9 : mcGet K_Tree_add 9 = (9, false, .iload_n 3, 1, mcX0) := rfl
theorem kf_Tree_add_10 : mcGet K_Tree_add 10 = (10, false, .iload 4, 2, mcX0) := rfl
theorem kf_Tree_add_12 : mcGet K_Tree_add 12 = (12, false, .invokevirtual 43, 3, (1, 4, [619, 620, 57, 622, 621, 4], [M_Tree_put])) := rfl
theorem kf_Tree_add_15 : mcGet K_Tree_add 15 = (15, false, .return_, 1, mcX0) := rfl
theorem kf_Tree_byteAt_0 : mcGet K_Tree_byteAt 0 = (0, false, .iload_n 2, 1, mcX0) := rfl
theorem kf_Tree_byteAt_1 : mcGet K_Tree_byteAt 1 = (1, false, .aload_n 0, 1, mcX0) := rfl
theorem kf_Tree_byteAt_2 : mcGet K_Tree_byteAt 2 = (2, false, .getfield 21, 3, (1, 3, [156, 1], [])) := rfl
theorem kf_Tree_byteAt_5 : mcGet K_Tree_byteAt 5 = (5, false, .iload_n 1, 1, mcX0) := rfl
theorem kf_Tree_byteAt_6 : mcGet K_Tree_byteAt 6 = (6, false, .iaload, 1, mcX0) := rfl
theorem kf_Tree_byteAt_7 : mcGet K_Tree_byteAt 7 = (7, false, .if_icmp .ge 17, 3, (24, 0, [], [])) := rfl
theorem kf_Tree_byteAt_10 : mcGet K_Tree_byteAt 10 = (10, false, .aload_n 0, 1, mcX0) := rfl
theorem kf_Tree_byteAt_11 : mcGet K_Tree_byteAt 11 = (11, false, .getfield 24, 3, (1, 4, [159, 1], [])) := rfl
theorem kf_Tree_byteAt_14 : mcGet K_Tree_byteAt 14 = (14, false, .iload_n 1, 1, mcX0) := rfl
theorem kf_Tree_byteAt_15 : mcGet K_Tree_byteAt 15 = (15, false, .bipush 64, 2, mcX0) := rfl
theorem kf_Tree_byteAt_17 : mcGet K_Tree_byteAt 17 = (17, false, .imul, 1, mcX0) := rfl
theorem kf_Tree_byteAt_18 : mcGet K_Tree_byteAt 18 = (18, false, .iload_n 2, 1, mcX0) := rfl
theorem kf_Tree_byteAt_19 : mcGet K_Tree_byteAt 19 = (19, false, .iadd, 1, mcX0) := rfl
theorem kf_Tree_byteAt_20 : mcGet K_Tree_byteAt 20 = (20, false, .iaload, 1, mcX0) := rfl
theorem kf_Tree_byteAt_21 : mcGet K_Tree_byteAt 21 = (21, false, .goto 4, 3, (25, 0, [], [])) := rfl
theorem kf_Tree_byteAt_24 : mcGet K_Tree_byteAt 24 = (24, false, .iconst (-1), 1, mcX0) := rfl
theorem kf_Tree_byteAt_25 : mcGet K_Tree_byteAt 25 = (25, false, .ireturn, 1, mcX0) := rfl
theorem kf_Tree_copyFrom_0 : mcGet K_Tree_copyFrom 0 = (0, false, .aload_n 1, 1, mcX0) := rfl
theorem kf_Tree_copyFrom_1 : mcGet K_Tree_copyFrom 1 = (1, false, .getfield 9, 3, (1, 0, [148, 1], [])) := rfl
theorem kf_Tree_copyFrom_4 : mcGet K_Tree_copyFrom 4 = (4, false, .iconst 0, 1, mcX0) := rfl
theorem kf_Tree_copyFrom_5 : mcGet K_Tree_copyFrom 5 = (5, false, .aload_n 0, 1, mcX0) := rfl
theorem kf_Tree_copyFrom_6 : mcGet K_Tree_copyFrom 6 = (6, false, .getfield 9, 3, (1, 0, [148, 1], [])) := rfl
theorem kf_Tree_copyFrom_9 : mcGet K_Tree_copyFrom 9 = (9, false, .iconst 0, 1, mcX0) := rfl
theorem kf_Tree_copyFrom_10 : mcGet K_Tree_copyFrom 10 = (10, false, .bipush 32, 2, mcX0) := rfl
theorem kf_Tree_copyFrom_12 : mcGet K_Tree_copyFrom 12 = (12, false, .invokestatic 33, 3, (0, 0, [781, 530, 69, 531], [])) := rfl
theorem kf_Tree_copyFrom_15 : mcGet K_Tree_copyFrom 15 = (15, false, .aload_n 1, 1, mcX0) := rfl
theorem kf_Tree_copyFrom_16 : mcGet K_Tree_copyFrom 16 = (16, false, .getfield 15, 3, (1, 1, [151, 1], [])) := rfl
theorem kf_Tree_copyFrom_19 : mcGet K_Tree_copyFrom 19 = (19, false, .iconst 0, 1, mcX0) := rfl
theorem kf_Tree_copyFrom_20 : mcGet K_Tree_copyFrom 20 = (20, false, .aload_n 0, 1, mcX0) := rfl
theorem kf_Tree_copyFrom_21 : mcGet K_Tree_copyFrom 21 = (21, false, .getfield 15, 3, (1, 1, [151, 1], [])) := rfl
theorem kf_Tree_copyFrom_24 : mcGet K_Tree_copyFrom 24 = (24, false, .iconst 0, 1, mcX0) := rfl
theorem kf_Tree_copyFrom_25 : mcGet K_Tree_copyFrom 25 = (25, false, .bipush 32, 2, mcX0) := rfl
theorem kf_Tree_copyFrom_27 : mcGet K_Tree_copyFrom 27 = (27, false, .invokestatic 33, 3, (0, 0, [781, 530, 69, 531], [])) := rfl
theorem kf_Tree_copyFrom_30 : mcGet K_Tree_copyFrom 30 = (30, false, .aload_n 1, 1, mcX0) := rfl
theorem kf_Tree_copyFrom_31 : mcGet K_Tree_copyFrom 31 = (31, false, .getfield 18, 3, (1, 2, [153, 1], [])) := rfl
theorem kf_Tree_copyFrom_34 : mcGet K_Tree_copyFrom 34 = (34, false, .iconst 0, 1, mcX0) := rfl
theorem kf_Tree_copyFrom_35 : mcGet K_Tree_copyFrom 35 = (35, false, .aload_n 0, 1, mcX0) := rfl
theorem kf_Tree_copyFrom_36 : mcGet K_Tree_copyFrom 36 = (36, false, .getfield 18, 3, (1, 2, [153, 1], [])) := rfl
theorem kf_Tree_copyFrom_39 : mcGet K_Tree_copyFrom 39 = (39, false, .iconst 0, 1, mcX0) := rfl
theorem kf_Tree_copyFrom_40 : mcGet K_Tree_copyFrom 40 = (40, false, .bipush 32, 2, mcX0) := rfl
theorem kf_Tree_copyFrom_42 : mcGet K_Tree_copyFrom 42 = (42, false, .invokestatic 33, 3, (0, 0, [781, 530, 69, 531], [])) := rfl
theorem kf_Tree_copyFrom_45 : mcGet K_Tree_copyFrom 45 = (45, false, .aload_n 1, 1, mcX0) := rfl
theorem kf_Tree_copyFrom_46 : mcGet K_Tree_copyFrom 46 = (46, false, .getfield 21, 3, (1, 3, [156, 1], [])) := rfl
theorem kf_Tree_copyFrom_49 : mcGet K_Tree_copyFrom 49 = (49, false, .iconst 0, 1, mcX0) := rfl
theorem kf_Tree_copyFrom_50 : mcGet K_Tree_copyFrom 50 = (50, false, .aload_n 0, 1, mcX0) := rfl
theorem kf_Tree_copyFrom_51 : mcGet K_Tree_copyFrom 51 = (51, false, .getfield 21, 3, (1, 3, [156, 1], [])) := rfl
theorem kf_Tree_copyFrom_54 : mcGet K_Tree_copyFrom 54 = (54, false, .iconst 0, 1, mcX0) := rfl
theorem kf_Tree_copyFrom_55 : mcGet K_Tree_copyFrom 55 = (55, false, .bipush 32, 2, mcX0) := rfl
theorem kf_Tree_copyFrom_57 : mcGet K_Tree_copyFrom 57 = (57, false, .invokestatic 33, 3, (0, 0, [781, 530, 69, 531], [])) := rfl
theorem kf_Tree_copyFrom_60 : mcGet K_Tree_copyFrom 60 = (60, false, .aload_n 1, 1, mcX0) := rfl
theorem kf_Tree_copyFrom_61 : mcGet K_Tree_copyFrom 61 = (61, false, .getfield 24, 3, (1, 4, [159, 1], [])) := rfl
theorem kf_Tree_copyFrom_64 : mcGet K_Tree_copyFrom 64 = (64, false, .iconst 0, 1, mcX0) := rfl
theorem kf_Tree_copyFrom_65 : mcGet K_Tree_copyFrom 65 = (65, false, .aload_n 0, 1, mcX0) := rfl
theorem kf_Tree_copyFrom_66 : mcGet K_Tree_copyFrom 66 = (66, false, .getfield 24, 3, (1, 4, [159, 1], [])) := rfl
theorem kf_Tree_copyFrom_69 : mcGet K_Tree_copyFrom 69 = (69, false, .iconst 0, 1, mcX0) := rfl
theorem kf_Tree_copyFrom_70 : mcGet K_Tree_copyFrom 70 = (70, false, .sipush 2048, 3, mcX0) := rfl
theorem kf_Tree_copyFrom_73 : mcGet K_Tree_copyFrom 73 = (73, false, .invokestatic 33, 3, (0, 0, [781, 530, 69, 531], [])) := rfl
theorem kf_Tree_copyFrom_76 : mcGet K_Tree_copyFrom 76 = (76, false, .return_, 1, mcX0) := rfl
theorem kf_Tree_count_0 : mcGet K_Tree_count 0 = (0, false, .iconst 0, 1, mcX0) := rfl
theorem kf_Tree_count_1 : mcGet K_Tree_count 1 = (1, false, .istore_n 1, 1, mcX0) := rfl
theorem kf_Tree_count_2 : mcGet K_Tree_count 2 = (2, false, .iconst 0, 1, mcX0) := rfl
theorem kf_Tree_count_3 : mcGet K_Tree_count 3 = (3, false, .istore_n 2, 1, mcX0) := rfl
theorem kf_Tree_count_4 : mcGet K_Tree_count 4 = (4, true, .iload_n 2, 1, mcX0) := rfl
theorem kf_Tree_count_5 : mcGet K_Tree_count 5 = (5, false, .bipush 32, 2, mcX0) := rfl
theorem kf_Tree_count_7 : mcGet K_Tree_count 7 = (7, false, .if_icmp .ge 22, 3, (29, 0, [], [])) := rfl
theorem kf_Tree_count_10 : mcGet K_Tree_count 10 = (10, false, .aload_n 0, 1, mcX0) := rfl
theorem kf_Tree_count_11 : mcGet K_Tree_count 11 = (11, false, .getfield 9, 3, (1, 0, [148, 1], [])) := rfl
theorem kf_Tree_count_14 : mcGet K_Tree_count 14 = (14, false, .iload_n 2, 1, mcX0) := rfl
theorem kf_Tree_count_15 : mcGet K_Tree_count 15 = (15, false, .iaload, 1, mcX0) := rfl
theorem kf_Tree_count_16 : mcGet K_Tree_count 16 = (16, false, .iconst (-1), 1, mcX0) := rfl
theorem kf_Tree_count_17 : mcGet K_Tree_count 17 = (17, false, .if_icmp .eq 6, 3, (23, 0, [], [])) := rfl
theorem kf_Tree_count_20 : mcGet K_Tree_count 20 = (20, false, .iinc 1 1, 3, mcX0) := rfl
theorem kf_Tree_count_23 : mcGet K_Tree_count 23 = (23, false, .iinc 2 1, 3, mcX0) := rfl
theorem kf_Tree_count_26 : mcGet K_Tree_count 26 = (26, false, .goto (-22), 3, (4, 0, [], [])) := rfl
theorem kf_Tree_count_29 : mcGet K_Tree_count 29 = (29, false, .iload_n 1, 1, mcX0) := rfl
theorem kf_Tree_count_30 : mcGet K_Tree_count 30 = (30, false, .ireturn, 1, mcX0) := rfl
theorem kf_Tree_delete_0 : mcGet K_Tree_delete 0 = (0, false, .aload_n 0, 1, mcX0) := rfl
theorem kf_Tree_delete_1 : mcGet K_Tree_delete 1 = (1, false, .getfield 9, 3, (1, 0, [148, 1], [])) := rfl
theorem kf_Tree_delete_4 : mcGet K_Tree_delete 4 = (4, false, .iload_n 1, 1, mcX0) := rfl
theorem kf_Tree_delete_5 : mcGet K_Tree_delete 5 = (5, false, .iconst (-1), 1, mcX0) := rfl
theorem kf_Tree_delete_6 : mcGet K_Tree_delete 6 = (6, false, .iastore, 1, mcX0) := rfl
theorem kf_Tree_delete_7 : mcGet K_Tree_delete 7 = (7, false, .aload_n 0, 1, mcX0) := rfl
theorem kf_Tree_delete_8 : mcGet K_Tree_delete 8 = (8, false, .getfield 15, 3, (1, 1, [151, 1], [])) := rfl
theorem kf_Tree_delete_11 : mcGet K_Tree_delete 11 = (11, false, .iload_n 1, 1, mcX0) := rfl
theorem kf_Tree_delete_12 : mcGet K_Tree_delete 12 = (12, false, .iconst (-1), 1, mcX0) := rfl
theorem kf_Tree_delete_13 : mcGet K_Tree_delete 13 = (13, false, .iastore, 1, mcX0) := rfl
theorem kf_Tree_delete_14 : mcGet K_Tree_delete 14 = (14, false, .aload_n 0, 1, mcX0) := rfl
theorem kf_Tree_delete_15 : mcGet K_Tree_delete 15 = (15, false, .getfield 18, 3, (1, 2, [153, 1], [])) := rfl
theorem kf_Tree_delete_18 : mcGet K_Tree_delete 18 = (18, false, .iload_n 1, 1, mcX0) := rfl
theorem kf_Tree_delete_19 : mcGet K_Tree_delete 19 = (19, false, .iconst 0, 1, mcX0) := rfl
theorem kf_Tree_delete_20 : mcGet K_Tree_delete 20 = (20, false, .iastore, 1, mcX0) := rfl
theorem kf_Tree_delete_21 : mcGet K_Tree_delete 21 = (21, false, .return_, 1, mcX0) := rfl
theorem kf_Tree_find_0 : mcGet K_Tree_find 0 = (0, false, .iconst 0, 1, mcX0) := rfl
theorem kf_Tree_find_1 : mcGet K_Tree_find 1 = (1, false, .istore_n 3, 1, mcX0) := rfl
theorem kf_Tree_find_2 : mcGet K_Tree_find 2 = (2, true, .iload_n 3, 1, mcX0) := rfl
theorem kf_Tree_find_3 : mcGet K_Tree_find 3 = (3, false, .bipush 32, 2, mcX0) := rfl
theorem kf_Tree_find_5 : mcGet K_Tree_find 5 = (5, false, .if_icmp .ge 31, 3, (36, 0, [], [])) := rfl
theorem kf_Tree_find_8 : mcGet K_Tree_find 8 = (8, false, .aload_n 0, 1, mcX0) := rfl
theorem kf_Tree_find_9 : mcGet K_Tree_find 9 = (9, false, .getfield 15, 3, (1, 1, [151, 1], [])) := rfl
theorem kf_Tree_find_12 : mcGet K_Tree_find 12 = (12, false, .iload_n 3, 1, mcX0) := rfl
theorem kf_Tree_find_13 : mcGet K_Tree_find 13 = (13, false, .iaload, 1, mcX0) := rfl
theorem kf_Tree_find_14 : mcGet K_Tree_find 14 = (14, false, .iload_n 1, 1, mcX0) := rfl
theorem kf_Tree_find_15 : mcGet K_Tree_find 15 = (15, false, .if_icmp .ne 15, 3, (30, 0, [], [])) := rfl
theorem kf_Tree_find_18 : mcGet K_Tree_find 18 = (18, false, .aload_n 0, 1, mcX0) := rfl
theorem kf_Tree_find_19 : mcGet K_Tree_find 19 = (19, false, .getfield 18, 3, (1, 2, [153, 1], [])) := rfl
theorem kf_Tree_find_22 : mcGet K_Tree_find 22 = (22, false, .iload_n 3, 1, mcX0) := rfl
theorem kf_Tree_find_23 : mcGet K_Tree_find 23 = (23, false, .iaload, 1, mcX0) := rfl
theorem kf_Tree_find_24 : mcGet K_Tree_find 24 = (24, false, .iload_n 2, 1, mcX0) := rfl
theorem kf_Tree_find_25 : mcGet K_Tree_find 25 = (25, false, .if_icmp .ne 5, 3, (30, 0, [], [])) := rfl
theorem kf_Tree_find_28 : mcGet K_Tree_find 28 = (28, false, .iload_n 3, 1, mcX0) := rfl
theorem kf_Tree_find_29 : mcGet K_Tree_find 29 = (29, false, .ireturn, 1, mcX0) := rfl
theorem kf_Tree_find_30 : mcGet K_Tree_find 30 = (30, false, .iinc 3 1, 3, mcX0) := rfl
theorem kf_Tree_find_33 : mcGet K_Tree_find 33 = (33, false, .goto (-31), 3, (2, 0, [], [])) := rfl
theorem kf_Tree_find_36 : mcGet K_Tree_find 36 = (36, false, .iconst (-1), 1, mcX0) := rfl
theorem kf_Tree_find_37 : mcGet K_Tree_find 37 = (37, false, .ireturn, 1, mcX0) := rfl
theorem kf_Tree_isEmpty_0 : mcGet K_Tree_isEmpty 0 = (0, false, .iconst 0, 1, mcX0) := rfl
theorem kf_Tree_isEmpty_1 : mcGet K_Tree_isEmpty 1 = (1, false, .istore_n 2, 1, mcX0) := rfl
theorem kf_Tree_isEmpty_2 : mcGet K_Tree_isEmpty 2 = (2, true, .iload_n 2, 1, mcX0) := rfl
theorem kf_Tree_isEmpty_3 : mcGet K_Tree_isEmpty 3 = (3, false, .bipush 32, 2, mcX0) := rfl
theorem kf_Tree_isEmpty_5 : mcGet K_Tree_isEmpty 5 = (5, false, .if_icmp .ge 21, 3, (26, 0, [], [])) := rfl
theorem kf_Tree_isEmpty_8 : mcGet K_Tree_isEmpty 8 = (8, false, .aload_n 0, 1, mcX0) := rfl
theorem kf_Tree_isEmpty_9 : mcGet K_Tree_isEmpty 9 = (9, false, .getfield 15, 3, (1, 1, [151, 1], [])) := rfl
theorem kf_Tree_isEmpty_12 : mcGet K_Tree_isEmpty 12 = (12, false, .iload_n 2, 1, mcX0) := rfl
theorem kf_Tree_isEmpty_13 : mcGet K_Tree_isEmpty 13 = (13, false, .iaload, 1, mcX0) := rfl
theorem kf_Tree_isEmpty_14 : mcGet K_Tree_isEmpty 14 = (14, false, .iload_n 1, 1, mcX0) := rfl
theorem kf_Tree_isEmpty_15 : mcGet K_Tree_isEmpty 15 = (15, false, .if_icmp .ne 5, 3, (20, 0, [], [])) := rfl
theorem kf_Tree_isEmpty_18 : mcGet K_Tree_isEmpty 18 = (18, false, .iconst 0, 1, mcX0) := rfl
theorem kf_Tree_isEmpty_19 : mcGet K_Tree_isEmpty 19 = (19, false, .ireturn, 1, (1, 0, [], [])) := rfl
theorem kf_Tree_isEmpty_20 : mcGet K_Tree_isEmpty 20 = (20, false, .iinc 2 1, 3, mcX0) := rfl
theorem kf_Tree_isEmpty_23 : mcGet K_Tree_isEmpty 23 = (23, false, .goto (-21), 3, (2, 0, [], [])) := rfl
theorem kf_Tree_isEmpty_26 : mcGet K_Tree_isEmpty 26 = (26, false, .iconst 1, 1, mcX0) := rfl
theorem kf_Tree_isEmpty_27 : mcGet K_Tree_isEmpty 27 = (27, false, .ireturn, 1, (1, 0, [], [])) := rfl
theorem kf_Tree_isOrLiesIn_0 : mcGet K_Tree_isOrLiesIn 0 = (0, false, .iload_n 1, 1, mcX0) := rfl
theorem kf_Tree_isOrLiesIn_1 : mcGet K_Tree_isOrLiesIn 1 = (1, false, .istore_n 3, 1, mcX0) := rfl
theorem kf_Tree_isOrLiesIn_2 : mcGet K_Tree_isOrLiesIn 2 = (2, false, .iconst 0, 1, mcX0) := rfl
theorem kf_Tree_isOrLiesIn_3 : mcGet K_Tree_isOrLiesIn 3 = (3, false, .istore 4, 2, mcX0) := rfl
theorem kf_Tree_isOrLiesIn_5 : mcGet K_Tree_isOrLiesIn 5 = (5, true, .iload 4, 2, mcX0) := rfl
theorem kf_Tree_isOrLiesIn_7 : mcGet K_Tree_isOrLiesIn 7 = (7, false, .bipush 32, 2, mcX0) := rfl
theorem kf_Tree_isOrLiesIn_9 : mcGet K_Tree_isOrLiesIn 9 = (9, false, .if_icmp .ge 28, 3, (37, 0, [], [])) := rfl
theorem kf_Tree_isOrLiesIn_12 : mcGet K_Tree_isOrLiesIn 12 = (12, false, .iload_n 3, 1, mcX0) := rfl
theorem kf_Tree_isOrLiesIn_13 : mcGet K_Tree_isOrLiesIn 13 = (13, false, .iconst (-1), 1, mcX0) := rfl
theorem kf_Tree_isOrLiesIn_14 : mcGet K_Tree_isOrLiesIn 14 = (14, false, .if_icmp .eq 23, 3, (37, 0, [], [])) := rfl
theorem kf_Tree_isOrLiesIn_17 : mcGet K_Tree_isOrLiesIn 17 = (17, false, .iload_n 3, 1, mcX0) := rfl
theorem kf_Tree_isOrLiesIn_18 : mcGet K_Tree_isOrLiesIn 18 = (18, false, .iload_n 2, 1, mcX0) := rfl
theorem kf_Tree_isOrLiesIn_19 : mcGet K_Tree_isOrLiesIn 19 = (19, false, .if_icmp .ne 5, 3, (24, 0, [], [])) := rfl
theorem kf_Tree_isOrLiesIn_22 : mcGet K_Tree_isOrLiesIn 22 = (22, false, .iconst 1, 1, mcX0) := rfl
theorem kf_Tree_isOrLiesIn_23 : mcGet K_Tree_isOrLiesIn 23 = (23, false, .ireturn, 1, (1, 0, [], [])) := rfl
theorem kf_Tree_isOrLiesIn_24 : mcGet K_Tree_isOrLiesIn 24 = (24, false, .aload_n 0, 1, mcX0) := rfl
theorem kf_Tree_isOrLiesIn_25 : mcGet K_Tree_isOrLiesIn 25 = (25, false, .getfield 15, 3, (1, 1, [151, 1], [])) := rfl
theorem kf_Tree_isOrLiesIn_28 : mcGet K_Tree_isOrLiesIn 28 = (28, false, .iload_n 3, 1, mcX0) := rfl
theorem kf_Tree_isOrLiesIn_29 : mcGet K_Tree_isOrLiesIn 29 = (29, false, .iaload, 1, mcX0) := rfl
theorem kf_Tree_isOrLiesIn_30 : mcGet K_Tree_isOrLiesIn 30 = (30, false, .istore_n 3, 1, mcX0) := rfl
theorem kf_Tree_isOrLiesIn_31 : mcGet K_Tree_isOrLiesIn 31 = (31, false, .iinc 4 1, 3, mcX0) := rfl
theorem kf_Tree_isOrLiesIn_34 : mcGet K_Tree_isOrLiesIn 34 = (34, false, .goto (-29), 3, (5, 0, [], [])) := rfl
theorem kf_Tree_isOrLiesIn_37 : mcGet K_Tree_isOrLiesIn 37 = (37, false, .iconst 0, 1, mcX0) := rfl
theorem kf_Tree_isOrLiesIn_38 : mcGet K_Tree_isOrLiesIn 38 = (38, false, .ireturn, 1, (1, 0, [], [])) := rfl
theorem kf_Tree_leastFree_0 : mcGet K_Tree_leastFree 0 = (0, false, .iconst 0, 1, mcX0) := rfl
theorem kf_Tree_leastFree_1 : mcGet K_Tree_leastFree 1 = (1, false, .istore_n 1, 1, mcX0) := rfl
theorem kf_Tree_leastFree_2 : mcGet K_Tree_leastFree 2 = (2, true, .iload_n 1, 1, mcX0) := rfl
theorem kf_Tree_leastFree_3 : mcGet K_Tree_leastFree 3 = (3, false, .bipush 32, 2, mcX0) := rfl
theorem kf_Tree_leastFree_5 : mcGet K_Tree_leastFree 5 = (5, false, .if_icmp .ge 21, 3, (26, 0, [], [])) := rfl
theorem kf_Tree_leastFree_8 : mcGet K_Tree_leastFree 8 = (8, false, .aload_n 0, 1, mcX0) := rfl
theorem kf_Tree_leastFree_9 : mcGet K_Tree_leastFree 9 = (9, false, .getfield 9, 3, (1, 0, [148, 1], [])) := rfl
theorem kf_Tree_leastFree_12 : mcGet K_Tree_leastFree 12 = (12, false, .iload_n 1, 1, mcX0) := rfl
theorem kf_Tree_leastFree_13 : mcGet K_Tree_leastFree 13 = (13, false, .iaload, 1, mcX0) := rfl
theorem kf_Tree_leastFree_14 : mcGet K_Tree_leastFree 14 = (14, false, .iconst (-1), 1, mcX0) := rfl
theorem kf_Tree_leastFree_15 : mcGet K_Tree_leastFree 15 = (15, false, .if_icmp .ne 5, 3, (20, 0, [], [])) := rfl
theorem kf_Tree_leastFree_18 : mcGet K_Tree_leastFree 18 = (18, false, .iload_n 1, 1, mcX0) := rfl
theorem kf_Tree_leastFree_19 : mcGet K_Tree_leastFree 19 = (19, false, .ireturn, 1, mcX0) := rfl
theorem kf_Tree_leastFree_20 : mcGet K_Tree_leastFree 20 = (20, false, .iinc 1 1, 3, mcX0) := rfl
theorem kf_Tree_leastFree_23 : mcGet K_Tree_leastFree 23 = (23, false, .goto (-21), 3, (2, 0, [], [])) := rfl
theorem kf_Tree_leastFree_26 : mcGet K_Tree_leastFree 26 = (26, false, .iconst (-1), 1, mcX0) := rfl
theorem kf_Tree_leastFree_27 : mcGet K_Tree_leastFree 27 = (27, false, .ireturn, 1, mcX0) := rfl
theorem kf_Tree_lesserThan_0 : mcGet K_Tree_lesserThan 0 = (0, false, .iconst 0, 1, mcX0) := rfl
theorem kf_Tree_lesserThan_1 : mcGet K_Tree_lesserThan 1 = (1, false, .istore_n 3, 1, mcX0) := rfl
theorem kf_Tree_lesserThan_2 : mcGet K_Tree_lesserThan 2 = (2, false, .iconst 0, 1, mcX0) := rfl
theorem kf_Tree_lesserThan_3 : mcGet K_Tree_lesserThan 3 = (3, false, .istore 4, 2, mcX0) := rfl
theorem kf_Tree_lesserThan_5 : mcGet K_Tree_lesserThan 5 = (5, true, .iload 4, 2, mcX0) := rfl
theorem kf_Tree_lesserThan_7 : mcGet K_Tree_lesserThan 7 = (7, false, .bipush 32, 2, mcX0) := rfl
theorem kf_Tree_lesserThan_9 : mcGet K_Tree_lesserThan 9 = (9, false, .if_icmp .ge 34, 3, (43, 0, [], [])) := rfl
theorem kf_Tree_lesserThan_12 : mcGet K_Tree_lesserThan 12 = (12, false, .aload_n 0, 1, mcX0) := rfl
theorem kf_Tree_lesserThan_13 : mcGet K_Tree_lesserThan 13 = (13, false, .getfield 15, 3, (1, 1, [151, 1], [])) := rfl
theorem kf_Tree_lesserThan_16 : mcGet K_Tree_lesserThan 16 = (16, false, .iload 4, 2, mcX0) := rfl
theorem kf_Tree_lesserThan_18 : mcGet K_Tree_lesserThan 18 = (18, false, .iaload, 1, mcX0) := rfl
theorem kf_Tree_lesserThan_19 : mcGet K_Tree_lesserThan 19 = (19, false, .iload_n 1, 1, mcX0) := rfl
theorem kf_Tree_lesserThan_20 : mcGet K_Tree_lesserThan 20 = (20, false, .if_icmp .ne 17, 3, (37, 0, [], [])) := rfl
theorem kf_Tree_lesserThan_23 : mcGet K_Tree_lesserThan 23 = (23, false, .aload_n 0, 1, mcX0) := rfl
theorem kf_Tree_lesserThan_24 : mcGet K_Tree_lesserThan 24 = (24, false, .getfield 18, 3, (1, 2, [153, 1], [])) := rfl
theorem kf_Tree_lesserThan_27 : mcGet K_Tree_lesserThan 27 = (27, false, .iload 4, 2, mcX0) := rfl
theorem kf_Tree_lesserThan_29 : mcGet K_Tree_lesserThan 29 = (29, false, .iaload, 1, mcX0) := rfl
theorem kf_Tree_lesserThan_30 : mcGet K_Tree_lesserThan 30 = (30, false, .iload_n 2, 1, mcX0) := rfl
theorem kf_Tree_lesserThan_31 : mcGet K_Tree_lesserThan 31 = (31, false, .if_icmp .ge 6, 3, (37, 0, [], [])) := rfl
theorem kf_Tree_lesserThan_34 : mcGet K_Tree_lesserThan 34 = (34, false, .iinc 3 1, 3, mcX0) := rfl
theorem kf_Tree_lesserThan_37 : mcGet K_Tree_lesserThan 37 = (37, false, .iinc 4 1, 3, mcX0) := rfl
theorem kf_Tree_lesserThan_40 : mcGet K_Tree_lesserThan 40 = (40, false, .goto (-35), 3, (5, 0, [], [])) := rfl
theorem kf_Tree_lesserThan_43 : mcGet K_Tree_lesserThan 43 = (43, false, .iload_n 3, 1, mcX0) := rfl
theorem kf_Tree_lesserThan_44 : mcGet K_Tree_lesserThan 44 = (44, false, .ireturn, 1, mcX0) := rfl
theorem kf_Tree_put_0 : mcGet K_Tree_put 0 = (0, false, .aload_n 0, 1, mcX0) := rfl
theorem kf_Tree_put_1 : mcGet K_Tree_put 1 = (1, false, .getfield 15, 3, (1, 1, [151, 1], [])) := rfl
theorem kf_Tree_put_4 : mcGet K_Tree_put 4 = (4, false, .iload_n 1, 1, mcX0) := rfl
theorem kf_Tree_put_5 : mcGet K_Tree_put 5 = (5, false, .iload_n 2, 1, mcX0) := rfl
theorem kf_Tree_put_6 : mcGet K_Tree_put 6 = (6, false, .iastore, 1, mcX0) := rfl
theorem kf_Tree_put_7 : mcGet K_Tree_put 7 = (7, false, .aload_n 0, 1, mcX0) := rfl
theorem kf_Tree_put_8 : mcGet K_Tree_put 8 = (8, false, .getfield 18, 3, (1, 2, [153, 1], [])) := rfl
theorem kf_Tree_put_11 : mcGet K_Tree_put 11 = (11, false, .iload_n 1, 1, mcX0) := rfl
theorem kf_Tree_put_12 : mcGet K_Tree_put 12 = (12, false, .iload_n 3, 1, mcX0) := rfl
theorem kf_Tree_put_13 : mcGet K_Tree_put 13 = (13, false, .iastore, 1, mcX0) := rfl
theorem kf_Tree_put_14 : mcGet K_Tree_put 14 = (14, false, .return_, 1, mcX0) := rfl
theorem kf_Tree_resize_0 : mcGet K_Tree_resize 0 = (0, false, .iload_n 2, 1, mcX0) := rfl
theorem kf_Tree_resize_1 : mcGet K_Tree_resize 1 = (1, false, .istore_n 3, 1, mcX0) := rfl
theorem kf_Tree_resize_2 : mcGet K_Tree_resize 2 = (2, true, .iload_n 3, 1, mcX0) := rfl
theorem kf_Tree_resize_3 : mcGet K_Tree_resize 3 = (3, false, .aload_n 0, 1, mcX0) := rfl
theorem kf_Tree_resize_4 : mcGet K_Tree_resize 4 = (4, false, .getfield 21, 3, (1, 3, [156, 1], [])) := rfl
theorem kf_Tree_resize_7 : mcGet K_Tree_resize 7 = (7, false, .iload_n 1, 1, mcX0) := rfl
theorem kf_Tree_resize_8 : mcGet K_Tree_resize 8 = (8, false, .iaload, 1, mcX0) := rfl
theorem kf_Tree_resize_9 : mcGet K_Tree_resize 9 = (9, false, .if_icmp .ge 21, 3, (30, 0, [], [])) := rfl
theorem kf_Tree_resize_12 : mcGet K_Tree_resize 12 = (12, false, .aload_n 0, 1, mcX0) := rfl
theorem kf_Tree_resize_13 : mcGet K_Tree_resize 13 = (13, false, .getfield 24, 3, (1, 4, [159, 1], [])) := rfl
theorem kf_Tree_resize_16 : mcGet K_Tree_resize 16 = (16, false, .iload_n 1, 1, mcX0) := rfl
theorem kf_Tree_resize_17 : mcGet K_Tree_resize 17 = (17, false, .bipush 64, 2, mcX0) := rfl
theorem kf_Tree_resize_19 : mcGet K_Tree_resize 19 = (19, false, .imul, 1, mcX0) := rfl
theorem kf_Tree_resize_20 : mcGet K_Tree_resize 20 = (20, false, .iload_n 3, 1, mcX0) := rfl
theorem kf_Tree_resize_21 : mcGet K_Tree_resize 21 = (21, false, .iadd, 1, mcX0) := rfl
theorem kf_Tree_resize_22 : mcGet K_Tree_resize 22 = (22, false, .iconst 0, 1, mcX0) := rfl
theorem kf_Tree_resize_23 : mcGet K_Tree_resize 23 = (23, false, .iastore, 1, mcX0) := rfl
theorem kf_Tree_resize_24 : mcGet K_Tree_resize 24 = (24, false, .iinc 3 1, 3, mcX0) := rfl
theorem kf_Tree_resize_27 : mcGet K_Tree_resize 27 = (27, false, .goto (-25), 3, (2, 0, [], [])) := rfl
theorem kf_Tree_resize_30 : mcGet K_Tree_resize 30 = (30, false, .aload_n 0, 1, mcX0) := rfl
theorem kf_Tree_resize_31 : mcGet K_Tree_resize 31 = (31, false, .getfield 21, 3, (1, 3, [156, 1], [])) := rfl
theorem kf_Tree_resize_34 : mcGet K_Tree_resize 34 = (34, false, .iload_n 1, 1, mcX0) := rfl
theorem kf_Tree_resize_35 : mcGet K_Tree_resize 35 = (35, false, .iload_n 2, 1, mcX0) := rfl
theorem kf_Tree_resize_36 : mcGet K_Tree_resize 36 = (36, false, .iastore, 1, mcX0) := rfl
theorem kf_Tree_resize_37 : mcGet K_Tree_resize 37 = (37, false, .return_, 1, mcX0) := rfl
theorem kf_Tree_setByte_0 : mcGet K_Tree_setByte 0 = (0, false, .aload_n 0, 1, mcX0) := rfl
theorem kf_Tree_setByte_1 : mcGet K_Tree_setByte 1 = (1, false, .getfield 24, 3, (1, 4, [159, 1], [])) := rfl
theorem kf_Tree_setByte_4 : mcGet K_Tree_setByte 4 = (4, false, .iload_n 1, 1, mcX0) := rfl
theorem kf_Tree_setByte_5 : mcGet K_Tree_setByte 5 = (5, false, .bipush 64, 2, mcX0) := rfl
theorem kf_Tree_setByte_7 : mcGet K_Tree_setByte 7 = (7, false, .imul, 1, mcX0) := rfl
theorem kf_Tree_setByte_8 : mcGet K_Tree_setByte 8 = (8, false, .iload_n 2, 1, mcX0) := rfl
theorem kf_Tree_setByte_9 : mcGet K_Tree_setByte 9 = (9, false, .iadd, 1, mcX0) := rfl
theorem kf_Tree_setByte_10 : mcGet K_Tree_setByte 10 = (10, false, .iload_n 3, 1, mcX0) := rfl
theorem kf_Tree_setByte_11 : mcGet K_Tree_setByte 11 = (11, false, .iastore, 1, mcX0) := rfl
theorem kf_Tree_setByte_12 : mcGet K_Tree_setByte 12 = (12, false, .iload_n 2, 1, mcX0) := rfl
theorem kf_Tree_setByte_13 : mcGet K_Tree_setByte 13 = (13, false, .aload_n 0, 1, mcX0) := rfl
theorem kf_Tree_setByte_14 : mcGet K_Tree_setByte 14 = (14, false, .getfield 21, 3, (1, 3, [156, 1], [])) := rfl
theorem kf_Tree_setByte_17 : mcGet K_Tree_setByte 17 = (17, false, .iload_n 1, 1, mcX0) := rfl
theorem kf_Tree_setByte_18 : mcGet K_Tree_setByte 18 = (18, false, .iaload, 1, mcX0) := rfl
theorem kf_Tree_setByte_19 : mcGet K_Tree_setByte 19 = (19, false, .if_icmp .lt 12, 3, (31, 0, [], [])) := rfl
theorem kf_Tree_setByte_22 : mcGet K_Tree_setByte 22 = (22, false, .aload_n 0, 1, mcX0) := rfl
theorem kf_Tree_setByte_23 : mcGet K_Tree_setByte 23 = (23, false, .getfield 21, 3, (1, 3, [156, 1], [])) := rfl
theorem kf_Tree_setByte_26 : mcGet K_Tree_setByte 26 = (26, false, .iload_n 1, 1, mcX0) := rfl
theorem kf_Tree_setByte_27 : mcGet K_Tree_setByte 27 = (27, false, .iload_n 2, 1, mcX0) := rfl
theorem kf_Tree_setByte_28 : mcGet K_Tree_setByte 28 = (28, false, .iconst 1, 1, mcX0) := rfl
theorem kf_Tree_setByte_29 : mcGet K_Tree_setByte 29 = (29, false, .iadd, 1, mcX0) := rfl
theorem kf_Tree_setByte_30 : mcGet K_Tree_setByte 30 = (30, false, .iastore, 1, mcX0) := rfl
theorem kf_Tree_setByte_31 : mcGet K_Tree_setByte 31 = (31, false, .return_, 1, mcX0) := rfl
theorem kf_Tree_withLesser_0 : mcGet K_Tree_withLesser 0 = (0, false, .iconst 0, 1, mcX0) := rfl
theorem kf_Tree_withLesser_1 : mcGet K_Tree_withLesser 1 = (1, false, .istore_n 3, 1, mcX0) := rfl
theorem kf_Tree_withLesser_2 : mcGet K_Tree_withLesser 2 = (2, true, .iload_n 3, 1, mcX0) := rfl
theorem kf_Tree_withLesser_3 : mcGet K_Tree_withLesser 3 = (3, false, .bipush 32, 2, mcX0) := rfl
theorem kf_Tree_withLesser_5 : mcGet K_Tree_withLesser 5 = (5, false, .if_icmp .ge 36, 3, (41, 0, [], [])) := rfl
theorem kf_Tree_withLesser_8 : mcGet K_Tree_withLesser 8 = (8, false, .aload_n 0, 1, mcX0) := rfl
theorem kf_Tree_withLesser_9 : mcGet K_Tree_withLesser 9 = (9, false, .getfield 15, 3, (1, 1, [151, 1], [])) := rfl
theorem kf_Tree_withLesser_12 : mcGet K_Tree_withLesser 12 = (12, false, .iload_n 3, 1, mcX0) := rfl
theorem kf_Tree_withLesser_13 : mcGet K_Tree_withLesser 13 = (13, false, .iaload, 1, mcX0) := rfl
theorem kf_Tree_withLesser_14 : mcGet K_Tree_withLesser 14 = (14, false, .iload_n 1, 1, mcX0) := rfl
theorem kf_Tree_withLesser_15 : mcGet K_Tree_withLesser 15 = (15, false, .if_icmp .ne 20, 3, (35, 0, [], [])) := rfl
theorem kf_Tree_withLesser_18 : mcGet K_Tree_withLesser 18 = (18, false, .aload_n 0, 1, mcX0) := rfl
theorem kf_Tree_withLesser_19 : mcGet K_Tree_withLesser 19 = (19, false, .iload_n 1, 1, mcX0) := rfl
theorem kf_Tree_withLesser_20 : mcGet K_Tree_withLesser 20 = (20, false, .aload_n 0, 1, mcX0) := rfl
theorem kf_Tree_withLesser_21 : mcGet K_Tree_withLesser 21 = (21, false, .getfield 18, 3, (1, 2, [153, 1], [])) := rfl
theorem kf_Tree_withLesser_24 : mcGet K_Tree_withLesser 24 = (24, false, .iload_n 3, 1, mcX0) := rfl
theorem kf_Tree_withLesser_25 : mcGet K_Tree_withLesser 25 = (25, false, .iaload, 1, mcX0) := rfl
theorem kf_Tree_withLesser_26 : mcGet K_Tree_withLesser 26 = (26, false, .invokevirtual 39, 3, (1, 3, [727, 728, 57, 730, 729, 5], [M_Tree_lesserThan])) := rfl
theorem kf_Tree_withLesser_29 : mcGet K_Tree_withLesser 29 = (29, false, .iload_n 2, 1, mcX0) := rfl
theorem kf_Tree_withLesser_30 : mcGet K_Tree_withLesser 30 = (30, false, .if_icmp .ne 5, 3, (35, 0, [], [])) := rfl
theorem kf_Tree_withLesser_33 : mcGet K_Tree_withLesser 33 = (33, false, .iload_n 3, 1, mcX0) := rfl
theorem kf_Tree_withLesser_34 : mcGet K_Tree_withLesser 34 = (34, false, .ireturn, 1, mcX0) := rfl
theorem kf_Tree_withLesser_35 : mcGet K_Tree_withLesser 35 = (35, false, .iinc 3 1, 3, mcX0) := rfl
theorem kf_Tree_withLesser_38 : mcGet K_Tree_withLesser 38 = (38, false, .goto (-36), 3, (2, 0, [], [])) := rfl
theorem kf_Tree_withLesser_41 : mcGet K_Tree_withLesser 41 = (41, false, .iconst (-1), 1, mcX0) := rfl
theorem kf_Tree_withLesser_42 : mcGet K_Tree_withLesser 42 = (42, false, .ireturn, 1, mcX0) := rfl
theorem kf_Worker_init_0 : mcGet K_Worker_init 0 = (0, false, .aload_n 0, 1, mcX0) := rfl
theorem kf_Worker_init_1 : mcGet K_Worker_init 1 = (1, false, .invokespecial 3, 3, (0, 0, [132, 77, 78, 0], [])) := rfl
theorem kf_Worker_init_4 : mcGet K_Worker_init 4 = (4, false, .aload_n 0, 1, mcX0) := rfl
theorem kf_Worker_init_5 : mcGet K_Worker_init 5 = (5, false, .new 9, 3, (4, 6, [133, 134, 56], [])) := rfl
theorem kf_Worker_init_8 : mcGet K_Worker_init 8 = (8, false, .dup, 1, mcX0) := rfl
theorem kf_Worker_init_9 : mcGet K_Worker_init 9 = (9, false, .invokespecial 11, 3, (4, 1, [135, 136, 56, 137], [M_Disk_init])) := rfl
theorem kf_Worker_init_12 : mcGet K_Worker_init 12 = (12, false, .putfield 12, 3, (5, 0, [245, 1], [])) := rfl
theorem kf_Worker_init_15 : mcGet K_Worker_init 15 = (15, false, .aload_n 0, 1, mcX0) := rfl
theorem kf_Worker_init_16 : mcGet K_Worker_init 16 = (16, false, .aload_n 0, 1, mcX0) := rfl
theorem kf_Worker_init_17 : mcGet K_Worker_init 17 = (17, false, .getfield 12, 3, (5, 0, [245, 1], [])) := rfl
theorem kf_Worker_init_20 : mcGet K_Worker_init 20 = (20, false, .getfield 18, 3, (4, 0, [218, 1], [])) := rfl
theorem kf_Worker_init_23 : mcGet K_Worker_init 23 = (23, false, .putfield 22, 3, (5, 1, [247, 1], [])) := rfl
theorem kf_Worker_init_26 : mcGet K_Worker_init 26 = (26, false, .aload_n 0, 1, mcX0) := rfl
theorem kf_Worker_init_27 : mcGet K_Worker_init 27 = (27, false, .aload_n 0, 1, mcX0) := rfl
theorem kf_Worker_init_28 : mcGet K_Worker_init 28 = (28, false, .getfield 12, 3, (5, 0, [245, 1], [])) := rfl
theorem kf_Worker_init_31 : mcGet K_Worker_init 31 = (31, false, .getfield 23, 3, (4, 1, [221, 1], [])) := rfl
theorem kf_Worker_init_34 : mcGet K_Worker_init 34 = (34, false, .putfield 27, 3, (5, 2, [248, 1], [])) := rfl
theorem kf_Worker_init_37 : mcGet K_Worker_init 37 = (37, false, .return_, 1, mcX0) := rfl
theorem kf_Worker_bindRoot_0 : mcGet K_Worker_bindRoot 0 = (0, false, .aload_n 0, 1, mcX0) := rfl
theorem kf_Worker_bindRoot_1 : mcGet K_Worker_bindRoot 1 = (1, false, .getfield 12, 3, (5, 0, [245, 1], [])) := rfl
theorem kf_Worker_bindRoot_4 : mcGet K_Worker_bindRoot 4 = (4, false, .aload_n 0, 1, mcX0) := rfl
theorem kf_Worker_bindRoot_5 : mcGet K_Worker_bindRoot 5 = (5, false, .getfield 28, 3, (5, 3, [249, 0], [])) := rfl
theorem kf_Worker_bindRoot_8 : mcGet K_Worker_bindRoot 8 = (8, false, .aload_n 0, 1, mcX0) := rfl
theorem kf_Worker_bindRoot_9 : mcGet K_Worker_bindRoot 9 = (9, false, .getfield 92, 3, (5, 7, [253, 0], [])) := rfl
theorem kf_Worker_bindRoot_12 : mcGet K_Worker_bindRoot 12 = (12, false, .iconst 0, 1, mcX0) := rfl
theorem kf_Worker_bindRoot_13 : mcGet K_Worker_bindRoot 13 = (13, false, .invokevirtual 124, 3, (4, 4, [595, 596, 56, 598, 597, 4], [M_Disk_bind])) := rfl
theorem kf_Worker_bindRoot_16 : mcGet K_Worker_bindRoot 16 = (16, false, .iconst 0, 1, mcX0) := rfl
theorem kf_Worker_bindRoot_17 : mcGet K_Worker_bindRoot 17 = (17, false, .ireturn, 1, mcX0) := rfl
theorem kf_Worker_claimBytes_0 : mcGet K_Worker_claimBytes 0 = (0, false, .aload_n 0, 1, mcX0) := rfl
theorem kf_Worker_claimBytes_1 : mcGet K_Worker_claimBytes 1 = (1, false, .invokevirtual 216, 3, (5, 1, [735, 737, 55, 738, 17, 1], [M_Worker_isRange])) := rfl
theorem kf_Worker_claimBytes_4 : mcGet K_Worker_claimBytes 4 = (4, false, .ifCond .eq 10, 3, (14, 0, [], [])) := rfl
theorem kf_Worker_claimBytes_7 : mcGet K_Worker_claimBytes 7 = (7, false, .aload_n 0, 1, mcX0) := rfl
theorem kf_Worker_claimBytes_8 : mcGet K_Worker_claimBytes 8 = (8, false, .invokevirtual 219, 3, (5, 1, [739, 741, 55, 742, 18, 1], [M_Worker_isSort])) := rfl
theorem kf_Worker_claimBytes_11 : mcGet K_Worker_claimBytes 11 = (11, false, .ifCond .ne 6, 3, (17, 0, [], [])) := rfl
theorem kf_Worker_claimBytes_14 : mcGet K_Worker_claimBytes 14 = (14, false, .bipush 6, 2, mcX0) := rfl
theorem kf_Worker_claimBytes_16 : mcGet K_Worker_claimBytes 16 = (16, false, .ireturn, 1, mcX0) := rfl
theorem kf_Worker_claimBytes_17 : mcGet K_Worker_claimBytes 17 = (17, false, .aload_n 0, 1, mcX0) := rfl
theorem kf_Worker_claimBytes_18 : mcGet K_Worker_claimBytes 18 = (18, false, .getfield 27, 3, (5, 2, [248, 1], [])) := rfl
theorem kf_Worker_claimBytes_21 : mcGet K_Worker_claimBytes 21 = (21, false, .aload_n 0, 1, mcX0) := rfl
theorem kf_Worker_claimBytes_22 : mcGet K_Worker_claimBytes 22 = (22, false, .getfield 28, 3, (5, 3, [249, 0], [])) := rfl
theorem kf_Worker_claimBytes_25 : mcGet K_Worker_claimBytes 25 = (25, false, .aload_n 0, 1, mcX0) := rfl
theorem kf_Worker_claimBytes_26 : mcGet K_Worker_claimBytes 26 = (26, false, .getfield 115, 3, (5, 11, [257, 0], [])) := rfl
theorem kf_Worker_claimBytes_29 : mcGet K_Worker_claimBytes 29 = (29, false, .aload_n 0, 1, mcX0) := rfl
theorem kf_Worker_claimBytes_30 : mcGet K_Worker_claimBytes 30 = (30, false, .getfield 95, 3, (5, 8, [254, 0], [])) := rfl
theorem kf_Worker_claimBytes_33 : mcGet K_Worker_claimBytes 33 = (33, false, .aload_n 0, 1, mcX0) := rfl
theorem kf_Worker_claimBytes_34 : mcGet K_Worker_claimBytes 34 = (34, false, .getfield 98, 3, (5, 9, [255, 0], [])) := rfl
theorem kf_Worker_claimBytes_37 : mcGet K_Worker_claimBytes 37 = (37, false, .invokestatic 209, 3, (0, 2, [714, 715, 55, 716, 0, 2], [M_Worker_range])) := rfl
theorem kf_Worker_claimBytes_40 : mcGet K_Worker_claimBytes 40 = (40, false, .aload_n 0, 1, mcX0) := rfl
theorem kf_Worker_claimBytes_41 : mcGet K_Worker_claimBytes 41 = (41, false, .getfield 101, 3, (5, 10, [256, 0], [])) := rfl
theorem kf_Worker_claimBytes_44 : mcGet K_Worker_claimBytes 44 = (44, false, .invokevirtual 230, 3, (2, 5, [765, 766, 59, 768, 767, 9], [M_Locks_hasFormer])) := rfl
theorem kf_Worker_claimBytes_47 : mcGet K_Worker_claimBytes 47 = (47, false, .ifCond .ne 6, 3, (53, 0, [], [])) := rfl
theorem kf_Worker_claimBytes_50 : mcGet K_Worker_claimBytes 50 = (50, false, .bipush 10, 2, mcX0) := rfl
theorem kf_Worker_claimBytes_52 : mcGet K_Worker_claimBytes 52 = (52, false, .ireturn, 1, mcX0) := rfl
theorem kf_Worker_claimBytes_53 : mcGet K_Worker_claimBytes 53 = (53, false, .aload_n 0, 1, mcX0) := rfl
theorem kf_Worker_claimBytes_54 : mcGet K_Worker_claimBytes 54 = (54, false, .getfield 27, 3, (5, 2, [248, 1], [])) := rfl
theorem kf_Worker_claimBytes_57 : mcGet K_Worker_claimBytes 57 = (57, false, .aload_n 0, 1, mcX0) := rfl
theorem kf_Worker_claimBytes_58 : mcGet K_Worker_claimBytes 58 = (58, false, .getfield 28, 3, (5, 3, [249, 0], [])) := rfl
theorem kf_Worker_claimBytes_61 : mcGet K_Worker_claimBytes 61 = (61, false, .aload_n 0, 1, mcX0) := rfl
theorem kf_Worker_claimBytes_62 : mcGet K_Worker_claimBytes 62 = (62, false, .getfield 115, 3, (5, 11, [257, 0], [])) := rfl
theorem kf_Worker_claimBytes_65 : mcGet K_Worker_claimBytes 65 = (65, false, .aload_n 0, 1, mcX0) := rfl
theorem kf_Worker_claimBytes_66 : mcGet K_Worker_claimBytes 66 = (66, false, .getfield 95, 3, (5, 8, [254, 0], [])) := rfl
theorem kf_Worker_claimBytes_69 : mcGet K_Worker_claimBytes 69 = (69, false, .aload_n 0, 1, mcX0) := rfl
theorem kf_Worker_claimBytes_70 : mcGet K_Worker_claimBytes 70 = (70, false, .getfield 98, 3, (5, 9, [255, 0], [])) := rfl
theorem kf_Worker_claimBytes_73 : mcGet K_Worker_claimBytes 73 = (73, false, .invokestatic 209, 3, (0, 2, [714, 715, 55, 716, 0, 2], [M_Worker_range])) := rfl
theorem kf_Worker_claimBytes_76 : mcGet K_Worker_claimBytes 76 = (76, false, .aload_n 0, 1, mcX0) := rfl
theorem kf_Worker_claimBytes_77 : mcGet K_Worker_claimBytes 77 = (77, false, .getfield 101, 3, (5, 10, [256, 0], [])) := rfl
theorem kf_Worker_claimBytes_80 : mcGet K_Worker_claimBytes 80 = (80, false, .invokevirtual 222, 3, (2, 5, [743, 744, 59, 746, 745, 7], [M_Locks_give])) := rfl
theorem kf_Worker_claimBytes_83 : mcGet K_Worker_claimBytes 83 = (83, false, .aload_n 0, 1, mcX0) := rfl
theorem kf_Worker_claimBytes_84 : mcGet K_Worker_claimBytes 84 = (84, false, .invokevirtual 86, 3, (5, 1, [752, 754, 55, 755, 19, 1], [M_Worker_renewLease])) := rfl
theorem kf_Worker_claimBytes_87 : mcGet K_Worker_claimBytes 87 = (87, false, .ireturn, 1, mcX0) := rfl
theorem kf_Worker_doStep_0 : mcGet K_Worker_doStep 0 = (0, false, .aload_n 0, 1, mcX0) := rfl
theorem kf_Worker_doStep_1 : mcGet K_Worker_doStep 1 = (1, false, .aload_n 1, 1, mcX0) := rfl
theorem kf_Worker_doStep_2 : mcGet K_Worker_doStep 2 = (2, false, .iload_n 2, 1, mcX0) := rfl
theorem kf_Worker_doStep_3 : mcGet K_Worker_doStep 3 = (3, false, .invokevirtual 39, 3, (5, 3, [576, 578, 55, 579, 2, 3], [M_Worker_load])) := rfl
theorem kf_Worker_doStep_6 : mcGet K_Worker_doStep 6 = (6, false, .aload_n 0, 1, mcX0) := rfl
theorem kf_Worker_doStep_7 : mcGet K_Worker_doStep 7 = (7, false, .invokevirtual 43, 3, (5, 1, [580, 582, 55, 583, 3, 2], [M_Worker_refusalOfHandle])) := rfl
theorem kf_Worker_doStep_10 : mcGet K_Worker_doStep 10 = (10, false, .istore_n 3, 1, mcX0) := rfl
theorem kf_Worker_doStep_11 : mcGet K_Worker_doStep 11 = (11, false, .iload_n 3, 1, mcX0) := rfl
theorem kf_Worker_doStep_12 : mcGet K_Worker_doStep 12 = (12, false, .ifCond .eq 5, 3, (17, 0, [], [])) := rfl
theorem kf_Worker_doStep_15 : mcGet K_Worker_doStep 15 = (15, false, .iload_n 3, 1, mcX0) := rfl
theorem kf_Worker_doStep_16 : mcGet K_Worker_doStep 16 = (16, false, .ireturn, 1, mcX0) := rfl
theorem kf_Worker_doStep_17 : mcGet K_Worker_doStep 17 = (17, false, .aload_n 0, 1, mcX0) := rfl
theorem kf_Worker_doStep_18 : mcGet K_Worker_doStep 18 = (18, false, .getfield 47, 3, (5, 6, [252, 0], [])) := rfl
theorem kf_Worker_doStep_21 : mcGet K_Worker_doStep 21 = (21, false, .tableswitch 132 0 12 #[67, 72, 77, 82, 87, 92, 97, 102, 107, 112, 117, 122, 127], 67, (153, 0, [88, 93, 98, 103, 108, 113, 118, 123, 128, 133, 138, 143, 148], [])) := rfl
theorem kf_Worker_doStep_88 : mcGet K_Worker_doStep 88 = (88, false, .aload_n 0, 1, mcX0) := rfl
theorem kf_Worker_doStep_89 : mcGet K_Worker_doStep 89 = (89, false, .invokevirtual 50, 3, (5, 1, [591, 593, 55, 594, 4, 1], [M_Worker_bindRoot])) := rfl
theorem kf_Worker_doStep_92 : mcGet K_Worker_doStep 92 = (92, false, .ireturn, 1, mcX0) := rfl
theorem kf_Worker_doStep_93 : mcGet K_Worker_doStep 93 = (93, false, .aload_n 0, 1, mcX0) := rfl
theorem kf_Worker_doStep_94 : mcGet K_Worker_doStep 94 = (94, false, .invokevirtual 53, 3, (5, 1, [599, 601, 55, 602, 5, 2], [M_Worker_walkTo])) := rfl
theorem kf_Worker_doStep_97 : mcGet K_Worker_doStep 97 = (97, false, .ireturn, 1, mcX0) := rfl
theorem kf_Worker_doStep_98 : mcGet K_Worker_doStep 98 = (98, false, .aload_n 0, 1, mcX0) := rfl
theorem kf_Worker_doStep_99 : mcGet K_Worker_doStep 99 = (99, false, .invokevirtual 56, 3, (5, 1, [607, 609, 55, 610, 6, 2], [M_Worker_makeEntry])) := rfl
theorem kf_Worker_doStep_102 : mcGet K_Worker_doStep 102 = (102, false, .ireturn, 1, mcX0) := rfl
theorem kf_Worker_doStep_103 : mcGet K_Worker_doStep 103 = (103, false, .aload_n 0, 1, mcX0) := rfl
theorem kf_Worker_doStep_104 : mcGet K_Worker_doStep 104 = (104, false, .invokevirtual 59, 3, (5, 1, [623, 625, 55, 626, 7, 2], [M_Worker_removeEntry])) := rfl
theorem kf_Worker_doStep_107 : mcGet K_Worker_doStep 107 = (107, false, .ireturn, 1, mcX0) := rfl
theorem kf_Worker_doStep_108 : mcGet K_Worker_doStep 108 = (108, false, .aload_n 0, 1, mcX0) := rfl
theorem kf_Worker_doStep_109 : mcGet K_Worker_doStep 109 = (109, false, .invokevirtual 62, 3, (5, 1, [647, 649, 55, 650, 8, 4], [M_Worker_moveEntry])) := rfl
theorem kf_Worker_doStep_112 : mcGet K_Worker_doStep 112 = (112, false, .ireturn, 1, mcX0) := rfl
theorem kf_Worker_doStep_113 : mcGet K_Worker_doStep 113 = (113, false, .aload_n 0, 1, mcX0) := rfl
theorem kf_Worker_doStep_114 : mcGet K_Worker_doStep 114 = (114, false, .invokevirtual 65, 3, (5, 1, [656, 658, 55, 659, 9, 1], [M_Worker_readByte])) := rfl
theorem kf_Worker_doStep_117 : mcGet K_Worker_doStep 117 = (117, false, .ireturn, 1, mcX0) := rfl
theorem kf_Worker_doStep_118 : mcGet K_Worker_doStep 118 = (118, false, .aload_n 0, 1, mcX0) := rfl
theorem kf_Worker_doStep_119 : mcGet K_Worker_doStep 119 = (119, false, .invokevirtual 68, 3, (5, 1, [674, 676, 55, 677, 10, 1], [M_Worker_writeByte])) := rfl
theorem kf_Worker_doStep_122 : mcGet K_Worker_doStep 122 = (122, false, .ireturn, 1, mcX0) := rfl
theorem kf_Worker_doStep_123 : mcGet K_Worker_doStep 123 = (123, false, .aload_n 0, 1, mcX0) := rfl
theorem kf_Worker_doStep_124 : mcGet K_Worker_doStep 124 = (124, false, .invokevirtual 71, 3, (5, 1, [696, 698, 55, 699, 13, 1], [M_Worker_writeHeldByte])) := rfl
theorem kf_Worker_doStep_127 : mcGet K_Worker_doStep 127 = (127, false, .ireturn, 1, mcX0) := rfl
theorem kf_Worker_doStep_128 : mcGet K_Worker_doStep 128 = (128, false, .aload_n 0, 1, mcX0) := rfl
theorem kf_Worker_doStep_129 : mcGet K_Worker_doStep 129 = (129, false, .invokevirtual 74, 3, (5, 1, [704, 706, 55, 707, 14, 4], [M_Worker_resizeFile])) := rfl
theorem kf_Worker_doStep_132 : mcGet K_Worker_doStep 132 = (132, false, .ireturn, 1, mcX0) := rfl
theorem kf_Worker_doStep_133 : mcGet K_Worker_doStep 133 = (133, false, .aload_n 0, 1, mcX0) := rfl
theorem kf_Worker_doStep_134 : mcGet K_Worker_doStep 134 = (134, false, .invokevirtual 77, 3, (5, 1, [719, 721, 55, 722, 15, 2], [M_Worker_listName])) := rfl
theorem kf_Worker_doStep_137 : mcGet K_Worker_doStep 137 = (137, false, .ireturn, 1, mcX0) := rfl
theorem kf_Worker_doStep_138 : mcGet K_Worker_doStep 138 = (138, false, .aload_n 0, 1, mcX0) := rfl
theorem kf_Worker_doStep_139 : mcGet K_Worker_doStep 139 = (139, false, .invokevirtual 80, 3, (5, 1, [731, 733, 55, 734, 16, 3], [M_Worker_lockBytes])) := rfl
theorem kf_Worker_doStep_142 : mcGet K_Worker_doStep 142 = (142, false, .ireturn, 1, mcX0) := rfl
theorem kf_Worker_doStep_143 : mcGet K_Worker_doStep 143 = (143, false, .aload_n 0, 1, mcX0) := rfl
theorem kf_Worker_doStep_144 : mcGet K_Worker_doStep 144 = (144, false, .invokevirtual 83, 3, (5, 1, [756, 758, 55, 759, 20, 1], [M_Worker_unlockBytes])) := rfl
theorem kf_Worker_doStep_147 : mcGet K_Worker_doStep 147 = (147, false, .ireturn, 1, mcX0) := rfl
theorem kf_Worker_doStep_148 : mcGet K_Worker_doStep 148 = (148, false, .aload_n 0, 1, mcX0) := rfl
theorem kf_Worker_doStep_149 : mcGet K_Worker_doStep 149 = (149, false, .invokevirtual 86, 3, (5, 1, [752, 754, 55, 755, 19, 1], [M_Worker_renewLease])) := rfl
theorem kf_Worker_doStep_152 : mcGet K_Worker_doStep 152 = (152, false, .ireturn, 1, mcX0) := rfl
theorem kf_Worker_doStep_153 : mcGet K_Worker_doStep 153 = (153, false, .aload_n 0, 1, mcX0) := rfl
theorem kf_Worker_doStep_154 : mcGet K_Worker_doStep 154 = (154, false, .invokevirtual 89, 3, (5, 1, [761, 763, 55, 764, 21, 1], [M_Worker_claimBytes])) := rfl
theorem kf_Worker_doStep_157 : mcGet K_Worker_doStep 157 = (157, false, .ireturn, 1, mcX0) := rfl
theorem kf_Worker_isAmong_0 : mcGet K_Worker_isAmong 0 = (0, false, .lload_n 0, 1, mcX0) := rfl
theorem kf_Worker_isAmong_1 : mcGet K_Worker_isAmong 1 = (1, false, .lconst 1, 1, mcX0) := rfl
theorem kf_Worker_isAmong_2 : mcGet K_Worker_isAmong 2 = (2, false, .iload_n 2, 1, mcX0) := rfl
theorem kf_Worker_isAmong_3 : mcGet K_Worker_isAmong 3 = (3, false, .lshl, 1, mcX0) := rfl
theorem kf_Worker_isAmong_4 : mcGet K_Worker_isAmong 4 = (4, false, .land, 1, mcX0) := rfl
theorem kf_Worker_isAmong_5 : mcGet K_Worker_isAmong 5 = (5, false, .lconst 0, 1, mcX0) := rfl
theorem kf_Worker_isAmong_6 : mcGet K_Worker_isAmong 6 = (6, false, .lcmp, 1, mcX0) := rfl
theorem kf_Worker_isAmong_7 : mcGet K_Worker_isAmong 7 = (7, false, .ifCond .eq 7, 3, (14, 0, [], [])) := rfl
theorem kf_Worker_isAmong_10 : mcGet K_Worker_isAmong 10 = (10, false, .iconst 1, 1, mcX0) := rfl
theorem kf_Worker_isAmong_11 : mcGet K_Worker_isAmong 11 = (11, false, .goto 4, 3, (15, 0, [], [])) := rfl
theorem kf_Worker_isAmong_14 : mcGet K_Worker_isAmong 14 = (14, false, .iconst 0, 1, mcX0) := rfl
theorem kf_Worker_isAmong_15 : mcGet K_Worker_isAmong 15 = (15, false, .ireturn, 1, (1, 0, [], [])) := rfl
theorem kf_Worker_isRange_0 : mcGet K_Worker_isRange 0 = (0, false, .iconst 0, 1, mcX0) := rfl
theorem kf_Worker_isRange_1 : mcGet K_Worker_isRange 1 = (1, false, .aload_n 0, 1, mcX0) := rfl
theorem kf_Worker_isRange_2 : mcGet K_Worker_isRange 2 = (2, false, .getfield 95, 3, (5, 8, [254, 0], [])) := rfl
theorem kf_Worker_isRange_5 : mcGet K_Worker_isRange 5 = (5, false, .if_icmp .gt 27, 3, (32, 0, [], [])) := rfl
theorem kf_Worker_isRange_8 : mcGet K_Worker_isRange 8 = (8, false, .aload_n 0, 1, mcX0) := rfl
theorem kf_Worker_isRange_9 : mcGet K_Worker_isRange 9 = (9, false, .getfield 95, 3, (5, 8, [254, 0], [])) := rfl
theorem kf_Worker_isRange_12 : mcGet K_Worker_isRange 12 = (12, false, .aload_n 0, 1, mcX0) := rfl
theorem kf_Worker_isRange_13 : mcGet K_Worker_isRange 13 = (13, false, .getfield 98, 3, (5, 9, [255, 0], [])) := rfl
theorem kf_Worker_isRange_16 : mcGet K_Worker_isRange 16 = (16, false, .if_icmp .gt 16, 3, (32, 0, [], [])) := rfl
theorem kf_Worker_isRange_19 : mcGet K_Worker_isRange 19 = (19, false, .aload_n 0, 1, mcX0) := rfl
theorem kf_Worker_isRange_20 : mcGet K_Worker_isRange 20 = (20, false, .getfield 98, 3, (5, 9, [255, 0], [])) := rfl
theorem kf_Worker_isRange_23 : mcGet K_Worker_isRange 23 = (23, false, .bipush 64, 2, mcX0) := rfl
theorem kf_Worker_isRange_25 : mcGet K_Worker_isRange 25 = (25, false, .if_icmp .ge 7, 3, (32, 0, [], [])) := rfl
theorem kf_Worker_isRange_28 : mcGet K_Worker_isRange 28 = (28, false, .iconst 1, 1, mcX0) := rfl
theorem kf_Worker_isRange_29 : mcGet K_Worker_isRange 29 = (29, false, .goto 4, 3, (33, 0, [], [])) := rfl
theorem kf_Worker_isRange_32 : mcGet K_Worker_isRange 32 = (32, false, .iconst 0, 1, mcX0) := rfl
theorem kf_Worker_isRange_33 : mcGet K_Worker_isRange 33 = (33, false, .ireturn, 1, (1, 0, [], [])) := rfl
theorem kf_Worker_isSort_0 : mcGet K_Worker_isSort 0 = (0, false, .aload_n 0, 1, mcX0) := rfl
theorem kf_Worker_isSort_1 : mcGet K_Worker_isSort 1 = (1, false, .getfield 101, 3, (5, 10, [256, 0], [])) := rfl
theorem kf_Worker_isSort_4 : mcGet K_Worker_isSort 4 = (4, false, .iconst 1, 1, mcX0) := rfl
theorem kf_Worker_isSort_5 : mcGet K_Worker_isSort 5 = (5, false, .if_icmp .eq 11, 3, (16, 0, [], [])) := rfl
theorem kf_Worker_isSort_8 : mcGet K_Worker_isSort 8 = (8, false, .aload_n 0, 1, mcX0) := rfl
theorem kf_Worker_isSort_9 : mcGet K_Worker_isSort 9 = (9, false, .getfield 101, 3, (5, 10, [256, 0], [])) := rfl
theorem kf_Worker_isSort_12 : mcGet K_Worker_isSort 12 = (12, false, .iconst 2, 1, mcX0) := rfl
theorem kf_Worker_isSort_13 : mcGet K_Worker_isSort 13 = (13, false, .if_icmp .ne 7, 3, (20, 0, [], [])) := rfl
theorem kf_Worker_isSort_16 : mcGet K_Worker_isSort 16 = (16, false, .iconst 1, 1, mcX0) := rfl
theorem kf_Worker_isSort_17 : mcGet K_Worker_isSort 17 = (17, false, .goto 4, 3, (21, 0, [], [])) := rfl
theorem kf_Worker_isSort_20 : mcGet K_Worker_isSort 20 = (20, false, .iconst 0, 1, mcX0) := rfl
theorem kf_Worker_isSort_21 : mcGet K_Worker_isSort 21 = (21, false, .ireturn, 1, (1, 0, [], [])) := rfl
theorem kf_Worker_isWritable_0 : mcGet K_Worker_isWritable 0 = (0, false, .aload_n 0, 1, mcX0) := rfl
theorem kf_Worker_isWritable_1 : mcGet K_Worker_isWritable 1 = (1, false, .getfield 95, 3, (5, 8, [254, 0], [])) := rfl
theorem kf_Worker_isWritable_4 : mcGet K_Worker_isWritable 4 = (4, false, .invokestatic 163, 3, (1, 1, [660, 661, 52, 662, 0, 1], [M_Srv_isPlace])) := rfl
theorem kf_Worker_isWritable_7 : mcGet K_Worker_isWritable 7 = (7, false, .ifCond .eq 21, 3, (28, 0, [], [])) := rfl
theorem kf_Worker_isWritable_10 : mcGet K_Worker_isWritable 10 = (10, false, .aload_n 0, 1, mcX0) := rfl
theorem kf_Worker_isWritable_11 : mcGet K_Worker_isWritable 11 = (11, false, .getfield 98, 3, (5, 9, [255, 0], [])) := rfl
theorem kf_Worker_isWritable_14 : mcGet K_Worker_isWritable 14 = (14, false, .iconst 0, 1, mcX0) := rfl
theorem kf_Worker_isWritable_15 : mcGet K_Worker_isWritable 15 = (15, false, .sipush 255, 3, mcX0) := rfl
theorem kf_Worker_isWritable_18 : mcGet K_Worker_isWritable 18 = (18, false, .invokestatic 191, 3, (1, 3, [682, 482, 52, 483, 0, 3], [M_Srv_isWithin])) := rfl
theorem kf_Worker_isWritable_21 : mcGet K_Worker_isWritable 21 = (21, false, .ifCond .eq 7, 3, (28, 0, [], [])) := rfl
theorem kf_Worker_isWritable_24 : mcGet K_Worker_isWritable 24 = (24, false, .iconst 1, 1, mcX0) := rfl
theorem kf_Worker_isWritable_25 : mcGet K_Worker_isWritable 25 = (25, false, .goto 4, 3, (29, 0, [], [])) := rfl
theorem kf_Worker_isWritable_28 : mcGet K_Worker_isWritable 28 = (28, false, .iconst 0, 1, mcX0) := rfl
theorem kf_Worker_isWritable_29 : mcGet K_Worker_isWritable 29 = (29, false, .ireturn, 1, (1, 0, [], [])) := rfl
theorem kf_Worker_listName_0 : mcGet K_Worker_listName 0 = (0, false, .aload_n 0, 1, mcX0) := rfl
theorem kf_Worker_listName_1 : mcGet K_Worker_listName 1 = (1, false, .getfield 22, 3, (5, 1, [247, 1], [])) := rfl
theorem kf_Worker_listName_4 : mcGet K_Worker_listName 4 = (4, false, .aload_n 0, 1, mcX0) := rfl
theorem kf_Worker_listName_5 : mcGet K_Worker_listName 5 = (5, false, .getfield 115, 3, (5, 11, [257, 0], [])) := rfl
theorem kf_Worker_listName_8 : mcGet K_Worker_listName 8 = (8, false, .aload_n 0, 1, mcX0) := rfl
theorem kf_Worker_listName_9 : mcGet K_Worker_listName 9 = (9, false, .getfield 95, 3, (5, 8, [254, 0], [])) := rfl
theorem kf_Worker_listName_12 : mcGet K_Worker_listName 12 = (12, false, .invokevirtual 157, 3, (1, 3, [723, 724, 57, 726, 725, 4], [M_Tree_withLesser])) := rfl
theorem kf_Worker_listName_15 : mcGet K_Worker_listName 15 = (15, false, .istore_n 1, 1, mcX0) := rfl
theorem kf_Worker_listName_16 : mcGet K_Worker_listName 16 = (16, false, .iload_n 1, 1, mcX0) := rfl
theorem kf_Worker_listName_17 : mcGet K_Worker_listName 17 = (17, false, .iconst (-1), 1, mcX0) := rfl
theorem kf_Worker_listName_18 : mcGet K_Worker_listName 18 = (18, false, .if_icmp .ne 5, 3, (23, 0, [], [])) := rfl
theorem kf_Worker_listName_21 : mcGet K_Worker_listName 21 = (21, false, .iconst 2, 1, mcX0) := rfl
theorem kf_Worker_listName_22 : mcGet K_Worker_listName 22 = (22, false, .ireturn, 1, mcX0) := rfl
theorem kf_Worker_listName_23 : mcGet K_Worker_listName 23 = (23, false, .aload_n 0, 1, mcX0) := rfl
theorem kf_Worker_listName_24 : mcGet K_Worker_listName 24 = (24, false, .aload_n 0, 1, mcX0) := rfl
theorem kf_Worker_listName_25 : mcGet K_Worker_listName 25 = (25, false, .getfield 22, 3, (5, 1, [247, 1], [])) := rfl
theorem kf_Worker_listName_28 : mcGet K_Worker_listName 28 = (28, false, .getfield 160, 3, (1, 2, [154, 1], [])) := rfl
theorem kf_Worker_listName_31 : mcGet K_Worker_listName 31 = (31, false, .iload_n 1, 1, mcX0) := rfl
theorem kf_Worker_listName_32 : mcGet K_Worker_listName 32 = (32, false, .iaload, 1, mcX0) := rfl
theorem kf_Worker_listName_33 : mcGet K_Worker_listName 33 = (33, false, .putfield 104, 3, (5, 12, [258, 0], [])) := rfl
theorem kf_Worker_listName_36 : mcGet K_Worker_listName 36 = (36, false, .iconst 0, 1, mcX0) := rfl
theorem kf_Worker_listName_37 : mcGet K_Worker_listName 37 = (37, false, .ireturn, 1, mcX0) := rfl
theorem kf_Worker_load_0 : mcGet K_Worker_load 0 = (0, false, .aload_n 0, 1, mcX0) := rfl
theorem kf_Worker_load_1 : mcGet K_Worker_load 1 = (1, false, .aload_n 1, 1, mcX0) := rfl
theorem kf_Worker_load_2 : mcGet K_Worker_load 2 = (2, false, .iload_n 2, 1, mcX0) := rfl
theorem kf_Worker_load_3 : mcGet K_Worker_load 3 = (3, false, .iaload, 1, mcX0) := rfl
theorem kf_Worker_load_4 : mcGet K_Worker_load 4 = (4, false, .putfield 47, 3, (5, 6, [252, 0], [])) := rfl
theorem kf_Worker_load_7 : mcGet K_Worker_load 7 = (7, false, .aload_n 0, 1, mcX0) := rfl
theorem kf_Worker_load_8 : mcGet K_Worker_load 8 = (8, false, .aload_n 1, 1, mcX0) := rfl
theorem kf_Worker_load_9 : mcGet K_Worker_load 9 = (9, false, .iload_n 2, 1, mcX0) := rfl
theorem kf_Worker_load_10 : mcGet K_Worker_load 10 = (10, false, .iconst 1, 1, mcX0) := rfl
theorem kf_Worker_load_11 : mcGet K_Worker_load 11 = (11, false, .iadd, 1, mcX0) := rfl
theorem kf_Worker_load_12 : mcGet K_Worker_load 12 = (12, false, .iaload, 1, mcX0) := rfl
theorem kf_Worker_load_13 : mcGet K_Worker_load 13 = (13, false, .putfield 92, 3, (5, 7, [253, 0], [])) := rfl
theorem kf_Worker_load_16 : mcGet K_Worker_load 16 = (16, false, .aload_n 0, 1, mcX0) := rfl
theorem kf_Worker_load_17 : mcGet K_Worker_load 17 = (17, false, .aload_n 1, 1, mcX0) := rfl
theorem kf_Worker_load_18 : mcGet K_Worker_load 18 = (18, false, .iload_n 2, 1, mcX0) := rfl
theorem kf_Worker_load_19 : mcGet K_Worker_load 19 = (19, false, .iconst 2, 1, mcX0) := rfl
theorem kf_Worker_load_20 : mcGet K_Worker_load 20 = (20, false, .iadd, 1, mcX0) := rfl
theorem kf_Worker_load_21 : mcGet K_Worker_load 21 = (21, false, .iaload, 1, mcX0) := rfl
theorem kf_Worker_load_22 : mcGet K_Worker_load 22 = (22, false, .putfield 95, 3, (5, 8, [254, 0], [])) := rfl
theorem kf_Worker_load_25 : mcGet K_Worker_load 25 = (25, false, .aload_n 0, 1, mcX0) := rfl
theorem kf_Worker_load_26 : mcGet K_Worker_load 26 = (26, false, .aload_n 1, 1, mcX0) := rfl
theorem kf_Worker_load_27 : mcGet K_Worker_load 27 = (27, false, .iload_n 2, 1, mcX0) := rfl
theorem kf_Worker_load_28 : mcGet K_Worker_load 28 = (28, false, .iconst 3, 1, mcX0) := rfl
theorem kf_Worker_load_29 : mcGet K_Worker_load 29 = (29, false, .iadd, 1, mcX0) := rfl
theorem kf_Worker_load_30 : mcGet K_Worker_load 30 = (30, false, .iaload, 1, mcX0) := rfl
theorem kf_Worker_load_31 : mcGet K_Worker_load 31 = (31, false, .putfield 98, 3, (5, 9, [255, 0], [])) := rfl
theorem kf_Worker_load_34 : mcGet K_Worker_load 34 = (34, false, .aload_n 0, 1, mcX0) := rfl
theorem kf_Worker_load_35 : mcGet K_Worker_load 35 = (35, false, .aload_n 1, 1, mcX0) := rfl
theorem kf_Worker_load_36 : mcGet K_Worker_load 36 = (36, false, .iload_n 2, 1, mcX0) := rfl
theorem kf_Worker_load_37 : mcGet K_Worker_load 37 = (37, false, .iconst 4, 1, mcX0) := rfl
theorem kf_Worker_load_38 : mcGet K_Worker_load 38 = (38, false, .iadd, 1, mcX0) := rfl
theorem kf_Worker_load_39 : mcGet K_Worker_load 39 = (39, false, .iaload, 1, mcX0) := rfl
theorem kf_Worker_load_40 : mcGet K_Worker_load 40 = (40, false, .putfield 101, 3, (5, 10, [256, 0], [])) := rfl
theorem kf_Worker_load_43 : mcGet K_Worker_load 43 = (43, false, .aload_n 0, 1, mcX0) := rfl
theorem kf_Worker_load_44 : mcGet K_Worker_load 44 = (44, false, .iconst 0, 1, mcX0) := rfl
theorem kf_Worker_load_45 : mcGet K_Worker_load 45 = (45, false, .putfield 104, 3, (5, 12, [258, 0], [])) := rfl
theorem kf_Worker_load_48 : mcGet K_Worker_load 48 = (48, false, .return_, 1, mcX0) := rfl
theorem kf_Worker_lockBytes_0 : mcGet K_Worker_lockBytes 0 = (0, false, .aload_n 0, 1, mcX0) := rfl
theorem kf_Worker_lockBytes_1 : mcGet K_Worker_lockBytes 1 = (1, false, .invokevirtual 216, 3, (5, 1, [735, 737, 55, 738, 17, 1], [M_Worker_isRange])) := rfl
theorem kf_Worker_lockBytes_4 : mcGet K_Worker_lockBytes 4 = (4, false, .ifCond .eq 10, 3, (14, 0, [], [])) := rfl
theorem kf_Worker_lockBytes_7 : mcGet K_Worker_lockBytes 7 = (7, false, .aload_n 0, 1, mcX0) := rfl
theorem kf_Worker_lockBytes_8 : mcGet K_Worker_lockBytes 8 = (8, false, .invokevirtual 219, 3, (5, 1, [739, 741, 55, 742, 18, 1], [M_Worker_isSort])) := rfl
theorem kf_Worker_lockBytes_11 : mcGet K_Worker_lockBytes 11 = (11, false, .ifCond .ne 6, 3, (17, 0, [], [])) := rfl
theorem kf_Worker_lockBytes_14 : mcGet K_Worker_lockBytes 14 = (14, false, .bipush 6, 2, mcX0) := rfl
theorem kf_Worker_lockBytes_16 : mcGet K_Worker_lockBytes 16 = (16, false, .ireturn, 1, mcX0) := rfl
theorem kf_Worker_lockBytes_17 : mcGet K_Worker_lockBytes 17 = (17, false, .aload_n 0, 1, mcX0) := rfl
theorem kf_Worker_lockBytes_18 : mcGet K_Worker_lockBytes 18 = (18, false, .getfield 35, 3, (5, 5, [251, 2], [])) := rfl
theorem kf_Worker_lockBytes_21 : mcGet K_Worker_lockBytes 21 = (21, false, .ifCond .eq 6, 3, (27, 0, [], [])) := rfl
theorem kf_Worker_lockBytes_24 : mcGet K_Worker_lockBytes 24 = (24, false, .bipush 11, 2, mcX0) := rfl
theorem kf_Worker_lockBytes_26 : mcGet K_Worker_lockBytes 26 = (26, false, .ireturn, 1, mcX0) := rfl
theorem kf_Worker_lockBytes_27 : mcGet K_Worker_lockBytes 27 = (27, false, .aload_n 0, 1, mcX0) := rfl
theorem kf_Worker_lockBytes_28 : mcGet K_Worker_lockBytes 28 = (28, false, .getfield 101, 3, (5, 10, [256, 0], [])) := rfl
theorem kf_Worker_lockBytes_31 : mcGet K_Worker_lockBytes 31 = (31, false, .iconst 2, 1, mcX0) := rfl
theorem kf_Worker_lockBytes_32 : mcGet K_Worker_lockBytes 32 = (32, false, .if_icmp .ne 21, 3, (53, 0, [], [])) := rfl
theorem kf_Worker_lockBytes_35 : mcGet K_Worker_lockBytes 35 = (35, false, .aload_n 0, 1, mcX0) := rfl
theorem kf_Worker_lockBytes_36 : mcGet K_Worker_lockBytes 36 = (36, false, .getfield 27, 3, (5, 2, [248, 1], [])) := rfl
theorem kf_Worker_lockBytes_39 : mcGet K_Worker_lockBytes 39 = (39, false, .aload_n 0, 1, mcX0) := rfl
theorem kf_Worker_lockBytes_40 : mcGet K_Worker_lockBytes 40 = (40, false, .getfield 28, 3, (5, 3, [249, 0], [])) := rfl
theorem kf_Worker_lockBytes_43 : mcGet K_Worker_lockBytes 43 = (43, false, .aload_n 0, 1, mcX0) := rfl
theorem kf_Worker_lockBytes_44 : mcGet K_Worker_lockBytes 44 = (44, false, .getfield 115, 3, (5, 11, [257, 0], [])) := rfl
theorem kf_Worker_lockBytes_47 : mcGet K_Worker_lockBytes 47 = (47, false, .invokevirtual 181, 3, (2, 3, [683, 684, 59, 686, 685, 7], [M_Locks_anyOfOthers])) := rfl
theorem kf_Worker_lockBytes_50 : mcGet K_Worker_lockBytes 50 = (50, false, .goto 18, 3, (68, 0, [], [])) := rfl
theorem kf_Worker_lockBytes_53 : mcGet K_Worker_lockBytes 53 = (53, false, .aload_n 0, 1, mcX0) := rfl
theorem kf_Worker_lockBytes_54 : mcGet K_Worker_lockBytes 54 = (54, false, .getfield 27, 3, (5, 2, [248, 1], [])) := rfl
theorem kf_Worker_lockBytes_57 : mcGet K_Worker_lockBytes 57 = (57, false, .aload_n 0, 1, mcX0) := rfl
theorem kf_Worker_lockBytes_58 : mcGet K_Worker_lockBytes 58 = (58, false, .getfield 28, 3, (5, 3, [249, 0], [])) := rfl
theorem kf_Worker_lockBytes_61 : mcGet K_Worker_lockBytes 61 = (61, false, .aload_n 0, 1, mcX0) := rfl
theorem kf_Worker_lockBytes_62 : mcGet K_Worker_lockBytes 62 = (62, false, .getfield 115, 3, (5, 11, [257, 0], [])) := rfl
theorem kf_Worker_lockBytes_65 : mcGet K_Worker_lockBytes 65 = (65, false, .invokevirtual 166, 3, (2, 3, [663, 664, 59, 666, 665, 7], [M_Locks_aloneOfOthers])) := rfl
theorem kf_Worker_lockBytes_68 : mcGet K_Worker_lockBytes 68 = (68, false, .lstore_n 1, 1, mcX0) := rfl
theorem kf_Worker_lockBytes_69 : mcGet K_Worker_lockBytes 69 = (69, false, .lload_n 1, 1, mcX0) := rfl
theorem kf_Worker_lockBytes_70 : mcGet K_Worker_lockBytes 70 = (70, false, .aload_n 0, 1, mcX0) := rfl
theorem kf_Worker_lockBytes_71 : mcGet K_Worker_lockBytes 71 = (71, false, .getfield 95, 3, (5, 8, [254, 0], [])) := rfl
theorem kf_Worker_lockBytes_74 : mcGet K_Worker_lockBytes 74 = (74, false, .aload_n 0, 1, mcX0) := rfl
theorem kf_Worker_lockBytes_75 : mcGet K_Worker_lockBytes 75 = (75, false, .getfield 98, 3, (5, 9, [255, 0], [])) := rfl
theorem kf_Worker_lockBytes_78 : mcGet K_Worker_lockBytes 78 = (78, false, .invokestatic 209, 3, (0, 2, [714, 715, 55, 716, 0, 2], [M_Worker_range])) := rfl
theorem kf_Worker_lockBytes_81 : mcGet K_Worker_lockBytes 81 = (81, false, .land, 1, mcX0) := rfl
theorem kf_Worker_lockBytes_82 : mcGet K_Worker_lockBytes 82 = (82, false, .lconst 0, 1, mcX0) := rfl
theorem kf_Worker_lockBytes_83 : mcGet K_Worker_lockBytes 83 = (83, false, .lcmp, 1, mcX0) := rfl
theorem kf_Worker_lockBytes_84 : mcGet K_Worker_lockBytes 84 = (84, false, .ifCond .eq 6, 3, (90, 0, [], [])) := rfl
theorem kf_Worker_lockBytes_87 : mcGet K_Worker_lockBytes 87 = (87, false, .bipush 9, 2, mcX0) := rfl
theorem kf_Worker_lockBytes_89 : mcGet K_Worker_lockBytes 89 = (89, false, .ireturn, 1, mcX0) := rfl
theorem kf_Worker_lockBytes_90 : mcGet K_Worker_lockBytes 90 = (90, false, .aload_n 0, 1, mcX0) := rfl
theorem kf_Worker_lockBytes_91 : mcGet K_Worker_lockBytes 91 = (91, false, .getfield 27, 3, (5, 2, [248, 1], [])) := rfl
theorem kf_Worker_lockBytes_94 : mcGet K_Worker_lockBytes 94 = (94, false, .aload_n 0, 1, mcX0) := rfl
theorem kf_Worker_lockBytes_95 : mcGet K_Worker_lockBytes 95 = (95, false, .getfield 28, 3, (5, 3, [249, 0], [])) := rfl
theorem kf_Worker_lockBytes_98 : mcGet K_Worker_lockBytes 98 = (98, false, .aload_n 0, 1, mcX0) := rfl
theorem kf_Worker_lockBytes_99 : mcGet K_Worker_lockBytes 99 = (99, false, .getfield 115, 3, (5, 11, [257, 0], [])) := rfl
theorem kf_Worker_lockBytes_102 : mcGet K_Worker_lockBytes 102 = (102, false, .aload_n 0, 1, mcX0) := rfl
theorem kf_Worker_lockBytes_103 : mcGet K_Worker_lockBytes 103 = (103, false, .getfield 95, 3, (5, 8, [254, 0], [])) := rfl
theorem kf_Worker_lockBytes_106 : mcGet K_Worker_lockBytes 106 = (106, false, .aload_n 0, 1, mcX0) := rfl
theorem kf_Worker_lockBytes_107 : mcGet K_Worker_lockBytes 107 = (107, false, .getfield 98, 3, (5, 9, [255, 0], [])) := rfl
theorem kf_Worker_lockBytes_110 : mcGet K_Worker_lockBytes 110 = (110, false, .invokestatic 209, 3, (0, 2, [714, 715, 55, 716, 0, 2], [M_Worker_range])) := rfl
theorem kf_Worker_lockBytes_113 : mcGet K_Worker_lockBytes 113 = (113, false, .aload_n 0, 1, mcX0) := rfl
theorem kf_Worker_lockBytes_114 : mcGet K_Worker_lockBytes 114 = (114, false, .getfield 101, 3, (5, 10, [256, 0], [])) := rfl
theorem kf_Worker_lockBytes_117 : mcGet K_Worker_lockBytes 117 = (117, false, .invokevirtual 222, 3, (2, 5, [743, 744, 59, 746, 745, 7], [M_Locks_give])) := rfl
theorem kf_Worker_lockBytes_120 : mcGet K_Worker_lockBytes 120 = (120, false, .aload_n 0, 1, mcX0) := rfl
theorem kf_Worker_lockBytes_121 : mcGet K_Worker_lockBytes 121 = (121, false, .invokevirtual 86, 3, (5, 1, [752, 754, 55, 755, 19, 1], [M_Worker_renewLease])) := rfl
theorem kf_Worker_lockBytes_124 : mcGet K_Worker_lockBytes 124 = (124, false, .ireturn, 1, mcX0) := rfl
theorem kf_Worker_makeEntry_0 : mcGet K_Worker_makeEntry 0 = (0, false, .aload_n 0, 1, mcX0) := rfl
theorem kf_Worker_makeEntry_1 : mcGet K_Worker_makeEntry 1 = (1, false, .getfield 95, 3, (5, 8, [254, 0], [])) := rfl
theorem kf_Worker_makeEntry_4 : mcGet K_Worker_makeEntry 4 = (4, false, .ifCond .eq 11, 3, (15, 0, [], [])) := rfl
theorem kf_Worker_makeEntry_7 : mcGet K_Worker_makeEntry 7 = (7, false, .aload_n 0, 1, mcX0) := rfl
theorem kf_Worker_makeEntry_8 : mcGet K_Worker_makeEntry 8 = (8, false, .getfield 95, 3, (5, 8, [254, 0], [])) := rfl
theorem kf_Worker_makeEntry_11 : mcGet K_Worker_makeEntry 11 = (11, false, .iconst 1, 1, mcX0) := rfl
theorem kf_Worker_makeEntry_12 : mcGet K_Worker_makeEntry 12 = (12, false, .if_icmp .ne 10, 3, (22, 0, [], [])) := rfl
theorem kf_Worker_makeEntry_15 : mcGet K_Worker_makeEntry 15 = (15, false, .aload_n 0, 1, mcX0) := rfl
theorem kf_Worker_makeEntry_16 : mcGet K_Worker_makeEntry 16 = (16, false, .getfield 98, 3, (5, 9, [255, 0], [])) := rfl
theorem kf_Worker_makeEntry_19 : mcGet K_Worker_makeEntry 19 = (19, false, .ifCond .ne 6, 3, (25, 0, [], [])) := rfl
theorem kf_Worker_makeEntry_22 : mcGet K_Worker_makeEntry 22 = (22, false, .bipush 6, 2, mcX0) := rfl
theorem kf_Worker_makeEntry_24 : mcGet K_Worker_makeEntry 24 = (24, false, .ireturn, 1, mcX0) := rfl
theorem kf_Worker_makeEntry_25 : mcGet K_Worker_makeEntry 25 = (25, false, .aload_n 0, 1, mcX0) := rfl
theorem kf_Worker_makeEntry_26 : mcGet K_Worker_makeEntry 26 = (26, false, .getfield 22, 3, (5, 1, [247, 1], [])) := rfl
theorem kf_Worker_makeEntry_29 : mcGet K_Worker_makeEntry 29 = (29, false, .aload_n 0, 1, mcX0) := rfl
theorem kf_Worker_makeEntry_30 : mcGet K_Worker_makeEntry 30 = (30, false, .getfield 115, 3, (5, 11, [257, 0], [])) := rfl
theorem kf_Worker_makeEntry_33 : mcGet K_Worker_makeEntry 33 = (33, false, .aload_n 0, 1, mcX0) := rfl
theorem kf_Worker_makeEntry_34 : mcGet K_Worker_makeEntry 34 = (34, false, .getfield 98, 3, (5, 9, [255, 0], [])) := rfl
theorem kf_Worker_makeEntry_37 : mcGet K_Worker_makeEntry 37 = (37, false, .invokevirtual 133, 3, (1, 3, [603, 604, 57, 606, 605, 4], [M_Tree_find])) := rfl
theorem kf_Worker_makeEntry_40 : mcGet K_Worker_makeEntry 40 = (40, false, .iconst (-1), 1, mcX0) := rfl
theorem kf_Worker_makeEntry_41 : mcGet K_Worker_makeEntry 41 = (41, false, .if_icmp .eq 5, 3, (46, 0, [], [])) := rfl
theorem kf_Worker_makeEntry_44 : mcGet K_Worker_makeEntry 44 = (44, false, .iconst 3, 1, mcX0) := rfl
theorem kf_Worker_makeEntry_45 : mcGet K_Worker_makeEntry 45 = (45, false, .ireturn, 1, mcX0) := rfl
theorem kf_Worker_makeEntry_46 : mcGet K_Worker_makeEntry 46 = (46, false, .aload_n 0, 1, mcX0) := rfl
theorem kf_Worker_makeEntry_47 : mcGet K_Worker_makeEntry 47 = (47, false, .getfield 22, 3, (5, 1, [247, 1], [])) := rfl
theorem kf_Worker_makeEntry_50 : mcGet K_Worker_makeEntry 50 = (50, false, .invokevirtual 136, 3, (1, 1, [611, 612, 57, 614, 613, 2], [M_Tree_leastFree])) := rfl
theorem kf_Worker_makeEntry_53 : mcGet K_Worker_makeEntry 53 = (53, false, .istore_n 1, 1, mcX0) := rfl
theorem kf_Worker_makeEntry_54 : mcGet K_Worker_makeEntry 54 = (54, false, .iload_n 1, 1, mcX0) := rfl
theorem kf_Worker_makeEntry_55 : mcGet K_Worker_makeEntry 55 = (55, false, .iconst (-1), 1, mcX0) := rfl
theorem kf_Worker_makeEntry_56 : mcGet K_Worker_makeEntry 56 = (56, false, .if_icmp .ne 5, 3, (61, 0, [], [])) := rfl
theorem kf_Worker_makeEntry_59 : mcGet K_Worker_makeEntry 59 = (59, false, .iconst 5, 1, mcX0) := rfl
theorem kf_Worker_makeEntry_60 : mcGet K_Worker_makeEntry 60 = (60, false, .ireturn, 1, mcX0) := rfl
theorem kf_Worker_makeEntry_61 : mcGet K_Worker_makeEntry 61 = (61, false, .aload_n 0, 1, mcX0) := rfl
theorem kf_Worker_makeEntry_62 : mcGet K_Worker_makeEntry 62 = (62, false, .getfield 22, 3, (5, 1, [247, 1], [])) := rfl
theorem kf_Worker_makeEntry_65 : mcGet K_Worker_makeEntry 65 = (65, false, .iload_n 1, 1, mcX0) := rfl
theorem kf_Worker_makeEntry_66 : mcGet K_Worker_makeEntry 66 = (66, false, .aload_n 0, 1, mcX0) := rfl
theorem kf_Worker_makeEntry_67 : mcGet K_Worker_makeEntry 67 = (67, false, .getfield 95, 3, (5, 8, [254, 0], [])) := rfl
theorem kf_Worker_makeEntry_70 : mcGet K_Worker_makeEntry 70 = (70, false, .aload_n 0, 1, mcX0) := rfl
theorem kf_Worker_makeEntry_71 : mcGet K_Worker_makeEntry 71 = (71, false, .getfield 115, 3, (5, 11, [257, 0], [])) := rfl
theorem kf_Worker_makeEntry_74 : mcGet K_Worker_makeEntry 74 = (74, false, .aload_n 0, 1, mcX0) := rfl
theorem kf_Worker_makeEntry_75 : mcGet K_Worker_makeEntry 75 = (75, false, .getfield 98, 3, (5, 9, [255, 0], [])) := rfl
theorem kf_Worker_makeEntry_78 : mcGet K_Worker_makeEntry 78 = (78, false, .invokevirtual 139, 3, (1, 5, [615, 616, 57, 618, 617, 5], [M_Tree_add])) := rfl
theorem kf_Worker_makeEntry_81 : mcGet K_Worker_makeEntry 81 = (81, false, .aload_n 0, 1, mcX0) := rfl
theorem kf_Worker_makeEntry_82 : mcGet K_Worker_makeEntry 82 = (82, false, .iload_n 1, 1, mcX0) := rfl
theorem kf_Worker_makeEntry_83 : mcGet K_Worker_makeEntry 83 = (83, false, .putfield 104, 3, (5, 12, [258, 0], [])) := rfl
theorem kf_Worker_makeEntry_86 : mcGet K_Worker_makeEntry 86 = (86, false, .iconst 0, 1, mcX0) := rfl
theorem kf_Worker_makeEntry_87 : mcGet K_Worker_makeEntry 87 = (87, false, .ireturn, 1, mcX0) := rfl
theorem kf_Worker_moveEntry_0 : mcGet K_Worker_moveEntry 0 = (0, false, .aload_n 0, 1, mcX0) := rfl
theorem kf_Worker_moveEntry_1 : mcGet K_Worker_moveEntry 1 = (1, false, .getfield 95, 3, (5, 8, [254, 0], [])) := rfl
theorem kf_Worker_moveEntry_4 : mcGet K_Worker_moveEntry 4 = (4, false, .invokestatic 107, 3, (1, 1, [584, 585, 52, 586, 0, 1], [M_Srv_isHandle])) := rfl
theorem kf_Worker_moveEntry_7 : mcGet K_Worker_moveEntry 7 = (7, false, .ifCond .ne 6, 3, (13, 0, [], [])) := rfl
theorem kf_Worker_moveEntry_10 : mcGet K_Worker_moveEntry 10 = (10, false, .bipush 6, 2, mcX0) := rfl
theorem kf_Worker_moveEntry_12 : mcGet K_Worker_moveEntry 12 = (12, false, .ireturn, 1, mcX0) := rfl
theorem kf_Worker_moveEntry_13 : mcGet K_Worker_moveEntry 13 = (13, false, .aload_n 0, 1, mcX0) := rfl
theorem kf_Worker_moveEntry_14 : mcGet K_Worker_moveEntry 14 = (14, false, .getfield 12, 3, (5, 0, [245, 1], [])) := rfl
theorem kf_Worker_moveEntry_17 : mcGet K_Worker_moveEntry 17 = (17, false, .aload_n 0, 1, mcX0) := rfl
theorem kf_Worker_moveEntry_18 : mcGet K_Worker_moveEntry 18 = (18, false, .getfield 28, 3, (5, 3, [249, 0], [])) := rfl
theorem kf_Worker_moveEntry_21 : mcGet K_Worker_moveEntry 21 = (21, false, .aload_n 0, 1, mcX0) := rfl
theorem kf_Worker_moveEntry_22 : mcGet K_Worker_moveEntry 22 = (22, false, .getfield 95, 3, (5, 8, [254, 0], [])) := rfl
theorem kf_Worker_moveEntry_25 : mcGet K_Worker_moveEntry 25 = (25, false, .invokevirtual 111, 3, (4, 3, [587, 588, 56, 590, 589, 3], [M_Disk_boundTo])) := rfl
theorem kf_Worker_moveEntry_28 : mcGet K_Worker_moveEntry 28 = (28, false, .istore_n 1, 1, mcX0) := rfl
theorem kf_Worker_moveEntry_29 : mcGet K_Worker_moveEntry 29 = (29, false, .iload_n 1, 1, mcX0) := rfl
theorem kf_Worker_moveEntry_30 : mcGet K_Worker_moveEntry 30 = (30, false, .iconst (-1), 1, mcX0) := rfl
theorem kf_Worker_moveEntry_31 : mcGet K_Worker_moveEntry 31 = (31, false, .if_icmp .ne 5, 3, (36, 0, [], [])) := rfl
theorem kf_Worker_moveEntry_34 : mcGet K_Worker_moveEntry 34 = (34, false, .iconst 1, 1, mcX0) := rfl
theorem kf_Worker_moveEntry_35 : mcGet K_Worker_moveEntry 35 = (35, false, .ireturn, 1, mcX0) := rfl
theorem kf_Worker_moveEntry_36 : mcGet K_Worker_moveEntry 36 = (36, false, .aload_n 0, 1, mcX0) := rfl
theorem kf_Worker_moveEntry_37 : mcGet K_Worker_moveEntry 37 = (37, false, .getfield 22, 3, (5, 1, [247, 1], [])) := rfl
theorem kf_Worker_moveEntry_40 : mcGet K_Worker_moveEntry 40 = (40, false, .getfield 118, 3, (1, 0, [149, 1], [])) := rfl
theorem kf_Worker_moveEntry_43 : mcGet K_Worker_moveEntry 43 = (43, false, .aload_n 0, 1, mcX0) := rfl
theorem kf_Worker_moveEntry_44 : mcGet K_Worker_moveEntry 44 = (44, false, .getfield 115, 3, (5, 11, [257, 0], [])) := rfl
theorem kf_Worker_moveEntry_47 : mcGet K_Worker_moveEntry 47 = (47, false, .iaload, 1, mcX0) := rfl
theorem kf_Worker_moveEntry_48 : mcGet K_Worker_moveEntry 48 = (48, false, .iconst 1, 1, mcX0) := rfl
theorem kf_Worker_moveEntry_49 : mcGet K_Worker_moveEntry 49 = (49, false, .if_icmp .ne 16, 3, (65, 0, [], [])) := rfl
theorem kf_Worker_moveEntry_52 : mcGet K_Worker_moveEntry 52 = (52, false, .aload_n 0, 1, mcX0) := rfl
theorem kf_Worker_moveEntry_53 : mcGet K_Worker_moveEntry 53 = (53, false, .getfield 22, 3, (5, 1, [247, 1], [])) := rfl
theorem kf_Worker_moveEntry_56 : mcGet K_Worker_moveEntry 56 = (56, false, .getfield 118, 3, (1, 0, [149, 1], [])) := rfl
theorem kf_Worker_moveEntry_59 : mcGet K_Worker_moveEntry 59 = (59, false, .iload_n 1, 1, mcX0) := rfl
theorem kf_Worker_moveEntry_60 : mcGet K_Worker_moveEntry 60 = (60, false, .iaload, 1, mcX0) := rfl
theorem kf_Worker_moveEntry_61 : mcGet K_Worker_moveEntry 61 = (61, false, .iconst 1, 1, mcX0) := rfl
theorem kf_Worker_moveEntry_62 : mcGet K_Worker_moveEntry 62 = (62, false, .if_icmp .eq 5, 3, (67, 0, [], [])) := rfl
theorem kf_Worker_moveEntry_65 : mcGet K_Worker_moveEntry 65 = (65, false, .iconst 4, 1, mcX0) := rfl
theorem kf_Worker_moveEntry_66 : mcGet K_Worker_moveEntry 66 = (66, false, .ireturn, 1, mcX0) := rfl
theorem kf_Worker_moveEntry_67 : mcGet K_Worker_moveEntry 67 = (67, false, .aload_n 0, 1, mcX0) := rfl
theorem kf_Worker_moveEntry_68 : mcGet K_Worker_moveEntry 68 = (68, false, .getfield 101, 3, (5, 10, [256, 0], [])) := rfl
theorem kf_Worker_moveEntry_71 : mcGet K_Worker_moveEntry 71 = (71, false, .ifCond .ne 6, 3, (77, 0, [], [])) := rfl
theorem kf_Worker_moveEntry_74 : mcGet K_Worker_moveEntry 74 = (74, false, .bipush 6, 2, mcX0) := rfl
theorem kf_Worker_moveEntry_76 : mcGet K_Worker_moveEntry 76 = (76, false, .ireturn, 1, mcX0) := rfl
theorem kf_Worker_moveEntry_77 : mcGet K_Worker_moveEntry 77 = (77, false, .aload_n 0, 1, mcX0) := rfl
theorem kf_Worker_moveEntry_78 : mcGet K_Worker_moveEntry 78 = (78, false, .getfield 22, 3, (5, 1, [247, 1], [])) := rfl
theorem kf_Worker_moveEntry_81 : mcGet K_Worker_moveEntry 81 = (81, false, .aload_n 0, 1, mcX0) := rfl
theorem kf_Worker_moveEntry_82 : mcGet K_Worker_moveEntry 82 = (82, false, .getfield 115, 3, (5, 11, [257, 0], [])) := rfl
theorem kf_Worker_moveEntry_85 : mcGet K_Worker_moveEntry 85 = (85, false, .aload_n 0, 1, mcX0) := rfl
theorem kf_Worker_moveEntry_86 : mcGet K_Worker_moveEntry 86 = (86, false, .getfield 98, 3, (5, 9, [255, 0], [])) := rfl
theorem kf_Worker_moveEntry_89 : mcGet K_Worker_moveEntry 89 = (89, false, .invokevirtual 133, 3, (1, 3, [603, 604, 57, 606, 605, 4], [M_Tree_find])) := rfl
theorem kf_Worker_moveEntry_92 : mcGet K_Worker_moveEntry 92 = (92, false, .istore_n 2, 1, mcX0) := rfl
theorem kf_Worker_moveEntry_93 : mcGet K_Worker_moveEntry 93 = (93, false, .iload_n 2, 1, mcX0) := rfl
theorem kf_Worker_moveEntry_94 : mcGet K_Worker_moveEntry 94 = (94, false, .iconst (-1), 1, mcX0) := rfl
theorem kf_Worker_moveEntry_95 : mcGet K_Worker_moveEntry 95 = (95, false, .if_icmp .ne 5, 3, (100, 0, [], [])) := rfl
theorem kf_Worker_moveEntry_98 : mcGet K_Worker_moveEntry 98 = (98, false, .iconst 2, 1, mcX0) := rfl
theorem kf_Worker_moveEntry_99 : mcGet K_Worker_moveEntry 99 = (99, false, .ireturn, 1, mcX0) := rfl
theorem kf_Worker_moveEntry_100 : mcGet K_Worker_moveEntry 100 = (100, false, .aload_n 0, 1, mcX0) := rfl
theorem kf_Worker_moveEntry_101 : mcGet K_Worker_moveEntry 101 = (101, false, .getfield 22, 3, (5, 1, [247, 1], [])) := rfl
theorem kf_Worker_moveEntry_104 : mcGet K_Worker_moveEntry 104 = (104, false, .iload_n 1, 1, mcX0) := rfl
theorem kf_Worker_moveEntry_105 : mcGet K_Worker_moveEntry 105 = (105, false, .aload_n 0, 1, mcX0) := rfl
theorem kf_Worker_moveEntry_106 : mcGet K_Worker_moveEntry 106 = (106, false, .getfield 101, 3, (5, 10, [256, 0], [])) := rfl
theorem kf_Worker_moveEntry_109 : mcGet K_Worker_moveEntry 109 = (109, false, .invokevirtual 133, 3, (1, 3, [603, 604, 57, 606, 605, 4], [M_Tree_find])) := rfl
theorem kf_Worker_moveEntry_112 : mcGet K_Worker_moveEntry 112 = (112, false, .istore_n 3, 1, mcX0) := rfl
theorem kf_Worker_moveEntry_113 : mcGet K_Worker_moveEntry 113 = (113, false, .iload_n 3, 1, mcX0) := rfl
theorem kf_Worker_moveEntry_114 : mcGet K_Worker_moveEntry 114 = (114, false, .iconst (-1), 1, mcX0) := rfl
theorem kf_Worker_moveEntry_115 : mcGet K_Worker_moveEntry 115 = (115, false, .if_icmp .eq 10, 3, (125, 0, [], [])) := rfl
theorem kf_Worker_moveEntry_118 : mcGet K_Worker_moveEntry 118 = (118, false, .iload_n 3, 1, mcX0) := rfl
theorem kf_Worker_moveEntry_119 : mcGet K_Worker_moveEntry 119 = (119, false, .iload_n 2, 1, mcX0) := rfl
theorem kf_Worker_moveEntry_120 : mcGet K_Worker_moveEntry 120 = (120, false, .if_icmp .eq 5, 3, (125, 0, [], [])) := rfl
theorem kf_Worker_moveEntry_123 : mcGet K_Worker_moveEntry 123 = (123, false, .iconst 3, 1, mcX0) := rfl
theorem kf_Worker_moveEntry_124 : mcGet K_Worker_moveEntry 124 = (124, false, .ireturn, 1, mcX0) := rfl
theorem kf_Worker_moveEntry_125 : mcGet K_Worker_moveEntry 125 = (125, false, .aload_n 0, 1, mcX0) := rfl
theorem kf_Worker_moveEntry_126 : mcGet K_Worker_moveEntry 126 = (126, false, .getfield 22, 3, (5, 1, [247, 1], [])) := rfl
theorem kf_Worker_moveEntry_129 : mcGet K_Worker_moveEntry 129 = (129, false, .iload_n 1, 1, mcX0) := rfl
theorem kf_Worker_moveEntry_130 : mcGet K_Worker_moveEntry 130 = (130, false, .iload_n 2, 1, mcX0) := rfl
theorem kf_Worker_moveEntry_131 : mcGet K_Worker_moveEntry 131 = (131, false, .invokevirtual 150, 3, (1, 3, [651, 652, 57, 654, 653, 5], [M_Tree_isOrLiesIn])) := rfl
theorem kf_Worker_moveEntry_134 : mcGet K_Worker_moveEntry 134 = (134, false, .ifCond .eq 6, 3, (140, 0, [], [])) := rfl
theorem kf_Worker_moveEntry_137 : mcGet K_Worker_moveEntry 137 = (137, false, .bipush 8, 2, mcX0) := rfl
theorem kf_Worker_moveEntry_139 : mcGet K_Worker_moveEntry 139 = (139, false, .ireturn, 1, mcX0) := rfl
theorem kf_Worker_moveEntry_140 : mcGet K_Worker_moveEntry 140 = (140, false, .aload_n 0, 1, mcX0) := rfl
theorem kf_Worker_moveEntry_141 : mcGet K_Worker_moveEntry 141 = (141, false, .getfield 22, 3, (5, 1, [247, 1], [])) := rfl
theorem kf_Worker_moveEntry_144 : mcGet K_Worker_moveEntry 144 = (144, false, .iload_n 2, 1, mcX0) := rfl
theorem kf_Worker_moveEntry_145 : mcGet K_Worker_moveEntry 145 = (145, false, .iload_n 1, 1, mcX0) := rfl
theorem kf_Worker_moveEntry_146 : mcGet K_Worker_moveEntry 146 = (146, false, .aload_n 0, 1, mcX0) := rfl
theorem kf_Worker_moveEntry_147 : mcGet K_Worker_moveEntry 147 = (147, false, .getfield 101, 3, (5, 10, [256, 0], [])) := rfl
theorem kf_Worker_moveEntry_150 : mcGet K_Worker_moveEntry 150 = (150, false, .invokevirtual 154, 3, (1, 4, [655, 620, 57, 622, 621, 4], [M_Tree_put])) := rfl
theorem kf_Worker_moveEntry_153 : mcGet K_Worker_moveEntry 153 = (153, false, .aload_n 0, 1, mcX0) := rfl
theorem kf_Worker_moveEntry_154 : mcGet K_Worker_moveEntry 154 = (154, false, .iload_n 2, 1, mcX0) := rfl
theorem kf_Worker_moveEntry_155 : mcGet K_Worker_moveEntry 155 = (155, false, .putfield 104, 3, (5, 12, [258, 0], [])) := rfl
theorem kf_Worker_moveEntry_158 : mcGet K_Worker_moveEntry 158 = (158, false, .iconst 0, 1, mcX0) := rfl
theorem kf_Worker_moveEntry_159 : mcGet K_Worker_moveEntry 159 = (159, false, .ireturn, 1, mcX0) := rfl
theorem kf_Worker_putByte_0 : mcGet K_Worker_putByte 0 = (0, false, .aload_n 0, 1, mcX0) := rfl
theorem kf_Worker_putByte_1 : mcGet K_Worker_putByte 1 = (1, false, .getfield 22, 3, (5, 1, [247, 1], [])) := rfl
theorem kf_Worker_putByte_4 : mcGet K_Worker_putByte 4 = (4, false, .aload_n 0, 1, mcX0) := rfl
theorem kf_Worker_putByte_5 : mcGet K_Worker_putByte 5 = (5, false, .getfield 115, 3, (5, 11, [257, 0], [])) := rfl
theorem kf_Worker_putByte_8 : mcGet K_Worker_putByte 8 = (8, false, .aload_n 0, 1, mcX0) := rfl
theorem kf_Worker_putByte_9 : mcGet K_Worker_putByte 9 = (9, false, .getfield 95, 3, (5, 8, [254, 0], [])) := rfl
theorem kf_Worker_putByte_12 : mcGet K_Worker_putByte 12 = (12, false, .aload_n 0, 1, mcX0) := rfl
theorem kf_Worker_putByte_13 : mcGet K_Worker_putByte 13 = (13, false, .getfield 98, 3, (5, 9, [255, 0], [])) := rfl
theorem kf_Worker_putByte_16 : mcGet K_Worker_putByte 16 = (16, false, .invokevirtual 195, 3, (1, 4, [692, 693, 57, 695, 694, 4], [M_Tree_setByte])) := rfl
theorem kf_Worker_putByte_19 : mcGet K_Worker_putByte 19 = (19, false, .aload_n 0, 1, mcX0) := rfl
theorem kf_Worker_putByte_20 : mcGet K_Worker_putByte 20 = (20, false, .aload_n 0, 1, mcX0) := rfl
theorem kf_Worker_putByte_21 : mcGet K_Worker_putByte 21 = (21, false, .getfield 22, 3, (5, 1, [247, 1], [])) := rfl
theorem kf_Worker_putByte_24 : mcGet K_Worker_putByte 24 = (24, false, .getfield 198, 3, (1, 3, [158, 1], [])) := rfl
theorem kf_Worker_putByte_27 : mcGet K_Worker_putByte 27 = (27, false, .aload_n 0, 1, mcX0) := rfl
theorem kf_Worker_putByte_28 : mcGet K_Worker_putByte 28 = (28, false, .getfield 115, 3, (5, 11, [257, 0], [])) := rfl
theorem kf_Worker_putByte_31 : mcGet K_Worker_putByte 31 = (31, false, .iaload, 1, mcX0) := rfl
theorem kf_Worker_putByte_32 : mcGet K_Worker_putByte 32 = (32, false, .putfield 104, 3, (5, 12, [258, 0], [])) := rfl
theorem kf_Worker_putByte_35 : mcGet K_Worker_putByte 35 = (35, false, .iconst 0, 1, mcX0) := rfl
theorem kf_Worker_putByte_36 : mcGet K_Worker_putByte 36 = (36, false, .ireturn, 1, mcX0) := rfl
theorem kf_Worker_range_0 : mcGet K_Worker_range 0 = (0, false, .iload_n 1, 1, mcX0) := rfl
theorem kf_Worker_range_1 : mcGet K_Worker_range 1 = (1, false, .iload_n 0, 1, mcX0) := rfl
theorem kf_Worker_range_2 : mcGet K_Worker_range 2 = (2, false, .if_icmp .ge 7, 3, (9, 0, [], [])) := rfl
theorem kf_Worker_range_5 : mcGet K_Worker_range 5 = (5, false, .lconst 0, 1, mcX0) := rfl
theorem kf_Worker_range_6 : mcGet K_Worker_range 6 = (6, false, .goto 15, 3, (21, 0, [], [])) := rfl
theorem kf_Worker_range_9 : mcGet K_Worker_range 9 = (9, false, .ldc2_w 234, 3, (0, 0, [717], [])) := rfl
theorem kf_Worker_range_12 : mcGet K_Worker_range 12 = (12, false, .bipush 63, 2, mcX0) := rfl
theorem kf_Worker_range_14 : mcGet K_Worker_range 14 = (14, false, .iload_n 1, 1, mcX0) := rfl
theorem kf_Worker_range_15 : mcGet K_Worker_range 15 = (15, false, .iload_n 0, 1, mcX0) := rfl
theorem kf_Worker_range_16 : mcGet K_Worker_range 16 = (16, false, .isub, 1, mcX0) := rfl
theorem kf_Worker_range_17 : mcGet K_Worker_range 17 = (17, false, .isub, 1, mcX0) := rfl
theorem kf_Worker_range_18 : mcGet K_Worker_range 18 = (18, false, .lushr, 1, mcX0) := rfl
theorem kf_Worker_range_19 : mcGet K_Worker_range 19 = (19, false, .iload_n 0, 1, mcX0) := rfl
theorem kf_Worker_range_20 : mcGet K_Worker_range 20 = (20, false, .lshl, 1, mcX0) := rfl
theorem kf_Worker_range_21 : mcGet K_Worker_range 21 = (21, false, .lreturn, 1, mcX0) := rfl
theorem kf_Worker_readByte_0 : mcGet K_Worker_readByte 0 = (0, false, .aload_n 0, 1, mcX0) := rfl
theorem kf_Worker_readByte_1 : mcGet K_Worker_readByte 1 = (1, false, .getfield 95, 3, (5, 8, [254, 0], [])) := rfl
theorem kf_Worker_readByte_4 : mcGet K_Worker_readByte 4 = (4, false, .ifCond .ge 6, 3, (10, 0, [], [])) := rfl
theorem kf_Worker_readByte_7 : mcGet K_Worker_readByte 7 = (7, false, .bipush 6, 2, mcX0) := rfl
theorem kf_Worker_readByte_9 : mcGet K_Worker_readByte 9 = (9, false, .ireturn, 1, mcX0) := rfl
theorem kf_Worker_readByte_10 : mcGet K_Worker_readByte 10 = (10, false, .aload_n 0, 1, mcX0) := rfl
theorem kf_Worker_readByte_11 : mcGet K_Worker_readByte 11 = (11, false, .getfield 95, 3, (5, 8, [254, 0], [])) := rfl
theorem kf_Worker_readByte_14 : mcGet K_Worker_readByte 14 = (14, false, .invokestatic 163, 3, (1, 1, [660, 661, 52, 662, 0, 1], [M_Srv_isPlace])) := rfl
theorem kf_Worker_readByte_17 : mcGet K_Worker_readByte 17 = (17, false, .ifCond .eq 31, 3, (48, 0, [], [])) := rfl
theorem kf_Worker_readByte_20 : mcGet K_Worker_readByte 20 = (20, false, .aload_n 0, 1, mcX0) := rfl
theorem kf_Worker_readByte_21 : mcGet K_Worker_readByte 21 = (21, false, .getfield 27, 3, (5, 2, [248, 1], [])) := rfl
theorem kf_Worker_readByte_24 : mcGet K_Worker_readByte 24 = (24, false, .aload_n 0, 1, mcX0) := rfl
theorem kf_Worker_readByte_25 : mcGet K_Worker_readByte 25 = (25, false, .getfield 28, 3, (5, 3, [249, 0], [])) := rfl
theorem kf_Worker_readByte_28 : mcGet K_Worker_readByte 28 = (28, false, .aload_n 0, 1, mcX0) := rfl
theorem kf_Worker_readByte_29 : mcGet K_Worker_readByte 29 = (29, false, .getfield 115, 3, (5, 11, [257, 0], [])) := rfl
theorem kf_Worker_readByte_32 : mcGet K_Worker_readByte 32 = (32, false, .invokevirtual 166, 3, (2, 3, [663, 664, 59, 666, 665, 7], [M_Locks_aloneOfOthers])) := rfl
theorem kf_Worker_readByte_35 : mcGet K_Worker_readByte 35 = (35, false, .aload_n 0, 1, mcX0) := rfl
theorem kf_Worker_readByte_36 : mcGet K_Worker_readByte 36 = (36, false, .getfield 95, 3, (5, 8, [254, 0], [])) := rfl
theorem kf_Worker_readByte_39 : mcGet K_Worker_readByte 39 = (39, false, .invokestatic 170, 3, (0, 2, [667, 668, 55, 669, 0, 3], [M_Worker_isAmong])) := rfl
theorem kf_Worker_readByte_42 : mcGet K_Worker_readByte 42 = (42, false, .ifCond .eq 6, 3, (48, 0, [], [])) := rfl
theorem kf_Worker_readByte_45 : mcGet K_Worker_readByte 45 = (45, false, .bipush 9, 2, mcX0) := rfl
theorem kf_Worker_readByte_47 : mcGet K_Worker_readByte 47 = (47, false, .ireturn, 1, mcX0) := rfl
theorem kf_Worker_readByte_48 : mcGet K_Worker_readByte 48 = (48, false, .aload_n 0, 1, mcX0) := rfl
theorem kf_Worker_readByte_49 : mcGet K_Worker_readByte 49 = (49, false, .aload_n 0, 1, mcX0) := rfl
theorem kf_Worker_readByte_50 : mcGet K_Worker_readByte 50 = (50, false, .getfield 22, 3, (5, 1, [247, 1], [])) := rfl
theorem kf_Worker_readByte_53 : mcGet K_Worker_readByte 53 = (53, false, .aload_n 0, 1, mcX0) := rfl
theorem kf_Worker_readByte_54 : mcGet K_Worker_readByte 54 = (54, false, .getfield 115, 3, (5, 11, [257, 0], [])) := rfl
theorem kf_Worker_readByte_57 : mcGet K_Worker_readByte 57 = (57, false, .aload_n 0, 1, mcX0) := rfl
theorem kf_Worker_readByte_58 : mcGet K_Worker_readByte 58 = (58, false, .getfield 95, 3, (5, 8, [254, 0], [])) := rfl
theorem kf_Worker_readByte_61 : mcGet K_Worker_readByte 61 = (61, false, .invokevirtual 174, 3, (1, 3, [670, 671, 57, 673, 672, 3], [M_Tree_byteAt])) := rfl
theorem kf_Worker_readByte_64 : mcGet K_Worker_readByte 64 = (64, false, .putfield 104, 3, (5, 12, [258, 0], [])) := rfl
theorem kf_Worker_readByte_67 : mcGet K_Worker_readByte 67 = (67, false, .iconst 0, 1, mcX0) := rfl
theorem kf_Worker_readByte_68 : mcGet K_Worker_readByte 68 = (68, false, .ireturn, 1, mcX0) := rfl
theorem kf_Worker_refusalOfHandle_0 : mcGet K_Worker_refusalOfHandle 0 = (0, false, .aload_n 0, 1, mcX0) := rfl
theorem kf_Worker_refusalOfHandle_1 : mcGet K_Worker_refusalOfHandle 1 = (1, false, .getfield 92, 3, (5, 7, [253, 0], [])) := rfl
theorem kf_Worker_refusalOfHandle_4 : mcGet K_Worker_refusalOfHandle 4 = (4, false, .invokestatic 107, 3, (1, 1, [584, 585, 52, 586, 0, 1], [M_Srv_isHandle])) := rfl
theorem kf_Worker_refusalOfHandle_7 : mcGet K_Worker_refusalOfHandle 7 = (7, false, .ifCond .ne 6, 3, (13, 0, [], [])) := rfl
theorem kf_Worker_refusalOfHandle_10 : mcGet K_Worker_refusalOfHandle 10 = (10, false, .bipush 6, 2, mcX0) := rfl
theorem kf_Worker_refusalOfHandle_12 : mcGet K_Worker_refusalOfHandle 12 = (12, false, .ireturn, 1, mcX0) := rfl
theorem kf_Worker_refusalOfHandle_13 : mcGet K_Worker_refusalOfHandle 13 = (13, false, .aload_n 0, 1, mcX0) := rfl
theorem kf_Worker_refusalOfHandle_14 : mcGet K_Worker_refusalOfHandle 14 = (14, false, .getfield 47, 3, (5, 6, [252, 0], [])) := rfl
theorem kf_Worker_refusalOfHandle_17 : mcGet K_Worker_refusalOfHandle 17 = (17, false, .ifCond .eq 12, 3, (29, 0, [], [])) := rfl
theorem kf_Worker_refusalOfHandle_20 : mcGet K_Worker_refusalOfHandle 20 = (20, false, .aload_n 0, 1, mcX0) := rfl
theorem kf_Worker_refusalOfHandle_21 : mcGet K_Worker_refusalOfHandle 21 = (21, false, .getfield 47, 3, (5, 6, [252, 0], [])) := rfl
theorem kf_Worker_refusalOfHandle_24 : mcGet K_Worker_refusalOfHandle 24 = (24, false, .bipush 12, 2, mcX0) := rfl
theorem kf_Worker_refusalOfHandle_26 : mcGet K_Worker_refusalOfHandle 26 = (26, false, .if_icmp .ne 5, 3, (31, 0, [], [])) := rfl
theorem kf_Worker_refusalOfHandle_29 : mcGet K_Worker_refusalOfHandle 29 = (29, false, .iconst 0, 1, mcX0) := rfl
theorem kf_Worker_refusalOfHandle_30 : mcGet K_Worker_refusalOfHandle 30 = (30, false, .ireturn, 1, mcX0) := rfl
theorem kf_Worker_refusalOfHandle_31 : mcGet K_Worker_refusalOfHandle 31 = (31, false, .aload_n 0, 1, mcX0) := rfl
theorem kf_Worker_refusalOfHandle_32 : mcGet K_Worker_refusalOfHandle 32 = (32, false, .aload_n 0, 1, mcX0) := rfl
theorem kf_Worker_refusalOfHandle_33 : mcGet K_Worker_refusalOfHandle 33 = (33, false, .getfield 12, 3, (5, 0, [245, 1], [])) := rfl
theorem kf_Worker_refusalOfHandle_36 : mcGet K_Worker_refusalOfHandle 36 = (36, false, .aload_n 0, 1, mcX0) := rfl
theorem kf_Worker_refusalOfHandle_37 : mcGet K_Worker_refusalOfHandle 37 = (37, false, .getfield 28, 3, (5, 3, [249, 0], [])) := rfl
theorem kf_Worker_refusalOfHandle_40 : mcGet K_Worker_refusalOfHandle 40 = (40, false, .aload_n 0, 1, mcX0) := rfl
theorem kf_Worker_refusalOfHandle_41 : mcGet K_Worker_refusalOfHandle 41 = (41, false, .getfield 92, 3, (5, 7, [253, 0], [])) := rfl
theorem kf_Worker_refusalOfHandle_44 : mcGet K_Worker_refusalOfHandle 44 = (44, false, .invokevirtual 111, 3, (4, 3, [587, 588, 56, 590, 589, 3], [M_Disk_boundTo])) := rfl
theorem kf_Worker_refusalOfHandle_47 : mcGet K_Worker_refusalOfHandle 47 = (47, false, .putfield 115, 3, (5, 11, [257, 0], [])) := rfl
theorem kf_Worker_refusalOfHandle_50 : mcGet K_Worker_refusalOfHandle 50 = (50, false, .aload_n 0, 1, mcX0) := rfl
theorem kf_Worker_refusalOfHandle_51 : mcGet K_Worker_refusalOfHandle 51 = (51, false, .getfield 115, 3, (5, 11, [257, 0], [])) := rfl
theorem kf_Worker_refusalOfHandle_54 : mcGet K_Worker_refusalOfHandle 54 = (54, false, .iconst (-1), 1, mcX0) := rfl
theorem kf_Worker_refusalOfHandle_55 : mcGet K_Worker_refusalOfHandle 55 = (55, false, .if_icmp .ne 5, 3, (60, 0, [], [])) := rfl
theorem kf_Worker_refusalOfHandle_58 : mcGet K_Worker_refusalOfHandle 58 = (58, false, .iconst 1, 1, mcX0) := rfl
theorem kf_Worker_refusalOfHandle_59 : mcGet K_Worker_refusalOfHandle 59 = (59, false, .ireturn, 1, mcX0) := rfl
theorem kf_Worker_refusalOfHandle_60 : mcGet K_Worker_refusalOfHandle 60 = (60, false, .aload_n 0, 1, mcX0) := rfl
theorem kf_Worker_refusalOfHandle_61 : mcGet K_Worker_refusalOfHandle 61 = (61, false, .getfield 47, 3, (5, 6, [252, 0], [])) := rfl
theorem kf_Worker_refusalOfHandle_64 : mcGet K_Worker_refusalOfHandle 64 = (64, false, .iconst 4, 1, mcX0) := rfl
theorem kf_Worker_refusalOfHandle_65 : mcGet K_Worker_refusalOfHandle 65 = (65, false, .if_icmp .ne 5, 3, (70, 0, [], [])) := rfl
theorem kf_Worker_refusalOfHandle_68 : mcGet K_Worker_refusalOfHandle 68 = (68, false, .iconst 0, 1, mcX0) := rfl
theorem kf_Worker_refusalOfHandle_69 : mcGet K_Worker_refusalOfHandle 69 = (69, false, .ireturn, 1, mcX0) := rfl
theorem kf_Worker_refusalOfHandle_70 : mcGet K_Worker_refusalOfHandle 70 = (70, false, .aload_n 0, 1, mcX0) := rfl
theorem kf_Worker_refusalOfHandle_71 : mcGet K_Worker_refusalOfHandle 71 = (71, false, .getfield 47, 3, (5, 6, [252, 0], [])) := rfl
theorem kf_Worker_refusalOfHandle_74 : mcGet K_Worker_refusalOfHandle 74 = (74, false, .iconst 1, 1, mcX0) := rfl
theorem kf_Worker_refusalOfHandle_75 : mcGet K_Worker_refusalOfHandle 75 = (75, false, .if_icmp .eq 28, 3, (103, 0, [], [])) := rfl
theorem kf_Worker_refusalOfHandle_78 : mcGet K_Worker_refusalOfHandle 78 = (78, false, .aload_n 0, 1, mcX0) := rfl
theorem kf_Worker_refusalOfHandle_79 : mcGet K_Worker_refusalOfHandle 79 = (79, false, .getfield 47, 3, (5, 6, [252, 0], [])) := rfl
theorem kf_Worker_refusalOfHandle_82 : mcGet K_Worker_refusalOfHandle 82 = (82, false, .iconst 2, 1, mcX0) := rfl
theorem kf_Worker_refusalOfHandle_83 : mcGet K_Worker_refusalOfHandle 83 = (83, false, .if_icmp .eq 20, 3, (103, 0, [], [])) := rfl
theorem kf_Worker_refusalOfHandle_86 : mcGet K_Worker_refusalOfHandle 86 = (86, false, .aload_n 0, 1, mcX0) := rfl
theorem kf_Worker_refusalOfHandle_87 : mcGet K_Worker_refusalOfHandle 87 = (87, false, .getfield 47, 3, (5, 6, [252, 0], [])) := rfl
theorem kf_Worker_refusalOfHandle_90 : mcGet K_Worker_refusalOfHandle 90 = (90, false, .iconst 3, 1, mcX0) := rfl
theorem kf_Worker_refusalOfHandle_91 : mcGet K_Worker_refusalOfHandle 91 = (91, false, .if_icmp .eq 12, 3, (103, 0, [], [])) := rfl
theorem kf_Worker_refusalOfHandle_94 : mcGet K_Worker_refusalOfHandle 94 = (94, false, .aload_n 0, 1, mcX0) := rfl
theorem kf_Worker_refusalOfHandle_95 : mcGet K_Worker_refusalOfHandle 95 = (95, false, .getfield 47, 3, (5, 6, [252, 0], [])) := rfl
theorem kf_Worker_refusalOfHandle_98 : mcGet K_Worker_refusalOfHandle 98 = (98, false, .bipush 9, 2, mcX0) := rfl
theorem kf_Worker_refusalOfHandle_100 : mcGet K_Worker_refusalOfHandle 100 = (100, false, .if_icmp .ne 7, 3, (107, 0, [], [])) := rfl
theorem kf_Worker_refusalOfHandle_103 : mcGet K_Worker_refusalOfHandle 103 = (103, false, .iconst 1, 1, mcX0) := rfl
theorem kf_Worker_refusalOfHandle_104 : mcGet K_Worker_refusalOfHandle 104 = (104, false, .goto 4, 3, (108, 0, [], [])) := rfl
theorem kf_Worker_refusalOfHandle_107 : mcGet K_Worker_refusalOfHandle 107 = (107, false, .iconst 0, 1, mcX0) := rfl
theorem kf_Worker_refusalOfHandle_108 : mcGet K_Worker_refusalOfHandle 108 = (108, false, .istore_n 1, 1, mcX0) := rfl
theorem kf_Worker_refusalOfHandle_109 : mcGet K_Worker_refusalOfHandle 109 = (109, false, .aload_n 0, 1, mcX0) := rfl
theorem kf_Worker_refusalOfHandle_110 : mcGet K_Worker_refusalOfHandle 110 = (110, false, .getfield 22, 3, (5, 1, [247, 1], [])) := rfl
theorem kf_Worker_refusalOfHandle_113 : mcGet K_Worker_refusalOfHandle 113 = (113, false, .getfield 118, 3, (1, 0, [149, 1], [])) := rfl
theorem kf_Worker_refusalOfHandle_116 : mcGet K_Worker_refusalOfHandle 116 = (116, false, .aload_n 0, 1, mcX0) := rfl
theorem kf_Worker_refusalOfHandle_117 : mcGet K_Worker_refusalOfHandle 117 = (117, false, .getfield 115, 3, (5, 11, [257, 0], [])) := rfl
theorem kf_Worker_refusalOfHandle_120 : mcGet K_Worker_refusalOfHandle 120 = (120, false, .iaload, 1, mcX0) := rfl
theorem kf_Worker_refusalOfHandle_121 : mcGet K_Worker_refusalOfHandle 121 = (121, false, .iload_n 1, 1, mcX0) := rfl
theorem kf_Worker_refusalOfHandle_122 : mcGet K_Worker_refusalOfHandle 122 = (122, false, .ifCond .eq 7, 3, (129, 0, [], [])) := rfl
theorem kf_Worker_refusalOfHandle_125 : mcGet K_Worker_refusalOfHandle 125 = (125, false, .iconst 1, 1, mcX0) := rfl
theorem kf_Worker_refusalOfHandle_126 : mcGet K_Worker_refusalOfHandle 126 = (126, false, .goto 4, 3, (130, 0, [], [])) := rfl
theorem kf_Worker_refusalOfHandle_129 : mcGet K_Worker_refusalOfHandle 129 = (129, false, .iconst 0, 1, mcX0) := rfl
theorem kf_Worker_refusalOfHandle_130 : mcGet K_Worker_refusalOfHandle 130 = (130, false, .if_icmp .ne 7, 3, (137, 0, [], [])) := rfl
theorem kf_Worker_refusalOfHandle_133 : mcGet K_Worker_refusalOfHandle 133 = (133, false, .iconst 0, 1, mcX0) := rfl
theorem kf_Worker_refusalOfHandle_134 : mcGet K_Worker_refusalOfHandle 134 = (134, false, .goto 4, 3, (138, 0, [], [])) := rfl
theorem kf_Worker_refusalOfHandle_137 : mcGet K_Worker_refusalOfHandle 137 = (137, false, .iconst 4, 1, mcX0) := rfl
theorem kf_Worker_refusalOfHandle_138 : mcGet K_Worker_refusalOfHandle 138 = (138, false, .ireturn, 1, mcX0) := rfl
theorem kf_Worker_removeEntry_0 : mcGet K_Worker_removeEntry 0 = (0, false, .aload_n 0, 1, mcX0) := rfl
theorem kf_Worker_removeEntry_1 : mcGet K_Worker_removeEntry 1 = (1, false, .getfield 22, 3, (5, 1, [247, 1], [])) := rfl
theorem kf_Worker_removeEntry_4 : mcGet K_Worker_removeEntry 4 = (4, false, .aload_n 0, 1, mcX0) := rfl
theorem kf_Worker_removeEntry_5 : mcGet K_Worker_removeEntry 5 = (5, false, .getfield 115, 3, (5, 11, [257, 0], [])) := rfl
theorem kf_Worker_removeEntry_8 : mcGet K_Worker_removeEntry 8 = (8, false, .aload_n 0, 1, mcX0) := rfl
theorem kf_Worker_removeEntry_9 : mcGet K_Worker_removeEntry 9 = (9, false, .getfield 98, 3, (5, 9, [255, 0], [])) := rfl
theorem kf_Worker_removeEntry_12 : mcGet K_Worker_removeEntry 12 = (12, false, .invokevirtual 133, 3, (1, 3, [603, 604, 57, 606, 605, 4], [M_Tree_find])) := rfl
theorem kf_Worker_removeEntry_15 : mcGet K_Worker_removeEntry 15 = (15, false, .istore_n 1, 1, mcX0) := rfl
theorem kf_Worker_removeEntry_16 : mcGet K_Worker_removeEntry 16 = (16, false, .iload_n 1, 1, mcX0) := rfl
theorem kf_Worker_removeEntry_17 : mcGet K_Worker_removeEntry 17 = (17, false, .iconst (-1), 1, mcX0) := rfl
theorem kf_Worker_removeEntry_18 : mcGet K_Worker_removeEntry 18 = (18, false, .if_icmp .ne 5, 3, (23, 0, [], [])) := rfl
theorem kf_Worker_removeEntry_21 : mcGet K_Worker_removeEntry 21 = (21, false, .iconst 2, 1, mcX0) := rfl
theorem kf_Worker_removeEntry_22 : mcGet K_Worker_removeEntry 22 = (22, false, .ireturn, 1, mcX0) := rfl
theorem kf_Worker_removeEntry_23 : mcGet K_Worker_removeEntry 23 = (23, false, .aload_n 0, 1, mcX0) := rfl
theorem kf_Worker_removeEntry_24 : mcGet K_Worker_removeEntry 24 = (24, false, .getfield 22, 3, (5, 1, [247, 1], [])) := rfl
theorem kf_Worker_removeEntry_27 : mcGet K_Worker_removeEntry 27 = (27, false, .iload_n 1, 1, mcX0) := rfl
theorem kf_Worker_removeEntry_28 : mcGet K_Worker_removeEntry 28 = (28, false, .invokevirtual 143, 3, (1, 2, [627, 628, 57, 630, 629, 3], [M_Tree_isEmpty])) := rfl
theorem kf_Worker_removeEntry_31 : mcGet K_Worker_removeEntry 31 = (31, false, .ifCond .ne 6, 3, (37, 0, [], [])) := rfl
theorem kf_Worker_removeEntry_34 : mcGet K_Worker_removeEntry 34 = (34, false, .bipush 7, 2, mcX0) := rfl
theorem kf_Worker_removeEntry_36 : mcGet K_Worker_removeEntry 36 = (36, false, .ireturn, 1, mcX0) := rfl
theorem kf_Worker_removeEntry_37 : mcGet K_Worker_removeEntry 37 = (37, false, .aload_n 0, 1, mcX0) := rfl
theorem kf_Worker_removeEntry_38 : mcGet K_Worker_removeEntry 38 = (38, false, .getfield 12, 3, (5, 0, [245, 1], [])) := rfl
theorem kf_Worker_removeEntry_41 : mcGet K_Worker_removeEntry 41 = (41, false, .iload_n 1, 1, mcX0) := rfl
theorem kf_Worker_removeEntry_42 : mcGet K_Worker_removeEntry 42 = (42, false, .invokevirtual 146, 3, (4, 2, [631, 632, 56, 634, 633, 3], [M_Disk_deleteNode])) := rfl
theorem kf_Worker_removeEntry_45 : mcGet K_Worker_removeEntry 45 = (45, false, .aload_n 0, 1, mcX0) := rfl
theorem kf_Worker_removeEntry_46 : mcGet K_Worker_removeEntry 46 = (46, false, .iload_n 1, 1, mcX0) := rfl
theorem kf_Worker_removeEntry_47 : mcGet K_Worker_removeEntry 47 = (47, false, .putfield 104, 3, (5, 12, [258, 0], [])) := rfl
theorem kf_Worker_removeEntry_50 : mcGet K_Worker_removeEntry 50 = (50, false, .iconst 0, 1, mcX0) := rfl
theorem kf_Worker_removeEntry_51 : mcGet K_Worker_removeEntry 51 = (51, false, .ireturn, 1, mcX0) := rfl
theorem kf_Worker_renewLease_0 : mcGet K_Worker_renewLease 0 = (0, false, .aload_n 0, 1, mcX0) := rfl
theorem kf_Worker_renewLease_1 : mcGet K_Worker_renewLease 1 = (1, false, .getfield 27, 3, (5, 2, [248, 1], [])) := rfl
theorem kf_Worker_renewLease_4 : mcGet K_Worker_renewLease 4 = (4, false, .getfield 128, 3, (2, 4, [182, 1], [])) := rfl
theorem kf_Worker_renewLease_7 : mcGet K_Worker_renewLease 7 = (7, false, .aload_n 0, 1, mcX0) := rfl
theorem kf_Worker_renewLease_8 : mcGet K_Worker_renewLease 8 = (8, false, .getfield 28, 3, (5, 3, [249, 0], [])) := rfl
theorem kf_Worker_renewLease_11 : mcGet K_Worker_renewLease 11 = (11, false, .aload_n 0, 1, mcX0) := rfl
theorem kf_Worker_renewLease_12 : mcGet K_Worker_renewLease 12 = (12, false, .getfield 32, 3, (5, 4, [250, 0], [])) := rfl
theorem kf_Worker_renewLease_15 : mcGet K_Worker_renewLease 15 = (15, false, .sipush 30000, 3, mcX0) := rfl
theorem kf_Worker_renewLease_18 : mcGet K_Worker_renewLease 18 = (18, false, .iadd, 1, mcX0) := rfl
theorem kf_Worker_renewLease_19 : mcGet K_Worker_renewLease 19 = (19, false, .iastore, 1, mcX0) := rfl
theorem kf_Worker_renewLease_20 : mcGet K_Worker_renewLease 20 = (20, false, .iconst 0, 1, mcX0) := rfl
theorem kf_Worker_renewLease_21 : mcGet K_Worker_renewLease 21 = (21, false, .ireturn, 1, mcX0) := rfl
theorem kf_Worker_resizeFile_0 : mcGet K_Worker_resizeFile 0 = (0, false, .aload_n 0, 1, mcX0) := rfl
theorem kf_Worker_resizeFile_1 : mcGet K_Worker_resizeFile 1 = (1, false, .getfield 95, 3, (5, 8, [254, 0], [])) := rfl
theorem kf_Worker_resizeFile_4 : mcGet K_Worker_resizeFile 4 = (4, false, .iconst 0, 1, mcX0) := rfl
theorem kf_Worker_resizeFile_5 : mcGet K_Worker_resizeFile 5 = (5, false, .bipush 64, 2, mcX0) := rfl
theorem kf_Worker_resizeFile_7 : mcGet K_Worker_resizeFile 7 = (7, false, .invokestatic 191, 3, (1, 3, [682, 482, 52, 483, 0, 3], [M_Srv_isWithin])) := rfl
theorem kf_Worker_resizeFile_10 : mcGet K_Worker_resizeFile 10 = (10, false, .ifCond .ne 6, 3, (16, 0, [], [])) := rfl
theorem kf_Worker_resizeFile_13 : mcGet K_Worker_resizeFile 13 = (13, false, .bipush 6, 2, mcX0) := rfl
theorem kf_Worker_resizeFile_15 : mcGet K_Worker_resizeFile 15 = (15, false, .ireturn, 1, mcX0) := rfl
theorem kf_Worker_resizeFile_16 : mcGet K_Worker_resizeFile 16 = (16, false, .aload_n 0, 1, mcX0) := rfl
theorem kf_Worker_resizeFile_17 : mcGet K_Worker_resizeFile 17 = (17, false, .getfield 22, 3, (5, 1, [247, 1], [])) := rfl
theorem kf_Worker_resizeFile_20 : mcGet K_Worker_resizeFile 20 = (20, false, .getfield 198, 3, (1, 3, [158, 1], [])) := rfl
theorem kf_Worker_resizeFile_23 : mcGet K_Worker_resizeFile 23 = (23, false, .aload_n 0, 1, mcX0) := rfl
theorem kf_Worker_resizeFile_24 : mcGet K_Worker_resizeFile 24 = (24, false, .getfield 115, 3, (5, 11, [257, 0], [])) := rfl
theorem kf_Worker_resizeFile_27 : mcGet K_Worker_resizeFile 27 = (27, false, .iaload, 1, mcX0) := rfl
theorem kf_Worker_resizeFile_28 : mcGet K_Worker_resizeFile 28 = (28, false, .istore_n 1, 1, mcX0) := rfl
theorem kf_Worker_resizeFile_29 : mcGet K_Worker_resizeFile 29 = (29, false, .aload_n 0, 1, mcX0) := rfl
theorem kf_Worker_resizeFile_30 : mcGet K_Worker_resizeFile 30 = (30, false, .getfield 95, 3, (5, 8, [254, 0], [])) := rfl
theorem kf_Worker_resizeFile_33 : mcGet K_Worker_resizeFile 33 = (33, false, .iload_n 1, 1, mcX0) := rfl
theorem kf_Worker_resizeFile_34 : mcGet K_Worker_resizeFile 34 = (34, false, .invokestatic 201, 3, (3, 0, [708, 709, 70, 710], [])) := rfl
theorem kf_Worker_resizeFile_37 : mcGet K_Worker_resizeFile 37 = (37, false, .aload_n 0, 1, mcX0) := rfl
theorem kf_Worker_resizeFile_38 : mcGet K_Worker_resizeFile 38 = (38, false, .getfield 95, 3, (5, 8, [254, 0], [])) := rfl
theorem kf_Worker_resizeFile_41 : mcGet K_Worker_resizeFile 41 = (41, false, .iload_n 1, 1, mcX0) := rfl
theorem kf_Worker_resizeFile_42 : mcGet K_Worker_resizeFile 42 = (42, false, .invokestatic 206, 3, (2, 0, [711, 712, 70, 713], [])) := rfl
theorem kf_Worker_resizeFile_45 : mcGet K_Worker_resizeFile 45 = (45, false, .iconst 1, 1, mcX0) := rfl
theorem kf_Worker_resizeFile_46 : mcGet K_Worker_resizeFile 46 = (46, false, .isub, 1, mcX0) := rfl
theorem kf_Worker_resizeFile_47 : mcGet K_Worker_resizeFile 47 = (47, false, .invokestatic 209, 3, (0, 2, [714, 715, 55, 716, 0, 2], [M_Worker_range])) := rfl
theorem kf_Worker_resizeFile_50 : mcGet K_Worker_resizeFile 50 = (50, false, .lstore_n 2, 1, mcX0) := rfl
theorem kf_Worker_resizeFile_51 : mcGet K_Worker_resizeFile 51 = (51, false, .aload_n 0, 1, mcX0) := rfl
theorem kf_Worker_resizeFile_52 : mcGet K_Worker_resizeFile 52 = (52, false, .getfield 27, 3, (5, 2, [248, 1], [])) := rfl
theorem kf_Worker_resizeFile_55 : mcGet K_Worker_resizeFile 55 = (55, false, .aload_n 0, 1, mcX0) := rfl
theorem kf_Worker_resizeFile_56 : mcGet K_Worker_resizeFile 56 = (56, false, .getfield 28, 3, (5, 3, [249, 0], [])) := rfl
theorem kf_Worker_resizeFile_59 : mcGet K_Worker_resizeFile 59 = (59, false, .aload_n 0, 1, mcX0) := rfl
theorem kf_Worker_resizeFile_60 : mcGet K_Worker_resizeFile 60 = (60, false, .getfield 115, 3, (5, 11, [257, 0], [])) := rfl
theorem kf_Worker_resizeFile_63 : mcGet K_Worker_resizeFile 63 = (63, false, .invokevirtual 181, 3, (2, 3, [683, 684, 59, 686, 685, 7], [M_Locks_anyOfOthers])) := rfl
theorem kf_Worker_resizeFile_66 : mcGet K_Worker_resizeFile 66 = (66, false, .lload_n 2, 1, mcX0) := rfl
theorem kf_Worker_resizeFile_67 : mcGet K_Worker_resizeFile 67 = (67, false, .land, 1, mcX0) := rfl
theorem kf_Worker_resizeFile_68 : mcGet K_Worker_resizeFile 68 = (68, false, .lconst 0, 1, mcX0) := rfl
theorem kf_Worker_resizeFile_69 : mcGet K_Worker_resizeFile 69 = (69, false, .lcmp, 1, mcX0) := rfl
theorem kf_Worker_resizeFile_70 : mcGet K_Worker_resizeFile 70 = (70, false, .ifCond .eq 6, 3, (76, 0, [], [])) := rfl
theorem kf_Worker_resizeFile_73 : mcGet K_Worker_resizeFile 73 = (73, false, .bipush 9, 2, mcX0) := rfl
theorem kf_Worker_resizeFile_75 : mcGet K_Worker_resizeFile 75 = (75, false, .ireturn, 1, mcX0) := rfl
theorem kf_Worker_resizeFile_76 : mcGet K_Worker_resizeFile 76 = (76, false, .aload_n 0, 1, mcX0) := rfl
theorem kf_Worker_resizeFile_77 : mcGet K_Worker_resizeFile 77 = (77, false, .getfield 22, 3, (5, 1, [247, 1], [])) := rfl
theorem kf_Worker_resizeFile_80 : mcGet K_Worker_resizeFile 80 = (80, false, .aload_n 0, 1, mcX0) := rfl
theorem kf_Worker_resizeFile_81 : mcGet K_Worker_resizeFile 81 = (81, false, .getfield 115, 3, (5, 11, [257, 0], [])) := rfl
theorem kf_Worker_resizeFile_84 : mcGet K_Worker_resizeFile 84 = (84, false, .aload_n 0, 1, mcX0) := rfl
theorem kf_Worker_resizeFile_85 : mcGet K_Worker_resizeFile 85 = (85, false, .getfield 95, 3, (5, 8, [254, 0], [])) := rfl
theorem kf_Worker_resizeFile_88 : mcGet K_Worker_resizeFile 88 = (88, false, .invokevirtual 212, 3, (1, 3, [718, 636, 57, 638, 637, 4], [M_Tree_resize])) := rfl
theorem kf_Worker_resizeFile_91 : mcGet K_Worker_resizeFile 91 = (91, false, .aload_n 0, 1, mcX0) := rfl
theorem kf_Worker_resizeFile_92 : mcGet K_Worker_resizeFile 92 = (92, false, .iload_n 1, 1, mcX0) := rfl
theorem kf_Worker_resizeFile_93 : mcGet K_Worker_resizeFile 93 = (93, false, .putfield 104, 3, (5, 12, [258, 0], [])) := rfl
theorem kf_Worker_resizeFile_96 : mcGet K_Worker_resizeFile 96 = (96, false, .iconst 0, 1, mcX0) := rfl
theorem kf_Worker_resizeFile_97 : mcGet K_Worker_resizeFile 97 = (97, false, .ireturn, 1, mcX0) := rfl
theorem kf_Worker_unlockBytes_0 : mcGet K_Worker_unlockBytes 0 = (0, false, .aload_n 0, 1, mcX0) := rfl
theorem kf_Worker_unlockBytes_1 : mcGet K_Worker_unlockBytes 1 = (1, false, .invokevirtual 216, 3, (5, 1, [735, 737, 55, 738, 17, 1], [M_Worker_isRange])) := rfl
theorem kf_Worker_unlockBytes_4 : mcGet K_Worker_unlockBytes 4 = (4, false, .ifCond .ne 6, 3, (10, 0, [], [])) := rfl
theorem kf_Worker_unlockBytes_7 : mcGet K_Worker_unlockBytes 7 = (7, false, .bipush 6, 2, mcX0) := rfl
theorem kf_Worker_unlockBytes_9 : mcGet K_Worker_unlockBytes 9 = (9, false, .ireturn, 1, mcX0) := rfl
theorem kf_Worker_unlockBytes_10 : mcGet K_Worker_unlockBytes 10 = (10, false, .aload_n 0, 1, mcX0) := rfl
theorem kf_Worker_unlockBytes_11 : mcGet K_Worker_unlockBytes 11 = (11, false, .getfield 27, 3, (5, 2, [248, 1], [])) := rfl
theorem kf_Worker_unlockBytes_14 : mcGet K_Worker_unlockBytes 14 = (14, false, .aload_n 0, 1, mcX0) := rfl
theorem kf_Worker_unlockBytes_15 : mcGet K_Worker_unlockBytes 15 = (15, false, .getfield 28, 3, (5, 3, [249, 0], [])) := rfl
theorem kf_Worker_unlockBytes_18 : mcGet K_Worker_unlockBytes 18 = (18, false, .aload_n 0, 1, mcX0) := rfl
theorem kf_Worker_unlockBytes_19 : mcGet K_Worker_unlockBytes 19 = (19, false, .getfield 115, 3, (5, 11, [257, 0], [])) := rfl
theorem kf_Worker_unlockBytes_22 : mcGet K_Worker_unlockBytes 22 = (22, false, .aload_n 0, 1, mcX0) := rfl
theorem kf_Worker_unlockBytes_23 : mcGet K_Worker_unlockBytes 23 = (23, false, .getfield 95, 3, (5, 8, [254, 0], [])) := rfl
theorem kf_Worker_unlockBytes_26 : mcGet K_Worker_unlockBytes 26 = (26, false, .aload_n 0, 1, mcX0) := rfl
theorem kf_Worker_unlockBytes_27 : mcGet K_Worker_unlockBytes 27 = (27, false, .getfield 98, 3, (5, 9, [255, 0], [])) := rfl
theorem kf_Worker_unlockBytes_30 : mcGet K_Worker_unlockBytes 30 = (30, false, .invokestatic 209, 3, (0, 2, [714, 715, 55, 716, 0, 2], [M_Worker_range])) := rfl
theorem kf_Worker_unlockBytes_33 : mcGet K_Worker_unlockBytes 33 = (33, false, .invokevirtual 226, 3, (2, 4, [760, 748, 59, 750, 749, 6], [M_Locks_release])) := rfl
theorem kf_Worker_unlockBytes_36 : mcGet K_Worker_unlockBytes 36 = (36, false, .iconst 0, 1, mcX0) := rfl
theorem kf_Worker_unlockBytes_37 : mcGet K_Worker_unlockBytes 37 = (37, false, .ireturn, 1, mcX0) := rfl
theorem kf_Worker_walkTo_0 : mcGet K_Worker_walkTo 0 = (0, false, .aload_n 0, 1, mcX0) := rfl
theorem kf_Worker_walkTo_1 : mcGet K_Worker_walkTo 1 = (1, false, .getfield 95, 3, (5, 8, [254, 0], [])) := rfl
theorem kf_Worker_walkTo_4 : mcGet K_Worker_walkTo 4 = (4, false, .invokestatic 107, 3, (1, 1, [584, 585, 52, 586, 0, 1], [M_Srv_isHandle])) := rfl
theorem kf_Worker_walkTo_7 : mcGet K_Worker_walkTo 7 = (7, false, .ifCond .ne 6, 3, (13, 0, [], [])) := rfl
theorem kf_Worker_walkTo_10 : mcGet K_Worker_walkTo 10 = (10, false, .bipush 6, 2, mcX0) := rfl
theorem kf_Worker_walkTo_12 : mcGet K_Worker_walkTo 12 = (12, false, .ireturn, 1, mcX0) := rfl
theorem kf_Worker_walkTo_13 : mcGet K_Worker_walkTo 13 = (13, false, .aload_n 0, 1, mcX0) := rfl
theorem kf_Worker_walkTo_14 : mcGet K_Worker_walkTo 14 = (14, false, .getfield 22, 3, (5, 1, [247, 1], [])) := rfl
theorem kf_Worker_walkTo_17 : mcGet K_Worker_walkTo 17 = (17, false, .aload_n 0, 1, mcX0) := rfl
theorem kf_Worker_walkTo_18 : mcGet K_Worker_walkTo 18 = (18, false, .getfield 115, 3, (5, 11, [257, 0], [])) := rfl
theorem kf_Worker_walkTo_21 : mcGet K_Worker_walkTo 21 = (21, false, .aload_n 0, 1, mcX0) := rfl
theorem kf_Worker_walkTo_22 : mcGet K_Worker_walkTo 22 = (22, false, .getfield 98, 3, (5, 9, [255, 0], [])) := rfl
theorem kf_Worker_walkTo_25 : mcGet K_Worker_walkTo 25 = (25, false, .invokevirtual 133, 3, (1, 3, [603, 604, 57, 606, 605, 4], [M_Tree_find])) := rfl
theorem kf_Worker_walkTo_28 : mcGet K_Worker_walkTo 28 = (28, false, .istore_n 1, 1, mcX0) := rfl
theorem kf_Worker_walkTo_29 : mcGet K_Worker_walkTo 29 = (29, false, .iload_n 1, 1, mcX0) := rfl
theorem kf_Worker_walkTo_30 : mcGet K_Worker_walkTo 30 = (30, false, .iconst (-1), 1, mcX0) := rfl
theorem kf_Worker_walkTo_31 : mcGet K_Worker_walkTo 31 = (31, false, .if_icmp .ne 5, 3, (36, 0, [], [])) := rfl
theorem kf_Worker_walkTo_34 : mcGet K_Worker_walkTo 34 = (34, false, .iconst 2, 1, mcX0) := rfl
theorem kf_Worker_walkTo_35 : mcGet K_Worker_walkTo 35 = (35, false, .ireturn, 1, mcX0) := rfl
theorem kf_Worker_walkTo_36 : mcGet K_Worker_walkTo 36 = (36, false, .aload_n 0, 1, mcX0) := rfl
theorem kf_Worker_walkTo_37 : mcGet K_Worker_walkTo 37 = (37, false, .getfield 12, 3, (5, 0, [245, 1], [])) := rfl
theorem kf_Worker_walkTo_40 : mcGet K_Worker_walkTo 40 = (40, false, .aload_n 0, 1, mcX0) := rfl
theorem kf_Worker_walkTo_41 : mcGet K_Worker_walkTo 41 = (41, false, .getfield 28, 3, (5, 3, [249, 0], [])) := rfl
theorem kf_Worker_walkTo_44 : mcGet K_Worker_walkTo 44 = (44, false, .aload_n 0, 1, mcX0) := rfl
theorem kf_Worker_walkTo_45 : mcGet K_Worker_walkTo 45 = (45, false, .getfield 95, 3, (5, 8, [254, 0], [])) := rfl
theorem kf_Worker_walkTo_48 : mcGet K_Worker_walkTo 48 = (48, false, .iload_n 1, 1, mcX0) := rfl
theorem kf_Worker_walkTo_49 : mcGet K_Worker_walkTo 49 = (49, false, .invokevirtual 124, 3, (4, 4, [595, 596, 56, 598, 597, 4], [M_Disk_bind])) := rfl
theorem kf_Worker_walkTo_52 : mcGet K_Worker_walkTo 52 = (52, false, .aload_n 0, 1, mcX0) := rfl
theorem kf_Worker_walkTo_53 : mcGet K_Worker_walkTo 53 = (53, false, .iload_n 1, 1, mcX0) := rfl
theorem kf_Worker_walkTo_54 : mcGet K_Worker_walkTo 54 = (54, false, .putfield 104, 3, (5, 12, [258, 0], [])) := rfl
theorem kf_Worker_walkTo_57 : mcGet K_Worker_walkTo 57 = (57, false, .iconst 0, 1, mcX0) := rfl
theorem kf_Worker_walkTo_58 : mcGet K_Worker_walkTo 58 = (58, false, .ireturn, 1, mcX0) := rfl
theorem kf_Worker_workFor_0 : mcGet K_Worker_workFor 0 = (0, false, .aload_n 0, 1, mcX0) := rfl
theorem kf_Worker_workFor_1 : mcGet K_Worker_workFor 1 = (1, false, .iload_n 1, 1, mcX0) := rfl
theorem kf_Worker_workFor_2 : mcGet K_Worker_workFor 2 = (2, false, .putfield 28, 3, (5, 3, [249, 0], [])) := rfl
theorem kf_Worker_workFor_5 : mcGet K_Worker_workFor 5 = (5, false, .aload_n 0, 1, mcX0) := rfl
theorem kf_Worker_workFor_6 : mcGet K_Worker_workFor 6 = (6, false, .iload_n 2, 1, mcX0) := rfl
theorem kf_Worker_workFor_7 : mcGet K_Worker_workFor 7 = (7, false, .putfield 32, 3, (5, 4, [250, 0], [])) := rfl
theorem kf_Worker_workFor_10 : mcGet K_Worker_workFor 10 = (10, false, .aload_n 0, 1, mcX0) := rfl
theorem kf_Worker_workFor_11 : mcGet K_Worker_workFor 11 = (11, false, .iload_n 3, 1, mcX0) := rfl
theorem kf_Worker_workFor_12 : mcGet K_Worker_workFor 12 = (12, false, .putfield 35, 3, (5, 5, [251, 2], [])) := rfl
theorem kf_Worker_workFor_15 : mcGet K_Worker_workFor 15 = (15, false, .return_, 1, mcX0) := rfl
theorem kf_Worker_writeByte_0 : mcGet K_Worker_writeByte 0 = (0, false, .aload_n 0, 1, mcX0) := rfl
theorem kf_Worker_writeByte_1 : mcGet K_Worker_writeByte 1 = (1, false, .invokevirtual 177, 3, (5, 1, [678, 680, 55, 681, 11, 1], [M_Worker_isWritable])) := rfl
theorem kf_Worker_writeByte_4 : mcGet K_Worker_writeByte 4 = (4, false, .ifCond .ne 6, 3, (10, 0, [], [])) := rfl
theorem kf_Worker_writeByte_7 : mcGet K_Worker_writeByte 7 = (7, false, .bipush 6, 2, mcX0) := rfl
theorem kf_Worker_writeByte_9 : mcGet K_Worker_writeByte 9 = (9, false, .ireturn, 1, mcX0) := rfl
theorem kf_Worker_writeByte_10 : mcGet K_Worker_writeByte 10 = (10, false, .aload_n 0, 1, mcX0) := rfl
theorem kf_Worker_writeByte_11 : mcGet K_Worker_writeByte 11 = (11, false, .getfield 27, 3, (5, 2, [248, 1], [])) := rfl
theorem kf_Worker_writeByte_14 : mcGet K_Worker_writeByte 14 = (14, false, .aload_n 0, 1, mcX0) := rfl
theorem kf_Worker_writeByte_15 : mcGet K_Worker_writeByte 15 = (15, false, .getfield 28, 3, (5, 3, [249, 0], [])) := rfl
theorem kf_Worker_writeByte_18 : mcGet K_Worker_writeByte 18 = (18, false, .aload_n 0, 1, mcX0) := rfl
theorem kf_Worker_writeByte_19 : mcGet K_Worker_writeByte 19 = (19, false, .getfield 115, 3, (5, 11, [257, 0], [])) := rfl
theorem kf_Worker_writeByte_22 : mcGet K_Worker_writeByte 22 = (22, false, .invokevirtual 181, 3, (2, 3, [683, 684, 59, 686, 685, 7], [M_Locks_anyOfOthers])) := rfl
theorem kf_Worker_writeByte_25 : mcGet K_Worker_writeByte 25 = (25, false, .aload_n 0, 1, mcX0) := rfl
theorem kf_Worker_writeByte_26 : mcGet K_Worker_writeByte 26 = (26, false, .getfield 95, 3, (5, 8, [254, 0], [])) := rfl
theorem kf_Worker_writeByte_29 : mcGet K_Worker_writeByte 29 = (29, false, .invokestatic 170, 3, (0, 2, [667, 668, 55, 669, 0, 3], [M_Worker_isAmong])) := rfl
theorem kf_Worker_writeByte_32 : mcGet K_Worker_writeByte 32 = (32, false, .ifCond .eq 6, 3, (38, 0, [], [])) := rfl
theorem kf_Worker_writeByte_35 : mcGet K_Worker_writeByte 35 = (35, false, .bipush 9, 2, mcX0) := rfl
theorem kf_Worker_writeByte_37 : mcGet K_Worker_writeByte 37 = (37, false, .ireturn, 1, mcX0) := rfl
theorem kf_Worker_writeByte_38 : mcGet K_Worker_writeByte 38 = (38, false, .aload_n 0, 1, mcX0) := rfl
theorem kf_Worker_writeByte_39 : mcGet K_Worker_writeByte 39 = (39, false, .invokevirtual 184, 3, (5, 1, [688, 690, 55, 691, 12, 1], [M_Worker_putByte])) := rfl
theorem kf_Worker_writeByte_42 : mcGet K_Worker_writeByte 42 = (42, false, .ireturn, 1, mcX0) := rfl
theorem kf_Worker_writeHeldByte_0 : mcGet K_Worker_writeHeldByte 0 = (0, false, .aload_n 0, 1, mcX0) := rfl
theorem kf_Worker_writeHeldByte_1 : mcGet K_Worker_writeHeldByte 1 = (1, false, .invokevirtual 177, 3, (5, 1, [678, 680, 55, 681, 11, 1], [M_Worker_isWritable])) := rfl
theorem kf_Worker_writeHeldByte_4 : mcGet K_Worker_writeHeldByte 4 = (4, false, .ifCond .ne 6, 3, (10, 0, [], [])) := rfl
theorem kf_Worker_writeHeldByte_7 : mcGet K_Worker_writeHeldByte 7 = (7, false, .bipush 6, 2, mcX0) := rfl
theorem kf_Worker_writeHeldByte_9 : mcGet K_Worker_writeHeldByte 9 = (9, false, .ireturn, 1, mcX0) := rfl
theorem kf_Worker_writeHeldByte_10 : mcGet K_Worker_writeHeldByte 10 = (10, false, .aload_n 0, 1, mcX0) := rfl
theorem kf_Worker_writeHeldByte_11 : mcGet K_Worker_writeHeldByte 11 = (11, false, .getfield 27, 3, (5, 2, [248, 1], [])) := rfl
theorem kf_Worker_writeHeldByte_14 : mcGet K_Worker_writeHeldByte 14 = (14, false, .aload_n 0, 1, mcX0) := rfl
theorem kf_Worker_writeHeldByte_15 : mcGet K_Worker_writeHeldByte 15 = (15, false, .getfield 28, 3, (5, 3, [249, 0], [])) := rfl
theorem kf_Worker_writeHeldByte_18 : mcGet K_Worker_writeHeldByte 18 = (18, false, .aload_n 0, 1, mcX0) := rfl
theorem kf_Worker_writeHeldByte_19 : mcGet K_Worker_writeHeldByte 19 = (19, false, .getfield 115, 3, (5, 11, [257, 0], [])) := rfl
theorem kf_Worker_writeHeldByte_22 : mcGet K_Worker_writeHeldByte 22 = (22, false, .aload_n 0, 1, mcX0) := rfl
theorem kf_Worker_writeHeldByte_23 : mcGet K_Worker_writeHeldByte 23 = (23, false, .getfield 95, 3, (5, 8, [254, 0], [])) := rfl
theorem kf_Worker_writeHeldByte_26 : mcGet K_Worker_writeHeldByte 26 = (26, false, .invokevirtual 187, 3, (2, 4, [700, 701, 59, 703, 702, 7], [M_Locks_sortOf])) := rfl
theorem kf_Worker_writeHeldByte_29 : mcGet K_Worker_writeHeldByte 29 = (29, false, .iconst 2, 1, mcX0) := rfl
theorem kf_Worker_writeHeldByte_30 : mcGet K_Worker_writeHeldByte 30 = (30, false, .if_icmp .eq 6, 3, (36, 0, [], [])) := rfl
theorem kf_Worker_writeHeldByte_33 : mcGet K_Worker_writeHeldByte 33 = (33, false, .bipush 10, 2, mcX0) := rfl
theorem kf_Worker_writeHeldByte_35 : mcGet K_Worker_writeHeldByte 35 = (35, false, .ireturn, 1, mcX0) := rfl
theorem kf_Worker_writeHeldByte_36 : mcGet K_Worker_writeHeldByte 36 = (36, false, .aload_n 0, 1, mcX0) := rfl
theorem kf_Worker_writeHeldByte_37 : mcGet K_Worker_writeHeldByte 37 = (37, false, .invokevirtual 184, 3, (5, 1, [688, 690, 55, 691, 12, 1], [M_Worker_putByte])) := rfl
theorem kf_Worker_writeHeldByte_40 : mcGet K_Worker_writeHeldByte 40 = (40, false, .ireturn, 1, mcX0) := rfl
theorem kf_Math_max_0 : mcGet K_Math_max 0 = (0, false, .iload_n 0, 1, mcX0) := rfl
theorem kf_Math_max_1 : mcGet K_Math_max 1 = (1, false, .iload_n 1, 1, mcX0) := rfl
theorem kf_Math_max_2 : mcGet K_Math_max 2 = (2, false, .if_icmp .lt 7, 3, (9, 0, [], [])) := rfl
theorem kf_Math_max_5 : mcGet K_Math_max 5 = (5, false, .iload_n 0, 1, mcX0) := rfl
theorem kf_Math_max_6 : mcGet K_Math_max 6 = (6, false, .goto 4, 3, (10, 0, [], [])) := rfl
theorem kf_Math_max_9 : mcGet K_Math_max 9 = (9, false, .iload_n 1, 1, mcX0) := rfl
theorem kf_Math_max_10 : mcGet K_Math_max 10 = (10, false, .ireturn, 1, mcX0) := rfl
theorem kf_Math_min_0 : mcGet K_Math_min 0 = (0, false, .iload_n 0, 1, mcX0) := rfl
theorem kf_Math_min_1 : mcGet K_Math_min 1 = (1, false, .iload_n 1, 1, mcX0) := rfl
theorem kf_Math_min_2 : mcGet K_Math_min 2 = (2, false, .if_icmp .gt 7, 3, (9, 0, [], [])) := rfl
theorem kf_Math_min_5 : mcGet K_Math_min 5 = (5, false, .iload_n 0, 1, mcX0) := rfl
theorem kf_Math_min_6 : mcGet K_Math_min 6 = (6, false, .goto 4, 3, (10, 0, [], [])) := rfl
theorem kf_Math_min_9 : mcGet K_Math_min 9 = (9, false, .iload_n 1, 1, mcX0) := rfl
theorem kf_Math_min_10 : mcGet K_Math_min 10 = (10, false, .ireturn, 1, mcX0) := rfl
theorem kf_Arrays_fill_0_0 : mcGet K_Arrays_fill_0 0 = (0, false, .iconst 0, 1, mcX0) := rfl
theorem kf_Arrays_fill_0_1 : mcGet K_Arrays_fill_0 1 = (1, false, .istore_n 2, 1, mcX0) := rfl
theorem kf_Arrays_fill_0_2 : mcGet K_Arrays_fill_0 2 = (2, false, .aload_n 0, 1, mcX0) := rfl
theorem kf_Arrays_fill_0_3 : mcGet K_Arrays_fill_0 3 = (3, false, .arraylength, 1, mcX0) := rfl
theorem kf_Arrays_fill_0_4 : mcGet K_Arrays_fill_0 4 = (4, false, .istore_n 3, 1, mcX0) := rfl
theorem kf_Arrays_fill_0_5 : mcGet K_Arrays_fill_0 5 = (5, true, .iload_n 2, 1, mcX0) := rfl
theorem kf_Arrays_fill_0_6 : mcGet K_Arrays_fill_0 6 = (6, false, .iload_n 3, 1, mcX0) := rfl
theorem kf_Arrays_fill_0_7 : mcGet K_Arrays_fill_0 7 = (7, false, .if_icmp .ge 13, 3, (20, 0, [], [])) := rfl
theorem kf_Arrays_fill_0_10 : mcGet K_Arrays_fill_0 10 = (10, false, .aload_n 0, 1, mcX0) := rfl
theorem kf_Arrays_fill_0_11 : mcGet K_Arrays_fill_0 11 = (11, false, .iload_n 2, 1, mcX0) := rfl
theorem kf_Arrays_fill_0_12 : mcGet K_Arrays_fill_0 12 = (12, false, .iload_n 1, 1, mcX0) := rfl
theorem kf_Arrays_fill_0_13 : mcGet K_Arrays_fill_0 13 = (13, false, .iastore, 1, mcX0) := rfl
theorem kf_Arrays_fill_0_14 : mcGet K_Arrays_fill_0 14 = (14, false, .iinc 2 1, 3, mcX0) := rfl
theorem kf_Arrays_fill_0_17 : mcGet K_Arrays_fill_0 17 = (17, false, .goto (-12), 3, (5, 0, [], [])) := rfl
theorem kf_Arrays_fill_0_20 : mcGet K_Arrays_fill_0 20 = (20, false, .return_, 1, mcX0) := rfl
theorem kf_Arrays_fill_1_0 : mcGet K_Arrays_fill_1 0 = (0, false, .iconst 0, 1, mcX0) := rfl
theorem kf_Arrays_fill_1_1 : mcGet K_Arrays_fill_1 1 = (1, false, .istore_n 3, 1, mcX0) := rfl
theorem kf_Arrays_fill_1_2 : mcGet K_Arrays_fill_1 2 = (2, false, .aload_n 0, 1, mcX0) := rfl
theorem kf_Arrays_fill_1_3 : mcGet K_Arrays_fill_1 3 = (3, false, .arraylength, 1, mcX0) := rfl
theorem kf_Arrays_fill_1_4 : mcGet K_Arrays_fill_1 4 = (4, false, .istore 4, 2, mcX0) := rfl
theorem kf_Arrays_fill_1_6 : mcGet K_Arrays_fill_1 6 = (6, true, .iload_n 3, 1, mcX0) := rfl
theorem kf_Arrays_fill_1_7 : mcGet K_Arrays_fill_1 7 = (7, false, .iload 4, 2, mcX0) := rfl
theorem kf_Arrays_fill_1_9 : mcGet K_Arrays_fill_1 9 = (9, false, .if_icmp .ge 13, 3, (22, 0, [], [])) := rfl
theorem kf_Arrays_fill_1_12 : mcGet K_Arrays_fill_1 12 = (12, false, .aload_n 0, 1, mcX0) := rfl
theorem kf_Arrays_fill_1_13 : mcGet K_Arrays_fill_1 13 = (13, false, .iload_n 3, 1, mcX0) := rfl
theorem kf_Arrays_fill_1_14 : mcGet K_Arrays_fill_1 14 = (14, false, .lload_n 1, 1, mcX0) := rfl
theorem kf_Arrays_fill_1_15 : mcGet K_Arrays_fill_1 15 = (15, false, .lastore, 1, mcX0) := rfl
theorem kf_Arrays_fill_1_16 : mcGet K_Arrays_fill_1 16 = (16, false, .iinc 3 1, 3, mcX0) := rfl
theorem kf_Arrays_fill_1_19 : mcGet K_Arrays_fill_1 19 = (19, false, .goto (-13), 3, (6, 0, [], [])) := rfl
theorem kf_Arrays_fill_1_22 : mcGet K_Arrays_fill_1 22 = (22, false, .return_, 1, mcX0) := rfl
