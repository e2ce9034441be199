/-! 03.codes d: printed by wip/whole/prog/codes.py -/
theorem kf_Law_boot_0 : mcGet K_Law_boot 0 = (0, false, .aload_n 0, 1, mcX0) := rfl
theorem kf_Law_boot_1 : mcGet K_Law_boot 1 = (1, false, .invokevirtual 40, 3, (9, 1, [840, 841, 52, 843, 842, 1], [M_Srv_boot])) := rfl
theorem kf_Law_boot_4 : mcGet K_Law_boot 4 = (4, false, .goto 6, 3, (10, 0, [], [])) := rfl
theorem kf_Law_boot_7 : mcGet K_Law_boot 7 = (7, false, .astore_n 1, 1, mcX0) := rfl
theorem kf_Law_boot_8 : mcGet K_Law_boot 8 = (8, false, .iconst 1, 1, mcX0) := rfl
theorem kf_Law_boot_9 : mcGet K_Law_boot 9 = (9, false, .ireturn, 1, mcX0) := rfl
theorem kf_Law_boot_10 : mcGet K_Law_boot 10 = (10, false, .iconst 0, 1, mcX0) := rfl
theorem kf_Law_boot_11 : mcGet K_Law_boot 11 = (11, false, .ireturn, 1, mcX0) := rfl
theorem kf_Law_carry_0 : mcGet K_Law_carry 0 = (0, false, .aload_n 3, 1, mcX0) := rfl
theorem kf_Law_carry_1 : mcGet K_Law_carry 1 = (1, false, .iconst 0, 1, mcX0) := rfl
theorem kf_Law_carry_2 : mcGet K_Law_carry 2 = (2, false, .aload_n 0, 1, mcX0) := rfl
theorem kf_Law_carry_3 : mcGet K_Law_carry 3 = (3, false, .iload_n 1, 1, mcX0) := rfl
theorem kf_Law_carry_4 : mcGet K_Law_carry 4 = (4, false, .iload_n 2, 1, mcX0) := rfl
theorem kf_Law_carry_5 : mcGet K_Law_carry 5 = (5, false, .invokevirtual 25, 3, (9, 3, [535, 536, 52, 538, 537, 5], [M_Srv_carry])) := rfl
theorem kf_Law_carry_8 : mcGet K_Law_carry 8 = (8, false, .i2l, 1, mcX0) := rfl
theorem kf_Law_carry_9 : mcGet K_Law_carry 9 = (9, false, .lastore, 1, mcX0) := rfl
theorem kf_Law_carry_10 : mcGet K_Law_carry 10 = (10, false, .goto 7, 3, (17, 0, [], [])) := rfl
theorem kf_Law_carry_13 : mcGet K_Law_carry 13 = (13, false, .astore 4, 2, mcX0) := rfl
theorem kf_Law_carry_15 : mcGet K_Law_carry 15 = (15, false, .iconst 1, 1, mcX0) := rfl
theorem kf_Law_carry_16 : mcGet K_Law_carry 16 = (16, false, .ireturn, 1, mcX0) := rfl
theorem kf_Law_carry_17 : mcGet K_Law_carry 17 = (17, false, .iconst 0, 1, mcX0) := rfl
theorem kf_Law_carry_18 : mcGet K_Law_carry 18 = (18, false, .ireturn, 1, mcX0) := rfl
theorem kf_Law_code_0 : mcGet K_Law_code 0 = (0, false, .aload 4, 2, mcX0) := rfl
theorem kf_Law_code_2 : mcGet K_Law_code 2 = (2, false, .iconst 0, 1, mcX0) := rfl
theorem kf_Law_code_3 : mcGet K_Law_code 3 = (3, false, .aload_n 0, 1, mcX0) := rfl
theorem kf_Law_code_4 : mcGet K_Law_code 4 = (4, false, .iload_n 1, 1, mcX0) := rfl
theorem kf_Law_code_5 : mcGet K_Law_code 5 = (5, false, .iload_n 2, 1, mcX0) := rfl
theorem kf_Law_code_6 : mcGet K_Law_code 6 = (6, false, .iload_n 3, 1, mcX0) := rfl
theorem kf_Law_code_7 : mcGet K_Law_code 7 = (7, false, .invokevirtual 29, 3, (9, 4, [814, 815, 52, 817, 816, 5], [M_Srv_code])) := rfl
theorem kf_Law_code_10 : mcGet K_Law_code 10 = (10, false, .i2l, 1, mcX0) := rfl
theorem kf_Law_code_11 : mcGet K_Law_code 11 = (11, false, .lastore, 1, mcX0) := rfl
theorem kf_Law_code_12 : mcGet K_Law_code 12 = (12, false, .goto 7, 3, (19, 0, [], [])) := rfl
theorem kf_Law_code_15 : mcGet K_Law_code 15 = (15, false, .astore 5, 2, mcX0) := rfl
theorem kf_Law_code_17 : mcGet K_Law_code 17 = (17, false, .iconst 1, 1, mcX0) := rfl
theorem kf_Law_code_18 : mcGet K_Law_code 18 = (18, false, .ireturn, 1, mcX0) := rfl
theorem kf_Law_code_19 : mcGet K_Law_code 19 = (19, false, .iconst 0, 1, mcX0) := rfl
theorem kf_Law_code_20 : mcGet K_Law_code 20 = (20, false, .ireturn, 1, mcX0) := rfl
theorem kf_Law_handle_0 : mcGet K_Law_handle 0 = (0, false, .aload_n 3, 1, mcX0) := rfl
theorem kf_Law_handle_1 : mcGet K_Law_handle 1 = (1, false, .iconst 0, 1, mcX0) := rfl
theorem kf_Law_handle_2 : mcGet K_Law_handle 2 = (2, false, .aload_n 0, 1, mcX0) := rfl
theorem kf_Law_handle_3 : mcGet K_Law_handle 3 = (3, false, .iload_n 1, 1, mcX0) := rfl
theorem kf_Law_handle_4 : mcGet K_Law_handle 4 = (4, false, .iload_n 2, 1, mcX0) := rfl
theorem kf_Law_handle_5 : mcGet K_Law_handle 5 = (5, false, .invokevirtual 49, 3, (9, 3, [888, 889, 52, 891, 890, 3], [M_Srv_handle])) := rfl
theorem kf_Law_handle_8 : mcGet K_Law_handle 8 = (8, false, .i2l, 1, mcX0) := rfl
theorem kf_Law_handle_9 : mcGet K_Law_handle 9 = (9, false, .lastore, 1, mcX0) := rfl
theorem kf_Law_handle_10 : mcGet K_Law_handle 10 = (10, false, .goto 7, 3, (17, 0, [], [])) := rfl
theorem kf_Law_handle_13 : mcGet K_Law_handle 13 = (13, false, .astore 4, 2, mcX0) := rfl
theorem kf_Law_handle_15 : mcGet K_Law_handle 15 = (15, false, .iconst 1, 1, mcX0) := rfl
theorem kf_Law_handle_16 : mcGet K_Law_handle 16 = (16, false, .ireturn, 1, mcX0) := rfl
theorem kf_Law_handle_17 : mcGet K_Law_handle 17 = (17, false, .iconst 0, 1, mcX0) := rfl
theorem kf_Law_handle_18 : mcGet K_Law_handle 18 = (18, false, .ireturn, 1, mcX0) := rfl
theorem kf_Law_lease_0 : mcGet K_Law_lease 0 = (0, false, .aload_n 2, 1, mcX0) := rfl
theorem kf_Law_lease_1 : mcGet K_Law_lease 1 = (1, false, .iconst 0, 1, mcX0) := rfl
theorem kf_Law_lease_2 : mcGet K_Law_lease 2 = (2, false, .aload_n 0, 1, mcX0) := rfl
theorem kf_Law_lease_3 : mcGet K_Law_lease 3 = (3, false, .iload_n 1, 1, mcX0) := rfl
theorem kf_Law_lease_4 : mcGet K_Law_lease 4 = (4, false, .invokevirtual 55, 3, (9, 2, [906, 907, 52, 909, 908, 2], [M_Srv_lease])) := rfl
theorem kf_Law_lease_7 : mcGet K_Law_lease 7 = (7, false, .i2l, 1, mcX0) := rfl
theorem kf_Law_lease_8 : mcGet K_Law_lease 8 = (8, false, .lastore, 1, mcX0) := rfl
theorem kf_Law_lease_9 : mcGet K_Law_lease 9 = (9, false, .goto 6, 3, (15, 0, [], [])) := rfl
theorem kf_Law_lease_12 : mcGet K_Law_lease 12 = (12, false, .astore_n 3, 1, mcX0) := rfl
theorem kf_Law_lease_13 : mcGet K_Law_lease 13 = (13, false, .iconst 1, 1, mcX0) := rfl
theorem kf_Law_lease_14 : mcGet K_Law_lease 14 = (14, false, .ireturn, 1, mcX0) := rfl
theorem kf_Law_lease_15 : mcGet K_Law_lease 15 = (15, false, .iconst 0, 1, mcX0) := rfl
theorem kf_Law_lease_16 : mcGet K_Law_lease 16 = (16, false, .ireturn, 1, mcX0) := rfl
theorem kf_Law_lock_0 : mcGet K_Law_lock 0 = (0, false, .aload 4, 2, mcX0) := rfl
theorem kf_Law_lock_2 : mcGet K_Law_lock 2 = (2, false, .iconst 0, 1, mcX0) := rfl
theorem kf_Law_lock_3 : mcGet K_Law_lock 3 = (3, false, .aload_n 0, 1, mcX0) := rfl
theorem kf_Law_lock_4 : mcGet K_Law_lock 4 = (4, false, .iload_n 1, 1, mcX0) := rfl
theorem kf_Law_lock_5 : mcGet K_Law_lock 5 = (5, false, .iload_n 2, 1, mcX0) := rfl
theorem kf_Law_lock_6 : mcGet K_Law_lock 6 = (6, false, .iload_n 3, 1, mcX0) := rfl
theorem kf_Law_lock_7 : mcGet K_Law_lock 7 = (7, false, .invokevirtual 52, 3, (9, 4, [897, 898, 52, 900, 899, 4], [M_Srv_lock])) := rfl
theorem kf_Law_lock_10 : mcGet K_Law_lock 10 = (10, false, .i2l, 1, mcX0) := rfl
theorem kf_Law_lock_11 : mcGet K_Law_lock 11 = (11, false, .lastore, 1, mcX0) := rfl
theorem kf_Law_lock_12 : mcGet K_Law_lock 12 = (12, false, .goto 7, 3, (19, 0, [], [])) := rfl
theorem kf_Law_lock_15 : mcGet K_Law_lock 15 = (15, false, .astore 5, 2, mcX0) := rfl
theorem kf_Law_lock_17 : mcGet K_Law_lock 17 = (17, false, .iconst 1, 1, mcX0) := rfl
theorem kf_Law_lock_18 : mcGet K_Law_lock 18 = (18, false, .ireturn, 1, mcX0) := rfl
theorem kf_Law_lock_19 : mcGet K_Law_lock 19 = (19, false, .iconst 0, 1, mcX0) := rfl
theorem kf_Law_lock_20 : mcGet K_Law_lock 20 = (20, false, .ireturn, 1, mcX0) := rfl
theorem kf_Law_node_0 : mcGet K_Law_node 0 = (0, false, .aload_n 3, 1, mcX0) := rfl
theorem kf_Law_node_1 : mcGet K_Law_node 1 = (1, false, .iconst 0, 1, mcX0) := rfl
theorem kf_Law_node_2 : mcGet K_Law_node 2 = (2, false, .aload_n 0, 1, mcX0) := rfl
theorem kf_Law_node_3 : mcGet K_Law_node 3 = (3, false, .iload_n 1, 1, mcX0) := rfl
theorem kf_Law_node_4 : mcGet K_Law_node 4 = (4, false, .iload_n 2, 1, mcX0) := rfl
theorem kf_Law_node_5 : mcGet K_Law_node 5 = (5, false, .invokevirtual 46, 3, (9, 3, [878, 879, 52, 881, 880, 4], [M_Srv_node])) := rfl
theorem kf_Law_node_8 : mcGet K_Law_node 8 = (8, false, .i2l, 1, mcX0) := rfl
theorem kf_Law_node_9 : mcGet K_Law_node 9 = (9, false, .lastore, 1, mcX0) := rfl
theorem kf_Law_node_10 : mcGet K_Law_node 10 = (10, false, .goto 7, 3, (17, 0, [], [])) := rfl
theorem kf_Law_node_13 : mcGet K_Law_node 13 = (13, false, .astore 4, 2, mcX0) := rfl
theorem kf_Law_node_15 : mcGet K_Law_node 15 = (15, false, .iconst 1, 1, mcX0) := rfl
theorem kf_Law_node_16 : mcGet K_Law_node 16 = (16, false, .ireturn, 1, mcX0) := rfl
theorem kf_Law_node_17 : mcGet K_Law_node 17 = (17, false, .iconst 0, 1, mcX0) := rfl
theorem kf_Law_node_18 : mcGet K_Law_node 18 = (18, false, .ireturn, 1, mcX0) := rfl
theorem kf_Law_send_0 : mcGet K_Law_send 0 = (0, false, .aload_n 3, 1, mcX0) := rfl
theorem kf_Law_send_1 : mcGet K_Law_send 1 = (1, false, .iconst 0, 1, mcX0) := rfl
theorem kf_Law_send_2 : mcGet K_Law_send 2 = (2, false, .aload_n 0, 1, mcX0) := rfl
theorem kf_Law_send_3 : mcGet K_Law_send 3 = (3, false, .iload_n 1, 1, mcX0) := rfl
theorem kf_Law_send_4 : mcGet K_Law_send 4 = (4, false, .iload_n 2, 1, mcX0) := rfl
theorem kf_Law_send_5 : mcGet K_Law_send 5 = (5, false, .invokevirtual 21, 3, (9, 3, [513, 514, 52, 516, 515, 4], [M_Srv_send])) := rfl
theorem kf_Law_send_8 : mcGet K_Law_send 8 = (8, false, .i2l, 1, mcX0) := rfl
theorem kf_Law_send_9 : mcGet K_Law_send 9 = (9, false, .lastore, 1, mcX0) := rfl
theorem kf_Law_send_10 : mcGet K_Law_send 10 = (10, false, .goto 11, 3, (21, 0, [], [])) := rfl
theorem kf_Law_send_13 : mcGet K_Law_send 13 = (13, false, .astore 4, 2, mcX0) := rfl
theorem kf_Law_send_15 : mcGet K_Law_send 15 = (15, false, .iconst 1, 1, mcX0) := rfl
theorem kf_Law_send_16 : mcGet K_Law_send 16 = (16, false, .ireturn, 1, mcX0) := rfl
theorem kf_Law_send_17 : mcGet K_Law_send 17 = (17, false, .astore 4, 2, mcX0) := rfl
theorem kf_Law_send_19 : mcGet K_Law_send 19 = (19, false, .iconst 2, 1, mcX0) := rfl
theorem kf_Law_send_20 : mcGet K_Law_send 20 = (20, false, .ireturn, 1, mcX0) := rfl
theorem kf_Law_send_21 : mcGet K_Law_send 21 = (21, false, .iconst 0, 1, mcX0) := rfl
theorem kf_Law_send_22 : mcGet K_Law_send 22 = (22, false, .ireturn, 1, mcX0) := rfl
theorem kf_Law_start_0 : mcGet K_Law_start 0 = (0, false, .aload_n 2, 1, mcX0) := rfl
theorem kf_Law_start_1 : mcGet K_Law_start 1 = (1, false, .iconst 0, 1, mcX0) := rfl
theorem kf_Law_start_2 : mcGet K_Law_start 2 = (2, false, .aload_n 0, 1, mcX0) := rfl
theorem kf_Law_start_3 : mcGet K_Law_start 3 = (3, false, .iload_n 1, 1, mcX0) := rfl
theorem kf_Law_start_4 : mcGet K_Law_start 4 = (4, false, .invokevirtual 7, 3, (9, 2, [390, 391, 52, 393, 392, 2], [M_Srv_start])) := rfl
theorem kf_Law_start_7 : mcGet K_Law_start 7 = (7, false, .i2l, 1, mcX0) := rfl
theorem kf_Law_start_8 : mcGet K_Law_start 8 = (8, false, .lastore, 1, mcX0) := rfl
theorem kf_Law_start_9 : mcGet K_Law_start 9 = (9, false, .goto 6, 3, (15, 0, [], [])) := rfl
theorem kf_Law_start_12 : mcGet K_Law_start 12 = (12, false, .astore_n 3, 1, mcX0) := rfl
theorem kf_Law_start_13 : mcGet K_Law_start 13 = (13, false, .iconst 1, 1, mcX0) := rfl
theorem kf_Law_start_14 : mcGet K_Law_start 14 = (14, false, .ireturn, 1, mcX0) := rfl
theorem kf_Law_start_15 : mcGet K_Law_start 15 = (15, false, .iconst 0, 1, mcX0) := rfl
theorem kf_Law_start_16 : mcGet K_Law_start 16 = (16, false, .ireturn, 1, mcX0) := rfl
theorem kf_Law_step_0 : mcGet K_Law_step 0 = (0, false, .aload 8, 2, mcX0) := rfl
theorem kf_Law_step_2 : mcGet K_Law_step 2 = (2, false, .iconst 0, 1, mcX0) := rfl
theorem kf_Law_step_3 : mcGet K_Law_step 3 = (3, false, .aload_n 0, 1, mcX0) := rfl
theorem kf_Law_step_4 : mcGet K_Law_step 4 = (4, false, .iload_n 1, 1, mcX0) := rfl
theorem kf_Law_step_5 : mcGet K_Law_step 5 = (5, false, .iload_n 2, 1, mcX0) := rfl
theorem kf_Law_step_6 : mcGet K_Law_step 6 = (6, false, .iload_n 3, 1, mcX0) := rfl
theorem kf_Law_step_7 : mcGet K_Law_step 7 = (7, false, .iload 4, 2, mcX0) := rfl
theorem kf_Law_step_9 : mcGet K_Law_step 9 = (9, false, .iload 5, 2, mcX0) := rfl
theorem kf_Law_step_11 : mcGet K_Law_step 11 = (11, false, .iload 6, 2, mcX0) := rfl
theorem kf_Law_step_13 : mcGet K_Law_step 13 = (13, false, .iload 7, 2, mcX0) := rfl
theorem kf_Law_step_15 : mcGet K_Law_step 15 = (15, false, .invokevirtual 15, 3, (9, 8, [474, 475, 52, 477, 476, 9], [M_Srv_step])) := rfl
theorem kf_Law_step_18 : mcGet K_Law_step 18 = (18, false, .i2l, 1, mcX0) := rfl
theorem kf_Law_step_19 : mcGet K_Law_step 19 = (19, false, .lastore, 1, mcX0) := rfl
theorem kf_Law_step_20 : mcGet K_Law_step 20 = (20, false, .goto 11, 3, (31, 0, [], [])) := rfl
theorem kf_Law_step_23 : mcGet K_Law_step 23 = (23, false, .astore 9, 2, mcX0) := rfl
theorem kf_Law_step_25 : mcGet K_Law_step 25 = (25, false, .iconst 1, 1, mcX0) := rfl
theorem kf_Law_step_26 : mcGet K_Law_step 26 = (26, false, .ireturn, 1, mcX0) := rfl
theorem kf_Law_step_27 : mcGet K_Law_step 27 = (27, false, .astore 9, 2, mcX0) := rfl
theorem kf_Law_step_29 : mcGet K_Law_step 29 = (29, false, .iconst 2, 1, mcX0) := rfl
theorem kf_Law_step_30 : mcGet K_Law_step 30 = (30, false, .ireturn, 1, mcX0) := rfl
theorem kf_Law_step_31 : mcGet K_Law_step 31 = (31, false, .iconst 0, 1, mcX0) := rfl
theorem kf_Law_step_32 : mcGet K_Law_step 32 = (32, false, .ireturn, 1, mcX0) := rfl
theorem kf_Law_stop_0 : mcGet K_Law_stop 0 = (0, false, .aload_n 0, 1, mcX0) := rfl
theorem kf_Law_stop_1 : mcGet K_Law_stop 1 = (1, false, .iload_n 1, 1, mcX0) := rfl
theorem kf_Law_stop_2 : mcGet K_Law_stop 2 = (2, false, .invokevirtual 36, 3, (9, 2, [832, 833, 52, 835, 834, 2], [M_Srv_stop])) := rfl
theorem kf_Law_stop_5 : mcGet K_Law_stop 5 = (5, false, .goto 6, 3, (11, 0, [], [])) := rfl
theorem kf_Law_stop_8 : mcGet K_Law_stop 8 = (8, false, .astore_n 2, 1, mcX0) := rfl
theorem kf_Law_stop_9 : mcGet K_Law_stop 9 = (9, false, .iconst 1, 1, mcX0) := rfl
theorem kf_Law_stop_10 : mcGet K_Law_stop 10 = (10, false, .ireturn, 1, mcX0) := rfl
theorem kf_Law_stop_11 : mcGet K_Law_stop 11 = (11, false, .iconst 0, 1, mcX0) := rfl
theorem kf_Law_stop_12 : mcGet K_Law_stop 12 = (12, false, .ireturn, 1, mcX0) := rfl
theorem kf_Law_time_0 : mcGet K_Law_time 0 = (0, false, .aload_n 2, 1, mcX0) := rfl
theorem kf_Law_time_1 : mcGet K_Law_time 1 = (1, false, .iconst 0, 1, mcX0) := rfl
theorem kf_Law_time_2 : mcGet K_Law_time 2 = (2, false, .aload_n 0, 1, mcX0) := rfl
theorem kf_Law_time_3 : mcGet K_Law_time 3 = (3, false, .iload_n 1, 1, mcX0) := rfl
theorem kf_Law_time_4 : mcGet K_Law_time 4 = (4, false, .invokevirtual 43, 3, (9, 2, [855, 856, 52, 858, 857, 2], [M_Srv_time])) := rfl
theorem kf_Law_time_7 : mcGet K_Law_time 7 = (7, false, .i2l, 1, mcX0) := rfl
theorem kf_Law_time_8 : mcGet K_Law_time 8 = (8, false, .lastore, 1, mcX0) := rfl
theorem kf_Law_time_9 : mcGet K_Law_time 9 = (9, false, .goto 6, 3, (15, 0, [], [])) := rfl
theorem kf_Law_time_12 : mcGet K_Law_time 12 = (12, false, .astore_n 3, 1, mcX0) := rfl
theorem kf_Law_time_13 : mcGet K_Law_time 13 = (13, false, .iconst 1, 1, mcX0) := rfl
theorem kf_Law_time_14 : mcGet K_Law_time 14 = (14, false, .ireturn, 1, mcX0) := rfl
theorem kf_Law_time_15 : mcGet K_Law_time 15 = (15, false, .iconst 0, 1, mcX0) := rfl
theorem kf_Law_time_16 : mcGet K_Law_time 16 = (16, false, .ireturn, 1, mcX0) := rfl
theorem kf_Law_value_0 : mcGet K_Law_value 0 = (0, false, .aload 4, 2, mcX0) := rfl
theorem kf_Law_value_2 : mcGet K_Law_value 2 = (2, false, .iconst 0, 1, mcX0) := rfl
theorem kf_Law_value_3 : mcGet K_Law_value 3 = (3, false, .aload_n 0, 1, mcX0) := rfl
theorem kf_Law_value_4 : mcGet K_Law_value 4 = (4, false, .iload_n 1, 1, mcX0) := rfl
theorem kf_Law_value_5 : mcGet K_Law_value 5 = (5, false, .iload_n 2, 1, mcX0) := rfl
theorem kf_Law_value_6 : mcGet K_Law_value 6 = (6, false, .iload_n 3, 1, mcX0) := rfl
theorem kf_Law_value_7 : mcGet K_Law_value 7 = (7, false, .invokevirtual 33, 3, (9, 4, [825, 826, 52, 828, 827, 5], [M_Srv_value])) := rfl
theorem kf_Law_value_10 : mcGet K_Law_value 10 = (10, false, .i2l, 1, mcX0) := rfl
theorem kf_Law_value_11 : mcGet K_Law_value 11 = (11, false, .lastore, 1, mcX0) := rfl
theorem kf_Law_value_12 : mcGet K_Law_value 12 = (12, false, .goto 7, 3, (19, 0, [], [])) := rfl
theorem kf_Law_value_15 : mcGet K_Law_value 15 = (15, false, .astore 5, 2, mcX0) := rfl
theorem kf_Law_value_17 : mcGet K_Law_value 17 = (17, false, .iconst 1, 1, mcX0) := rfl
theorem kf_Law_value_18 : mcGet K_Law_value 18 = (18, false, .ireturn, 1, mcX0) := rfl
theorem kf_Law_value_19 : mcGet K_Law_value 19 = (19, false, .iconst 0, 1, mcX0) := rfl
theorem kf_Law_value_20 : mcGet K_Law_value 20 = (20, false, .ireturn, 1, mcX0) := rfl
