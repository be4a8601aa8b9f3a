/-! decode rows, laid by program -/
theorem d_De_init_0 : decode b_De_init 0 = .ok (.aload_n 0, 1) := by decide +kernel
theorem d_De_init_1 : decode b_De_init 1 = .ok (.invokespecial 1, 3) := by decide +kernel
theorem d_De_init_4 : decode b_De_init 4 = .ok (.aload_n 0, 1) := by decide +kernel
theorem d_De_init_5 : decode b_De_init 5 = .ok (.bipush 16, 2) := by decide +kernel
theorem d_De_init_7 : decode b_De_init 7 = .ok (.anewarray 9, 3) := by decide +kernel
theorem d_De_init_10 : decode b_De_init 10 = .ok (.putfield 11, 3) := by decide +kernel
theorem d_De_init_13 : decode b_De_init 13 = .ok (.aload_n 0, 1) := by decide +kernel
theorem d_De_init_14 : decode b_De_init 14 = .ok (.bipush 32, 2) := by decide +kernel
theorem d_De_init_16 : decode b_De_init 16 = .ok (.anewarray 15, 3) := by decide +kernel
theorem d_De_init_19 : decode b_De_init 19 = .ok (.putfield 17, 3) := by decide +kernel
theorem d_De_init_22 : decode b_De_init 22 = .ok (.aload_n 0, 1) := by decide +kernel
theorem d_De_init_23 : decode b_De_init 23 = .ok (.ldc 21, 2) := by decide +kernel
theorem d_De_init_25 : decode b_De_init 25 = .ok (.putfield 22, 3) := by decide +kernel
theorem d_De_init_28 : decode b_De_init 28 = .ok (.return_, 1) := by decide +kernel
theorem d_De_collect_0 : decode b_De_collect 0 = .ok (.aload_n 0, 1) := by decide +kernel
theorem d_De_collect_1 : decode b_De_collect 1 = .ok (.invokevirtual 148, 3) := by decide +kernel
theorem d_De_collect_4 : decode b_De_collect 4 = .ok (.aload_n 0, 1) := by decide +kernel
theorem d_De_collect_5 : decode b_De_collect 5 = .ok (.getfield 145, 3) := by decide +kernel
theorem d_De_collect_8 : decode b_De_collect 8 = .ok (.ireturn, 1) := by decide +kernel
theorem d_De_clearAway_0 : decode b_De_clearAway 0 = .ok (.aload_n 0, 1) := by decide +kernel
theorem d_De_clearAway_1 : decode b_De_clearAway 1 = .ok (.dup, 1) := by decide +kernel
theorem d_De_clearAway_2 : decode b_De_clearAway 2 = .ok (.getfield 177, 3) := by decide +kernel
theorem d_De_clearAway_5 : decode b_De_clearAway 5 = .ok (.iconst 1, 1) := by decide +kernel
theorem d_De_clearAway_6 : decode b_De_clearAway 6 = .ok (.iadd, 1) := by decide +kernel
theorem d_De_clearAway_7 : decode b_De_clearAway 7 = .ok (.putfield 177, 3) := by decide +kernel
theorem d_De_clearAway_10 : decode b_De_clearAway 10 = .ok (.iconst 0, 1) := by decide +kernel
theorem d_De_clearAway_11 : decode b_De_clearAway 11 = .ok (.istore_n 1, 1) := by decide +kernel
theorem d_De_clearAway_12 : decode b_De_clearAway 12 = .ok (.iload_n 1, 1) := by decide +kernel
theorem d_De_clearAway_13 : decode b_De_clearAway 13 = .ok (.bipush 32, 2) := by decide +kernel
theorem d_De_clearAway_15 : decode b_De_clearAway 15 = .ok (.if_icmp .ge 19, 3) := by decide +kernel
theorem d_De_clearAway_18 : decode b_De_clearAway 18 = .ok (.aload_n 0, 1) := by decide +kernel
theorem d_De_clearAway_19 : decode b_De_clearAway 19 = .ok (.aload_n 0, 1) := by decide +kernel
theorem d_De_clearAway_20 : decode b_De_clearAway 20 = .ok (.getfield 17, 3) := by decide +kernel
theorem d_De_clearAway_23 : decode b_De_clearAway 23 = .ok (.iload_n 1, 1) := by decide +kernel
theorem d_De_clearAway_24 : decode b_De_clearAway 24 = .ok (.aaload, 1) := by decide +kernel
theorem d_De_clearAway_25 : decode b_De_clearAway 25 = .ok (.invokevirtual 180, 3) := by decide +kernel
theorem d_De_clearAway_28 : decode b_De_clearAway 28 = .ok (.iinc 1 1, 3) := by decide +kernel
theorem d_De_clearAway_31 : decode b_De_clearAway 31 = .ok (.goto (-19), 3) := by decide +kernel
theorem d_De_clearAway_34 : decode b_De_clearAway 34 = .ok (.aload_n 0, 1) := by decide +kernel
theorem d_De_clearAway_35 : decode b_De_clearAway 35 = .ok (.getfield 125, 3) := by decide +kernel
theorem d_De_clearAway_38 : decode b_De_clearAway 38 = .ok (.astore_n 1, 1) := by decide +kernel
theorem d_De_clearAway_39 : decode b_De_clearAway 39 = .ok (.aload_n 1, 1) := by decide +kernel
theorem d_De_clearAway_40 : decode b_De_clearAway 40 = .ok (.ifnull 16, 3) := by decide +kernel
theorem d_De_clearAway_43 : decode b_De_clearAway 43 = .ok (.aload_n 0, 1) := by decide +kernel
theorem d_De_clearAway_44 : decode b_De_clearAway 44 = .ok (.aload_n 1, 1) := by decide +kernel
theorem d_De_clearAway_45 : decode b_De_clearAway 45 = .ok (.invokevirtual 180, 3) := by decide +kernel
theorem d_De_clearAway_48 : decode b_De_clearAway 48 = .ok (.aload_n 1, 1) := by decide +kernel
theorem d_De_clearAway_49 : decode b_De_clearAway 49 = .ok (.getfield 128, 3) := by decide +kernel
theorem d_De_clearAway_52 : decode b_De_clearAway 52 = .ok (.astore_n 1, 1) := by decide +kernel
theorem d_De_clearAway_53 : decode b_De_clearAway 53 = .ok (.goto (-14), 3) := by decide +kernel
theorem d_De_clearAway_56 : decode b_De_clearAway 56 = .ok (.aload_n 0, 1) := by decide +kernel
theorem d_De_clearAway_57 : decode b_De_clearAway 57 = .ok (.iconst 0, 1) := by decide +kernel
theorem d_De_clearAway_58 : decode b_De_clearAway 58 = .ok (.putfield 145, 3) := by decide +kernel
theorem d_De_clearAway_61 : decode b_De_clearAway 61 = .ok (.iconst 0, 1) := by decide +kernel
theorem d_De_clearAway_62 : decode b_De_clearAway 62 = .ok (.istore_n 1, 1) := by decide +kernel
theorem d_De_clearAway_63 : decode b_De_clearAway 63 = .ok (.iload_n 1, 1) := by decide +kernel
theorem d_De_clearAway_64 : decode b_De_clearAway 64 = .ok (.aload_n 0, 1) := by decide +kernel
theorem d_De_clearAway_65 : decode b_De_clearAway 65 = .ok (.getfield 85, 3) := by decide +kernel
theorem d_De_clearAway_68 : decode b_De_clearAway 68 = .ok (.if_icmp .ge 72, 3) := by decide +kernel
theorem d_De_clearAway_71 : decode b_De_clearAway 71 = .ok (.aload_n 0, 1) := by decide +kernel
theorem d_De_clearAway_72 : decode b_De_clearAway 72 = .ok (.getfield 184, 3) := by decide +kernel
theorem d_De_clearAway_75 : decode b_De_clearAway 75 = .ok (.ifnull 65, 3) := by decide +kernel
theorem d_De_clearAway_78 : decode b_De_clearAway 78 = .ok (.aload_n 0, 1) := by decide +kernel
theorem d_De_clearAway_79 : decode b_De_clearAway 79 = .ok (.getfield 184, 3) := by decide +kernel
theorem d_De_clearAway_82 : decode b_De_clearAway 82 = .ok (.astore_n 2, 1) := by decide +kernel
theorem d_De_clearAway_83 : decode b_De_clearAway 83 = .ok (.aload_n 0, 1) := by decide +kernel
theorem d_De_clearAway_84 : decode b_De_clearAway 84 = .ok (.aload_n 2, 1) := by decide +kernel
theorem d_De_clearAway_85 : decode b_De_clearAway 85 = .ok (.getfield 187, 3) := by decide +kernel
theorem d_De_clearAway_88 : decode b_De_clearAway 88 = .ok (.putfield 184, 3) := by decide +kernel
theorem d_De_clearAway_91 : decode b_De_clearAway 91 = .ok (.aload_n 2, 1) := by decide +kernel
theorem d_De_clearAway_92 : decode b_De_clearAway 92 = .ok (.aconst_null, 1) := by decide +kernel
theorem d_De_clearAway_93 : decode b_De_clearAway 93 = .ok (.putfield 187, 3) := by decide +kernel
theorem d_De_clearAway_96 : decode b_De_clearAway 96 = .ok (.aload_n 0, 1) := by decide +kernel
theorem d_De_clearAway_97 : decode b_De_clearAway 97 = .ok (.dup, 1) := by decide +kernel
theorem d_De_clearAway_98 : decode b_De_clearAway 98 = .ok (.getfield 145, 3) := by decide +kernel
theorem d_De_clearAway_101 : decode b_De_clearAway 101 = .ok (.aload_n 2, 1) := by decide +kernel
theorem d_De_clearAway_102 : decode b_De_clearAway 102 = .ok (.getfield 190, 3) := by decide +kernel
theorem d_De_clearAway_105 : decode b_De_clearAway 105 = .ok (.iadd, 1) := by decide +kernel
theorem d_De_clearAway_106 : decode b_De_clearAway 106 = .ok (.putfield 145, 3) := by decide +kernel
theorem d_De_clearAway_109 : decode b_De_clearAway 109 = .ok (.aload_n 2, 1) := by decide +kernel
theorem d_De_clearAway_110 : decode b_De_clearAway 110 = .ok (.getfield 193, 3) := by decide +kernel
theorem d_De_clearAway_113 : decode b_De_clearAway 113 = .ok (.astore_n 3, 1) := by decide +kernel
theorem d_De_clearAway_114 : decode b_De_clearAway 114 = .ok (.aload_n 3, 1) := by decide +kernel
theorem d_De_clearAway_115 : decode b_De_clearAway 115 = .ok (.ifnull 19, 3) := by decide +kernel
theorem d_De_clearAway_118 : decode b_De_clearAway 118 = .ok (.aload_n 0, 1) := by decide +kernel
theorem d_De_clearAway_119 : decode b_De_clearAway 119 = .ok (.aload_n 3, 1) := by decide +kernel
theorem d_De_clearAway_120 : decode b_De_clearAway 120 = .ok (.getfield 113, 3) := by decide +kernel
theorem d_De_clearAway_123 : decode b_De_clearAway 123 = .ok (.invokevirtual 180, 3) := by decide +kernel
theorem d_De_clearAway_126 : decode b_De_clearAway 126 = .ok (.aload_n 3, 1) := by decide +kernel
theorem d_De_clearAway_127 : decode b_De_clearAway 127 = .ok (.getfield 197, 3) := by decide +kernel
theorem d_De_clearAway_130 : decode b_De_clearAway 130 = .ok (.astore_n 3, 1) := by decide +kernel
theorem d_De_clearAway_131 : decode b_De_clearAway 131 = .ok (.goto (-17), 3) := by decide +kernel
theorem d_De_clearAway_134 : decode b_De_clearAway 134 = .ok (.iinc 1 1, 3) := by decide +kernel
theorem d_De_clearAway_137 : decode b_De_clearAway 137 = .ok (.goto (-74), 3) := by decide +kernel
theorem d_De_clearAway_140 : decode b_De_clearAway 140 = .ok (.return_, 1) := by decide +kernel
theorem d_De_comeTo_0 : decode b_De_comeTo 0 = .ok (.aload_n 1, 1) := by decide +kernel
theorem d_De_comeTo_1 : decode b_De_comeTo 1 = .ok (.ifnull 35, 3) := by decide +kernel
theorem d_De_comeTo_4 : decode b_De_comeTo 4 = .ok (.aload_n 1, 1) := by decide +kernel
theorem d_De_comeTo_5 : decode b_De_comeTo 5 = .ok (.getfield 200, 3) := by decide +kernel
theorem d_De_comeTo_8 : decode b_De_comeTo 8 = .ok (.aload_n 0, 1) := by decide +kernel
theorem d_De_comeTo_9 : decode b_De_comeTo 9 = .ok (.getfield 177, 3) := by decide +kernel
theorem d_De_comeTo_12 : decode b_De_comeTo 12 = .ok (.if_icmp .eq 24, 3) := by decide +kernel
theorem d_De_comeTo_15 : decode b_De_comeTo 15 = .ok (.aload_n 1, 1) := by decide +kernel
theorem d_De_comeTo_16 : decode b_De_comeTo 16 = .ok (.aload_n 0, 1) := by decide +kernel
theorem d_De_comeTo_17 : decode b_De_comeTo 17 = .ok (.getfield 177, 3) := by decide +kernel
theorem d_De_comeTo_20 : decode b_De_comeTo 20 = .ok (.putfield 200, 3) := by decide +kernel
theorem d_De_comeTo_23 : decode b_De_comeTo 23 = .ok (.aload_n 1, 1) := by decide +kernel
theorem d_De_comeTo_24 : decode b_De_comeTo 24 = .ok (.aload_n 0, 1) := by decide +kernel
theorem d_De_comeTo_25 : decode b_De_comeTo 25 = .ok (.getfield 184, 3) := by decide +kernel
theorem d_De_comeTo_28 : decode b_De_comeTo 28 = .ok (.putfield 187, 3) := by decide +kernel
theorem d_De_comeTo_31 : decode b_De_comeTo 31 = .ok (.aload_n 0, 1) := by decide +kernel
theorem d_De_comeTo_32 : decode b_De_comeTo 32 = .ok (.aload_n 1, 1) := by decide +kernel
theorem d_De_comeTo_33 : decode b_De_comeTo 33 = .ok (.putfield 184, 3) := by decide +kernel
theorem d_De_comeTo_36 : decode b_De_comeTo 36 = .ok (.return_, 1) := by decide +kernel
theorem d_De_plain_0 : decode b_De_plain 0 = .ok (.aload_n 0, 1) := by decide +kernel
theorem d_De_plain_1 : decode b_De_plain 1 = .ok (.iload_n 1, 1) := by decide +kernel
theorem d_De_plain_2 : decode b_De_plain 2 = .ok (.invokevirtual 26, 3) := by decide +kernel
theorem d_De_plain_5 : decode b_De_plain 5 = .ok (.iload_n 2, 1) := by decide +kernel
theorem d_De_plain_6 : decode b_De_plain 6 = .ok (.ifCond .lt 9, 3) := by decide +kernel
theorem d_De_plain_9 : decode b_De_plain 9 = .ok (.iload_n 2, 1) := by decide +kernel
theorem d_De_plain_10 : decode b_De_plain 10 = .ok (.bipush 16, 2) := by decide +kernel
theorem d_De_plain_12 : decode b_De_plain 12 = .ok (.if_icmp .le 13, 3) := by decide +kernel
theorem d_De_plain_15 : decode b_De_plain 15 = .ok (.new 30, 3) := by decide +kernel
theorem d_De_plain_18 : decode b_De_plain 18 = .ok (.dup, 1) := by decide +kernel
theorem d_De_plain_19 : decode b_De_plain 19 = .ok (.ldc 32, 2) := by decide +kernel
theorem d_De_plain_21 : decode b_De_plain 21 = .ok (.invokespecial 34, 3) := by decide +kernel
theorem d_De_plain_24 : decode b_De_plain 24 = .ok (.athrow, 1) := by decide +kernel
theorem d_De_plain_25 : decode b_De_plain 25 = .ok (.iload_n 3, 1) := by decide +kernel
theorem d_De_plain_26 : decode b_De_plain 26 = .ok (.iload_n 2, 1) := by decide +kernel
theorem d_De_plain_27 : decode b_De_plain 27 = .ok (.iushr, 1) := by decide +kernel
theorem d_De_plain_28 : decode b_De_plain 28 = .ok (.ifCond .eq 13, 3) := by decide +kernel
theorem d_De_plain_31 : decode b_De_plain 31 = .ok (.new 30, 3) := by decide +kernel
theorem d_De_plain_34 : decode b_De_plain 34 = .ok (.dup, 1) := by decide +kernel
theorem d_De_plain_35 : decode b_De_plain 35 = .ok (.ldc 37, 2) := by decide +kernel
theorem d_De_plain_37 : decode b_De_plain 37 = .ok (.invokespecial 34, 3) := by decide +kernel
theorem d_De_plain_40 : decode b_De_plain 40 = .ok (.athrow, 1) := by decide +kernel
theorem d_De_plain_41 : decode b_De_plain 41 = .ok (.aload_n 0, 1) := by decide +kernel
theorem d_De_plain_42 : decode b_De_plain 42 = .ok (.getfield 11, 3) := by decide +kernel
theorem d_De_plain_45 : decode b_De_plain 45 = .ok (.iload_n 1, 1) := by decide +kernel
theorem d_De_plain_46 : decode b_De_plain 46 = .ok (.new 39, 3) := by decide +kernel
theorem d_De_plain_49 : decode b_De_plain 49 = .ok (.dup, 1) := by decide +kernel
theorem d_De_plain_50 : decode b_De_plain 50 = .ok (.iload_n 2, 1) := by decide +kernel
theorem d_De_plain_51 : decode b_De_plain 51 = .ok (.iload_n 3, 1) := by decide +kernel
theorem d_De_plain_52 : decode b_De_plain 52 = .ok (.invokespecial 41, 3) := by decide +kernel
theorem d_De_plain_55 : decode b_De_plain 55 = .ok (.aastore, 1) := by decide +kernel
theorem d_De_plain_56 : decode b_De_plain 56 = .ok (.return_, 1) := by decide +kernel
theorem d_De_checkUndefined_0 : decode b_De_checkUndefined 0 = .ok (.iload_n 1, 1) := by decide +kernel
theorem d_De_checkUndefined_1 : decode b_De_checkUndefined 1 = .ok (.invokestatic 56, 3) := by decide +kernel
theorem d_De_checkUndefined_4 : decode b_De_checkUndefined 4 = .ok (.aload_n 0, 1) := by decide +kernel
theorem d_De_checkUndefined_5 : decode b_De_checkUndefined 5 = .ok (.getfield 11, 3) := by decide +kernel
theorem d_De_checkUndefined_8 : decode b_De_checkUndefined 8 = .ok (.iload_n 1, 1) := by decide +kernel
theorem d_De_checkUndefined_9 : decode b_De_checkUndefined 9 = .ok (.aaload, 1) := by decide +kernel
theorem d_De_checkUndefined_10 : decode b_De_checkUndefined 10 = .ok (.ifnull 13, 3) := by decide +kernel
theorem d_De_checkUndefined_13 : decode b_De_checkUndefined 13 = .ok (.new 30, 3) := by decide +kernel
theorem d_De_checkUndefined_16 : decode b_De_checkUndefined 16 = .ok (.dup, 1) := by decide +kernel
theorem d_De_checkUndefined_17 : decode b_De_checkUndefined 17 = .ok (.ldc 158, 2) := by decide +kernel
theorem d_De_checkUndefined_19 : decode b_De_checkUndefined 19 = .ok (.invokespecial 34, 3) := by decide +kernel
theorem d_De_checkUndefined_22 : decode b_De_checkUndefined 22 = .ok (.athrow, 1) := by decide +kernel
theorem d_De_checkUndefined_23 : decode b_De_checkUndefined 23 = .ok (.return_, 1) := by decide +kernel
theorem d_De_checkKind_0 : decode b_De_checkKind 0 = .ok (.iload_n 0, 1) := by decide +kernel
theorem d_De_checkKind_1 : decode b_De_checkKind 1 = .ok (.ifCond .lt 9, 3) := by decide +kernel
theorem d_De_checkKind_4 : decode b_De_checkKind 4 = .ok (.iload_n 0, 1) := by decide +kernel
theorem d_De_checkKind_5 : decode b_De_checkKind 5 = .ok (.bipush 16, 2) := by decide +kernel
theorem d_De_checkKind_7 : decode b_De_checkKind 7 = .ok (.if_icmp .lt 13, 3) := by decide +kernel
theorem d_De_checkKind_10 : decode b_De_checkKind 10 = .ok (.new 30, 3) := by decide +kernel
theorem d_De_checkKind_13 : decode b_De_checkKind 13 = .ok (.dup, 1) := by decide +kernel
theorem d_De_checkKind_14 : decode b_De_checkKind 14 = .ok (.ldc 156, 2) := by decide +kernel
theorem d_De_checkKind_16 : decode b_De_checkKind 16 = .ok (.invokespecial 34, 3) := by decide +kernel
theorem d_De_checkKind_19 : decode b_De_checkKind 19 = .ok (.athrow, 1) := by decide +kernel
theorem d_De_checkKind_20 : decode b_De_checkKind 20 = .ok (.return_, 1) := by decide +kernel
theorem d_Pk_init_0 : decode b_Pk_init 0 = .ok (.aload_n 0, 1) := by decide +kernel
theorem d_Pk_init_1 : decode b_Pk_init 1 = .ok (.invokespecial 3, 3) := by decide +kernel
theorem d_Pk_init_4 : decode b_Pk_init 4 = .ok (.aload_n 0, 1) := by decide +kernel
theorem d_Pk_init_5 : decode b_Pk_init 5 = .ok (.iload_n 1, 1) := by decide +kernel
theorem d_Pk_init_6 : decode b_Pk_init 6 = .ok (.putfield 9, 3) := by decide +kernel
theorem d_Pk_init_9 : decode b_Pk_init 9 = .ok (.aload_n 0, 1) := by decide +kernel
theorem d_Pk_init_10 : decode b_Pk_init 10 = .ok (.iload_n 2, 1) := by decide +kernel
theorem d_Pk_init_11 : decode b_Pk_init 11 = .ok (.putfield 15, 3) := by decide +kernel
theorem d_Pk_init_14 : decode b_Pk_init 14 = .ok (.return_, 1) := by decide +kernel
theorem d_Ki_init_0 : decode b_Ki_init 0 = .ok (.aload_n 0, 1) := by decide +kernel
theorem d_Ki_init_1 : decode b_Ki_init 1 = .ok (.invokespecial 1, 3) := by decide +kernel
theorem d_Ki_init_4 : decode b_Ki_init 4 = .ok (.return_, 1) := by decide +kernel
theorem d_De_row_0 : decode b_De_row 0 = .ok (.aload_n 0, 1) := by decide +kernel
theorem d_De_row_1 : decode b_De_row 1 = .ok (.iload_n 1, 1) := by decide +kernel
theorem d_De_row_2 : decode b_De_row 2 = .ok (.invokevirtual 26, 3) := by decide +kernel
theorem d_De_row_5 : decode b_De_row 5 = .ok (.iload_n 2, 1) := by decide +kernel
theorem d_De_row_6 : decode b_De_row 6 = .ok (.ifCond .lt 8, 3) := by decide +kernel
theorem d_De_row_9 : decode b_De_row 9 = .ok (.iload_n 2, 1) := by decide +kernel
theorem d_De_row_10 : decode b_De_row 10 = .ok (.iconst 4, 1) := by decide +kernel
theorem d_De_row_11 : decode b_De_row 11 = .ok (.if_icmp .le 13, 3) := by decide +kernel
theorem d_De_row_14 : decode b_De_row 14 = .ok (.new 30, 3) := by decide +kernel
theorem d_De_row_17 : decode b_De_row 17 = .ok (.dup, 1) := by decide +kernel
theorem d_De_row_18 : decode b_De_row 18 = .ok (.ldc 44, 2) := by decide +kernel
theorem d_De_row_20 : decode b_De_row 20 = .ok (.invokespecial 34, 3) := by decide +kernel
theorem d_De_row_23 : decode b_De_row 23 = .ok (.athrow, 1) := by decide +kernel
theorem d_De_row_24 : decode b_De_row 24 = .ok (.aload_n 0, 1) := by decide +kernel
theorem d_De_row_25 : decode b_De_row 25 = .ok (.getfield 11, 3) := by decide +kernel
theorem d_De_row_28 : decode b_De_row 28 = .ok (.iload_n 1, 1) := by decide +kernel
theorem d_De_row_29 : decode b_De_row 29 = .ok (.new 46, 3) := by decide +kernel
theorem d_De_row_32 : decode b_De_row 32 = .ok (.dup, 1) := by decide +kernel
theorem d_De_row_33 : decode b_De_row 33 = .ok (.iload_n 2, 1) := by decide +kernel
theorem d_De_row_34 : decode b_De_row 34 = .ok (.getstatic 48, 3) := by decide +kernel
theorem d_De_row_37 : decode b_De_row 37 = .ok (.iload_n 2, 1) := by decide +kernel
theorem d_De_row_38 : decode b_De_row 38 = .ok (.iaload, 1) := by decide +kernel
theorem d_De_row_39 : decode b_De_row 39 = .ok (.invokespecial 52, 3) := by decide +kernel
theorem d_De_row_42 : decode b_De_row 42 = .ok (.aastore, 1) := by decide +kernel
theorem d_De_row_43 : decode b_De_row 43 = .ok (.return_, 1) := by decide +kernel
theorem d_Rk_init_0 : decode b_Rk_init 0 = .ok (.aload_n 0, 1) := by decide +kernel
theorem d_Rk_init_1 : decode b_Rk_init 1 = .ok (.invokespecial 3, 3) := by decide +kernel
theorem d_Rk_init_4 : decode b_Rk_init 4 = .ok (.aload_n 0, 1) := by decide +kernel
theorem d_Rk_init_5 : decode b_Rk_init 5 = .ok (.iload_n 1, 1) := by decide +kernel
theorem d_Rk_init_6 : decode b_Rk_init 6 = .ok (.putfield 9, 3) := by decide +kernel
theorem d_Rk_init_9 : decode b_Rk_init 9 = .ok (.aload_n 0, 1) := by decide +kernel
theorem d_Rk_init_10 : decode b_Rk_init 10 = .ok (.iload_n 2, 1) := by decide +kernel
theorem d_Rk_init_11 : decode b_Rk_init 11 = .ok (.putfield 15, 3) := by decide +kernel
theorem d_Rk_init_14 : decode b_Rk_init 14 = .ok (.return_, 1) := by decide +kernel
theorem d_De_make_0 : decode b_De_make 0 = .ok (.iload_n 1, 1) := by decide +kernel
theorem d_De_make_1 : decode b_De_make 1 = .ok (.invokestatic 53, 3) := by decide +kernel
theorem d_De_make_4 : decode b_De_make 4 = .ok (.iload_n 2, 1) := by decide +kernel
theorem d_De_make_5 : decode b_De_make 5 = .ok (.invokestatic 56, 3) := by decide +kernel
theorem d_De_make_8 : decode b_De_make 8 = .ok (.aload_n 0, 1) := by decide +kernel
theorem d_De_make_9 : decode b_De_make 9 = .ok (.getfield 11, 3) := by decide +kernel
theorem d_De_make_12 : decode b_De_make 12 = .ok (.iload_n 2, 1) := by decide +kernel
theorem d_De_make_13 : decode b_De_make 13 = .ok (.aaload, 1) := by decide +kernel
theorem d_De_make_14 : decode b_De_make 14 = .ok (.astore 4, 2) := by decide +kernel
theorem d_De_make_16 : decode b_De_make 16 = .ok (.aload 4, 2) := by decide +kernel
theorem d_De_make_18 : decode b_De_make 18 = .ok (.ifnull 22, 3) := by decide +kernel
theorem d_De_make_21 : decode b_De_make 21 = .ok (.aload 4, 2) := by decide +kernel
theorem d_De_make_23 : decode b_De_make 23 = .ok (.iload_n 3, 1) := by decide +kernel
theorem d_De_make_24 : decode b_De_make 24 = .ok (.invokevirtual 59, 3) := by decide +kernel
theorem d_De_make_27 : decode b_De_make 27 = .ok (.ifCond .ne 13, 3) := by decide +kernel
theorem d_De_make_30 : decode b_De_make 30 = .ok (.new 30, 3) := by decide +kernel
theorem d_De_make_33 : decode b_De_make 33 = .ok (.dup, 1) := by decide +kernel
theorem d_De_make_34 : decode b_De_make 34 = .ok (.ldc 63, 2) := by decide +kernel
theorem d_De_make_36 : decode b_De_make 36 = .ok (.invokespecial 34, 3) := by decide +kernel
theorem d_De_make_39 : decode b_De_make 39 = .ok (.athrow, 1) := by decide +kernel
theorem d_De_make_40 : decode b_De_make 40 = .ok (.aload 4, 2) := by decide +kernel
theorem d_De_make_42 : decode b_De_make 42 = .ok (.ifnonnull 13, 3) := by decide +kernel
theorem d_De_make_45 : decode b_De_make 45 = .ok (.new 65, 3) := by decide +kernel
theorem d_De_make_48 : decode b_De_make 48 = .ok (.dup, 1) := by decide +kernel
theorem d_De_make_49 : decode b_De_make 49 = .ok (.ldc 67, 2) := by decide +kernel
theorem d_De_make_51 : decode b_De_make 51 = .ok (.invokespecial 69, 3) := by decide +kernel
theorem d_De_make_54 : decode b_De_make 54 = .ok (.athrow, 1) := by decide +kernel
theorem d_De_make_55 : decode b_De_make 55 = .ok (.aload_n 0, 1) := by decide +kernel
theorem d_De_make_56 : decode b_De_make 56 = .ok (.aload 4, 2) := by decide +kernel
theorem d_De_make_58 : decode b_De_make 58 = .ok (.iload_n 3, 1) := by decide +kernel
theorem d_De_make_59 : decode b_De_make 59 = .ok (.invokevirtual 70, 3) := by decide +kernel
theorem d_De_make_62 : decode b_De_make 62 = .ok (.invokevirtual 74, 3) := by decide +kernel
theorem d_De_make_65 : decode b_De_make 65 = .ok (.istore 5, 2) := by decide +kernel
theorem d_De_make_67 : decode b_De_make 67 = .ok (.aload_n 0, 1) := by decide +kernel
theorem d_De_make_68 : decode b_De_make 68 = .ok (.getfield 17, 3) := by decide +kernel
theorem d_De_make_71 : decode b_De_make 71 = .ok (.iload_n 1, 1) := by decide +kernel
theorem d_De_make_72 : decode b_De_make 72 = .ok (.new 15, 3) := by decide +kernel
theorem d_De_make_75 : decode b_De_make 75 = .ok (.dup, 1) := by decide +kernel
theorem d_De_make_76 : decode b_De_make 76 = .ok (.aload 4, 2) := by decide +kernel
theorem d_De_make_78 : decode b_De_make 78 = .ok (.aload 4, 2) := by decide +kernel
theorem d_De_make_80 : decode b_De_make 80 = .ok (.iload_n 3, 1) := by decide +kernel
theorem d_De_make_81 : decode b_De_make 81 = .ok (.invokevirtual 78, 3) := by decide +kernel
theorem d_De_make_84 : decode b_De_make 84 = .ok (.iload 5, 2) := by decide +kernel
theorem d_De_make_86 : decode b_De_make 86 = .ok (.invokespecial 82, 3) := by decide +kernel
theorem d_De_make_89 : decode b_De_make 89 = .ok (.aastore, 1) := by decide +kernel
theorem d_De_make_90 : decode b_De_make 90 = .ok (.aload_n 0, 1) := by decide +kernel
theorem d_De_make_91 : decode b_De_make 91 = .ok (.dup, 1) := by decide +kernel
theorem d_De_make_92 : decode b_De_make 92 = .ok (.getfield 85, 3) := by decide +kernel
theorem d_De_make_95 : decode b_De_make 95 = .ok (.iconst 1, 1) := by decide +kernel
theorem d_De_make_96 : decode b_De_make 96 = .ok (.iadd, 1) := by decide +kernel
theorem d_De_make_97 : decode b_De_make 97 = .ok (.putfield 85, 3) := by decide +kernel
theorem d_De_make_100 : decode b_De_make 100 = .ok (.aload_n 0, 1) := by decide +kernel
theorem d_De_make_101 : decode b_De_make 101 = .ok (.getfield 85, 3) := by decide +kernel
theorem d_De_make_104 : decode b_De_make 104 = .ok (.ireturn, 1) := by decide +kernel
theorem d_De_checkSlot_0 : decode b_De_checkSlot 0 = .ok (.iload_n 0, 1) := by decide +kernel
theorem d_De_checkSlot_1 : decode b_De_checkSlot 1 = .ok (.ifCond .lt 9, 3) := by decide +kernel
theorem d_De_checkSlot_4 : decode b_De_checkSlot 4 = .ok (.iload_n 0, 1) := by decide +kernel
theorem d_De_checkSlot_5 : decode b_De_checkSlot 5 = .ok (.bipush 32, 2) := by decide +kernel
theorem d_De_checkSlot_7 : decode b_De_checkSlot 7 = .ok (.if_icmp .lt 13, 3) := by decide +kernel
theorem d_De_checkSlot_10 : decode b_De_checkSlot 10 = .ok (.new 30, 3) := by decide +kernel
theorem d_De_checkSlot_13 : decode b_De_checkSlot 13 = .ok (.dup, 1) := by decide +kernel
theorem d_De_checkSlot_14 : decode b_De_checkSlot 14 = .ok (.ldc 154, 2) := by decide +kernel
theorem d_De_checkSlot_16 : decode b_De_checkSlot 16 = .ok (.invokespecial 34, 3) := by decide +kernel
theorem d_De_checkSlot_19 : decode b_De_checkSlot 19 = .ok (.athrow, 1) := by decide +kernel
theorem d_De_checkSlot_20 : decode b_De_checkSlot 20 = .ok (.return_, 1) := by decide +kernel
theorem d_Pk_allows_0 : decode b_Pk_allows 0 = .ok (.iconst 1, 1) := by decide +kernel
theorem d_Pk_allows_1 : decode b_Pk_allows 1 = .ok (.ireturn, 1) := by decide +kernel
theorem d_Rk_allows_0 : decode b_Rk_allows 0 = .ok (.iload_n 1, 1) := by decide +kernel
theorem d_Rk_allows_1 : decode b_Rk_allows 1 = .ok (.ifCond .lt 7, 3) := by decide +kernel
theorem d_Rk_allows_4 : decode b_Rk_allows 4 = .ok (.iconst 1, 1) := by decide +kernel
theorem d_Rk_allows_5 : decode b_Rk_allows 5 = .ok (.goto 4, 3) := by decide +kernel
theorem d_Rk_allows_8 : decode b_Rk_allows 8 = .ok (.iconst 0, 1) := by decide +kernel
theorem d_Rk_allows_9 : decode b_Rk_allows 9 = .ok (.ireturn, 1) := by decide +kernel
theorem d_Pk_wordsFor_0 : decode b_Pk_wordsFor 0 = .ok (.iconst 3, 1) := by decide +kernel
theorem d_Pk_wordsFor_1 : decode b_Pk_wordsFor 1 = .ok (.aload_n 0, 1) := by decide +kernel
theorem d_Pk_wordsFor_2 : decode b_Pk_wordsFor 2 = .ok (.getfield 9, 3) := by decide +kernel
theorem d_Pk_wordsFor_5 : decode b_Pk_wordsFor 5 = .ok (.iadd, 1) := by decide +kernel
theorem d_Pk_wordsFor_6 : decode b_Pk_wordsFor 6 = .ok (.i2l, 1) := by decide +kernel
theorem d_Pk_wordsFor_7 : decode b_Pk_wordsFor 7 = .ok (.lreturn, 1) := by decide +kernel
theorem d_Rk_wordsFor_0 : decode b_Rk_wordsFor 0 = .ok (.ldc2_w 18, 3) := by decide +kernel
theorem d_Rk_wordsFor_3 : decode b_Rk_wordsFor 3 = .ok (.iload_n 1, 1) := by decide +kernel
theorem d_Rk_wordsFor_4 : decode b_Rk_wordsFor 4 = .ok (.i2l, 1) := by decide +kernel
theorem d_Rk_wordsFor_5 : decode b_Rk_wordsFor 5 = .ok (.aload_n 0, 1) := by decide +kernel
theorem d_Rk_wordsFor_6 : decode b_Rk_wordsFor 6 = .ok (.getfield 15, 3) := by decide +kernel
theorem d_Rk_wordsFor_9 : decode b_Rk_wordsFor 9 = .ok (.i2l, 1) := by decide +kernel
theorem d_Rk_wordsFor_10 : decode b_Rk_wordsFor 10 = .ok (.lmul, 1) := by decide +kernel
theorem d_Rk_wordsFor_11 : decode b_Rk_wordsFor 11 = .ok (.ldc2_w 20, 3) := by decide +kernel
theorem d_Rk_wordsFor_14 : decode b_Rk_wordsFor 14 = .ok (.ladd, 1) := by decide +kernel
theorem d_Rk_wordsFor_15 : decode b_Rk_wordsFor 15 = .ok (.lconst 1, 1) := by decide +kernel
theorem d_Rk_wordsFor_16 : decode b_Rk_wordsFor 16 = .ok (.lsub, 1) := by decide +kernel
theorem d_Rk_wordsFor_17 : decode b_Rk_wordsFor 17 = .ok (.ldc2_w 20, 3) := by decide +kernel
theorem d_Rk_wordsFor_20 : decode b_Rk_wordsFor 20 = .ok (.ldiv, 1) := by decide +kernel
theorem d_Rk_wordsFor_21 : decode b_Rk_wordsFor 21 = .ok (.ladd, 1) := by decide +kernel
theorem d_Rk_wordsFor_22 : decode b_Rk_wordsFor 22 = .ok (.lreturn, 1) := by decide +kernel
theorem d_De_takeRoom_0 : decode b_De_takeRoom 0 = .ok (.aload_n 0, 1) := by decide +kernel
theorem d_De_takeRoom_1 : decode b_De_takeRoom 1 = .ok (.getfield 151, 3) := by decide +kernel
theorem d_De_takeRoom_4 : decode b_De_takeRoom 4 = .ok (.ifCond .le 21, 3) := by decide +kernel
theorem d_De_takeRoom_7 : decode b_De_takeRoom 7 = .ok (.aload_n 0, 1) := by decide +kernel
theorem d_De_takeRoom_8 : decode b_De_takeRoom 8 = .ok (.getfield 85, 3) := by decide +kernel
theorem d_De_takeRoom_11 : decode b_De_takeRoom 11 = .ok (.iconst 1, 1) := by decide +kernel
theorem d_De_takeRoom_12 : decode b_De_takeRoom 12 = .ok (.iadd, 1) := by decide +kernel
theorem d_De_takeRoom_13 : decode b_De_takeRoom 13 = .ok (.aload_n 0, 1) := by decide +kernel
theorem d_De_takeRoom_14 : decode b_De_takeRoom 14 = .ok (.getfield 151, 3) := by decide +kernel
theorem d_De_takeRoom_17 : decode b_De_takeRoom 17 = .ok (.irem, 1) := by decide +kernel
theorem d_De_takeRoom_18 : decode b_De_takeRoom 18 = .ok (.ifCond .ne 7, 3) := by decide +kernel
theorem d_De_takeRoom_21 : decode b_De_takeRoom 21 = .ok (.iconst 1, 1) := by decide +kernel
theorem d_De_takeRoom_22 : decode b_De_takeRoom 22 = .ok (.goto 4, 3) := by decide +kernel
theorem d_De_takeRoom_25 : decode b_De_takeRoom 25 = .ok (.iconst 0, 1) := by decide +kernel
theorem d_De_takeRoom_26 : decode b_De_takeRoom 26 = .ok (.istore_n 3, 1) := by decide +kernel
theorem d_De_takeRoom_27 : decode b_De_takeRoom 27 = .ok (.iload_n 3, 1) := by decide +kernel
theorem d_De_takeRoom_28 : decode b_De_takeRoom 28 = .ok (.ifCond .ne 19, 3) := by decide +kernel
theorem d_De_takeRoom_31 : decode b_De_takeRoom 31 = .ok (.aload_n 0, 1) := by decide +kernel
theorem d_De_takeRoom_32 : decode b_De_takeRoom 32 = .ok (.getfield 145, 3) := by decide +kernel
theorem d_De_takeRoom_35 : decode b_De_takeRoom 35 = .ok (.i2l, 1) := by decide +kernel
theorem d_De_takeRoom_36 : decode b_De_takeRoom 36 = .ok (.lload_n 1, 1) := by decide +kernel
theorem d_De_takeRoom_37 : decode b_De_takeRoom 37 = .ok (.ladd, 1) := by decide +kernel
theorem d_De_takeRoom_38 : decode b_De_takeRoom 38 = .ok (.aload_n 0, 1) := by decide +kernel
theorem d_De_takeRoom_39 : decode b_De_takeRoom 39 = .ok (.getfield 22, 3) := by decide +kernel
theorem d_De_takeRoom_42 : decode b_De_takeRoom 42 = .ok (.i2l, 1) := by decide +kernel
theorem d_De_takeRoom_43 : decode b_De_takeRoom 43 = .ok (.lcmp, 1) := by decide +kernel
theorem d_De_takeRoom_44 : decode b_De_takeRoom 44 = .ok (.ifCond .le 7, 3) := by decide +kernel
theorem d_De_takeRoom_47 : decode b_De_takeRoom 47 = .ok (.aload_n 0, 1) := by decide +kernel
theorem d_De_takeRoom_48 : decode b_De_takeRoom 48 = .ok (.invokevirtual 148, 3) := by decide +kernel
theorem d_De_takeRoom_51 : decode b_De_takeRoom 51 = .ok (.aload_n 0, 1) := by decide +kernel
theorem d_De_takeRoom_52 : decode b_De_takeRoom 52 = .ok (.getfield 145, 3) := by decide +kernel
theorem d_De_takeRoom_55 : decode b_De_takeRoom 55 = .ok (.i2l, 1) := by decide +kernel
theorem d_De_takeRoom_56 : decode b_De_takeRoom 56 = .ok (.lload_n 1, 1) := by decide +kernel
theorem d_De_takeRoom_57 : decode b_De_takeRoom 57 = .ok (.ladd, 1) := by decide +kernel
theorem d_De_takeRoom_58 : decode b_De_takeRoom 58 = .ok (.aload_n 0, 1) := by decide +kernel
theorem d_De_takeRoom_59 : decode b_De_takeRoom 59 = .ok (.getfield 22, 3) := by decide +kernel
theorem d_De_takeRoom_62 : decode b_De_takeRoom 62 = .ok (.i2l, 1) := by decide +kernel
theorem d_De_takeRoom_63 : decode b_De_takeRoom 63 = .ok (.lcmp, 1) := by decide +kernel
theorem d_De_takeRoom_64 : decode b_De_takeRoom 64 = .ok (.ifCond .le 13, 3) := by decide +kernel
theorem d_De_takeRoom_67 : decode b_De_takeRoom 67 = .ok (.new 170, 3) := by decide +kernel
theorem d_De_takeRoom_70 : decode b_De_takeRoom 70 = .ok (.dup, 1) := by decide +kernel
theorem d_De_takeRoom_71 : decode b_De_takeRoom 71 = .ok (.ldc 175, 2) := by decide +kernel
theorem d_De_takeRoom_73 : decode b_De_takeRoom 73 = .ok (.invokespecial 174, 3) := by decide +kernel
theorem d_De_takeRoom_76 : decode b_De_takeRoom 76 = .ok (.athrow, 1) := by decide +kernel
theorem d_De_takeRoom_77 : decode b_De_takeRoom 77 = .ok (.aload_n 0, 1) := by decide +kernel
theorem d_De_takeRoom_78 : decode b_De_takeRoom 78 = .ok (.dup, 1) := by decide +kernel
theorem d_De_takeRoom_79 : decode b_De_takeRoom 79 = .ok (.getfield 145, 3) := by decide +kernel
theorem d_De_takeRoom_82 : decode b_De_takeRoom 82 = .ok (.lload_n 1, 1) := by decide +kernel
theorem d_De_takeRoom_83 : decode b_De_takeRoom 83 = .ok (.l2i, 1) := by decide +kernel
theorem d_De_takeRoom_84 : decode b_De_takeRoom 84 = .ok (.iadd, 1) := by decide +kernel
theorem d_De_takeRoom_85 : decode b_De_takeRoom 85 = .ok (.putfield 145, 3) := by decide +kernel
theorem d_De_takeRoom_88 : decode b_De_takeRoom 88 = .ok (.lload_n 1, 1) := by decide +kernel
theorem d_De_takeRoom_89 : decode b_De_takeRoom 89 = .ok (.l2i, 1) := by decide +kernel
theorem d_De_takeRoom_90 : decode b_De_takeRoom 90 = .ok (.ireturn, 1) := by decide +kernel
theorem d_Pk_lengthFor_0 : decode b_Pk_lengthFor 0 = .ok (.aload_n 0, 1) := by decide +kernel
theorem d_Pk_lengthFor_1 : decode b_Pk_lengthFor 1 = .ok (.getfield 9, 3) := by decide +kernel
theorem d_Pk_lengthFor_4 : decode b_Pk_lengthFor 4 = .ok (.ireturn, 1) := by decide +kernel
theorem d_Rk_lengthFor_0 : decode b_Rk_lengthFor 0 = .ok (.iload_n 1, 1) := by decide +kernel
theorem d_Rk_lengthFor_1 : decode b_Rk_lengthFor 1 = .ok (.ireturn, 1) := by decide +kernel
theorem d_It_init_0 : decode b_It_init 0 = .ok (.aload_n 0, 1) := by decide +kernel
theorem d_It_init_1 : decode b_It_init 1 = .ok (.invokespecial 1, 3) := by decide +kernel
theorem d_It_init_4 : decode b_It_init 4 = .ok (.aload_n 0, 1) := by decide +kernel
theorem d_It_init_5 : decode b_It_init 5 = .ok (.aload_n 1, 1) := by decide +kernel
theorem d_It_init_6 : decode b_It_init 6 = .ok (.putfield 7, 3) := by decide +kernel
theorem d_It_init_9 : decode b_It_init 9 = .ok (.aload_n 0, 1) := by decide +kernel
theorem d_It_init_10 : decode b_It_init 10 = .ok (.iload_n 2, 1) := by decide +kernel
theorem d_It_init_11 : decode b_It_init 11 = .ok (.putfield 13, 3) := by decide +kernel
theorem d_It_init_14 : decode b_It_init 14 = .ok (.aload_n 0, 1) := by decide +kernel
theorem d_It_init_15 : decode b_It_init 15 = .ok (.iload_n 3, 1) := by decide +kernel
theorem d_It_init_16 : decode b_It_init 16 = .ok (.putfield 17, 3) := by decide +kernel
theorem d_It_init_19 : decode b_It_init 19 = .ok (.return_, 1) := by decide +kernel
theorem d_De_copy_0 : decode b_De_copy 0 = .ok (.iload_n 1, 1) := by decide +kernel
theorem d_De_copy_1 : decode b_De_copy 1 = .ok (.invokestatic 53, 3) := by decide +kernel
theorem d_De_copy_4 : decode b_De_copy 4 = .ok (.iload_n 2, 1) := by decide +kernel
theorem d_De_copy_5 : decode b_De_copy 5 = .ok (.invokestatic 53, 3) := by decide +kernel
theorem d_De_copy_8 : decode b_De_copy 8 = .ok (.aload_n 0, 1) := by decide +kernel
theorem d_De_copy_9 : decode b_De_copy 9 = .ok (.getfield 17, 3) := by decide +kernel
theorem d_De_copy_12 : decode b_De_copy 12 = .ok (.iload_n 1, 1) := by decide +kernel
theorem d_De_copy_13 : decode b_De_copy 13 = .ok (.aload_n 0, 1) := by decide +kernel
theorem d_De_copy_14 : decode b_De_copy 14 = .ok (.getfield 17, 3) := by decide +kernel
theorem d_De_copy_17 : decode b_De_copy 17 = .ok (.iload_n 2, 1) := by decide +kernel
theorem d_De_copy_18 : decode b_De_copy 18 = .ok (.aaload, 1) := by decide +kernel
theorem d_De_copy_19 : decode b_De_copy 19 = .ok (.aastore, 1) := by decide +kernel
theorem d_De_copy_20 : decode b_De_copy 20 = .ok (.aload_n 0, 1) := by decide +kernel
theorem d_De_copy_21 : decode b_De_copy 21 = .ok (.getfield 17, 3) := by decide +kernel
theorem d_De_copy_24 : decode b_De_copy 24 = .ok (.iload_n 1, 1) := by decide +kernel
theorem d_De_copy_25 : decode b_De_copy 25 = .ok (.aaload, 1) := by decide +kernel
theorem d_De_copy_26 : decode b_De_copy 26 = .ok (.ifnull 7, 3) := by decide +kernel
theorem d_De_copy_29 : decode b_De_copy 29 = .ok (.iconst 1, 1) := by decide +kernel
theorem d_De_copy_30 : decode b_De_copy 30 = .ok (.goto 4, 3) := by decide +kernel
theorem d_De_copy_33 : decode b_De_copy 33 = .ok (.iconst 0, 1) := by decide +kernel
theorem d_De_copy_34 : decode b_De_copy 34 = .ok (.ireturn, 1) := by decide +kernel
theorem d_De_drop_0 : decode b_De_drop 0 = .ok (.iload_n 1, 1) := by decide +kernel
theorem d_De_drop_1 : decode b_De_drop 1 = .ok (.invokestatic 53, 3) := by decide +kernel
theorem d_De_drop_4 : decode b_De_drop 4 = .ok (.aload_n 0, 1) := by decide +kernel
theorem d_De_drop_5 : decode b_De_drop 5 = .ok (.getfield 17, 3) := by decide +kernel
theorem d_De_drop_8 : decode b_De_drop 8 = .ok (.iload_n 1, 1) := by decide +kernel
theorem d_De_drop_9 : decode b_De_drop 9 = .ok (.aaload, 1) := by decide +kernel
theorem d_De_drop_10 : decode b_De_drop 10 = .ok (.ifnull 7, 3) := by decide +kernel
theorem d_De_drop_13 : decode b_De_drop 13 = .ok (.iconst 1, 1) := by decide +kernel
theorem d_De_drop_14 : decode b_De_drop 14 = .ok (.goto 4, 3) := by decide +kernel
theorem d_De_drop_17 : decode b_De_drop 17 = .ok (.iconst 0, 1) := by decide +kernel
theorem d_De_drop_18 : decode b_De_drop 18 = .ok (.istore_n 2, 1) := by decide +kernel
theorem d_De_drop_19 : decode b_De_drop 19 = .ok (.aload_n 0, 1) := by decide +kernel
theorem d_De_drop_20 : decode b_De_drop 20 = .ok (.getfield 17, 3) := by decide +kernel
theorem d_De_drop_23 : decode b_De_drop 23 = .ok (.iload_n 1, 1) := by decide +kernel
theorem d_De_drop_24 : decode b_De_drop 24 = .ok (.aconst_null, 1) := by decide +kernel
theorem d_De_drop_25 : decode b_De_drop 25 = .ok (.aastore, 1) := by decide +kernel
theorem d_De_drop_26 : decode b_De_drop 26 = .ok (.iload_n 2, 1) := by decide +kernel
theorem d_De_drop_27 : decode b_De_drop 27 = .ok (.ireturn, 1) := by decide +kernel
theorem d_De_same_0 : decode b_De_same 0 = .ok (.iload_n 1, 1) := by decide +kernel
theorem d_De_same_1 : decode b_De_same 1 = .ok (.invokestatic 53, 3) := by decide +kernel
theorem d_De_same_4 : decode b_De_same 4 = .ok (.iload_n 2, 1) := by decide +kernel
theorem d_De_same_5 : decode b_De_same 5 = .ok (.invokestatic 53, 3) := by decide +kernel
theorem d_De_same_8 : decode b_De_same 8 = .ok (.aload_n 0, 1) := by decide +kernel
theorem d_De_same_9 : decode b_De_same 9 = .ok (.getfield 17, 3) := by decide +kernel
theorem d_De_same_12 : decode b_De_same 12 = .ok (.iload_n 1, 1) := by decide +kernel
theorem d_De_same_13 : decode b_De_same 13 = .ok (.aaload, 1) := by decide +kernel
theorem d_De_same_14 : decode b_De_same 14 = .ok (.aload_n 0, 1) := by decide +kernel
theorem d_De_same_15 : decode b_De_same 15 = .ok (.getfield 17, 3) := by decide +kernel
theorem d_De_same_18 : decode b_De_same 18 = .ok (.iload_n 2, 1) := by decide +kernel
theorem d_De_same_19 : decode b_De_same 19 = .ok (.aaload, 1) := by decide +kernel
theorem d_De_same_20 : decode b_De_same 20 = .ok (.if_acmp .ne 7, 3) := by decide +kernel
theorem d_De_same_23 : decode b_De_same 23 = .ok (.iconst 1, 1) := by decide +kernel
theorem d_De_same_24 : decode b_De_same 24 = .ok (.goto 4, 3) := by decide +kernel
theorem d_De_same_27 : decode b_De_same 27 = .ok (.iconst 0, 1) := by decide +kernel
theorem d_De_same_28 : decode b_De_same 28 = .ok (.ireturn, 1) := by decide +kernel
theorem d_De_get_0 : decode b_De_get 0 = .ok (.iload_n 1, 1) := by decide +kernel
theorem d_De_get_1 : decode b_De_get 1 = .ok (.invokestatic 53, 3) := by decide +kernel
theorem d_De_get_4 : decode b_De_get 4 = .ok (.aload_n 0, 1) := by decide +kernel
theorem d_De_get_5 : decode b_De_get 5 = .ok (.iload_n 1, 1) := by decide +kernel
theorem d_De_get_6 : decode b_De_get 6 = .ok (.iload_n 2, 1) := by decide +kernel
theorem d_De_get_7 : decode b_De_get 7 = .ok (.iconst 0, 1) := by decide +kernel
theorem d_De_get_8 : decode b_De_get 8 = .ok (.invokevirtual 88, 3) := by decide +kernel
theorem d_De_get_11 : decode b_De_get 11 = .ok (.iload_n 2, 1) := by decide +kernel
theorem d_De_get_12 : decode b_De_get 12 = .ok (.invokevirtual 92, 3) := by decide +kernel
theorem d_De_get_15 : decode b_De_get 15 = .ok (.astore_n 3, 1) := by decide +kernel
theorem d_De_get_16 : decode b_De_get 16 = .ok (.aload_n 3, 1) := by decide +kernel
theorem d_De_get_17 : decode b_De_get 17 = .ok (.ifnonnull 7, 3) := by decide +kernel
theorem d_De_get_20 : decode b_De_get 20 = .ok (.lconst 0, 1) := by decide +kernel
theorem d_De_get_21 : decode b_De_get 21 = .ok (.goto 7, 3) := by decide +kernel
theorem d_De_get_24 : decode b_De_get 24 = .ok (.aload_n 3, 1) := by decide +kernel
theorem d_De_get_25 : decode b_De_get 25 = .ok (.getfield 96, 3) := by decide +kernel
theorem d_De_get_28 : decode b_De_get 28 = .ok (.lreturn, 1) := by decide +kernel
theorem d_De_heldWithPlace_0 : decode b_De_heldWithPlace 0 = .ok (.aload_n 0, 1) := by decide +kernel
theorem d_De_heldWithPlace_1 : decode b_De_heldWithPlace 1 = .ok (.iload_n 1, 1) := by decide +kernel
theorem d_De_heldWithPlace_2 : decode b_De_heldWithPlace 2 = .ok (.invokevirtual 117, 3) := by decide +kernel
theorem d_De_heldWithPlace_5 : decode b_De_heldWithPlace 5 = .ok (.astore 4, 2) := by decide +kernel
theorem d_De_heldWithPlace_7 : decode b_De_heldWithPlace 7 = .ok (.iload_n 2, 1) := by decide +kernel
theorem d_De_heldWithPlace_8 : decode b_De_heldWithPlace 8 = .ok (.ifCond .lt 12, 3) := by decide +kernel
theorem d_De_heldWithPlace_11 : decode b_De_heldWithPlace 11 = .ok (.iload_n 2, 1) := by decide +kernel
theorem d_De_heldWithPlace_12 : decode b_De_heldWithPlace 12 = .ok (.aload 4, 2) := by decide +kernel
theorem d_De_heldWithPlace_14 : decode b_De_heldWithPlace 14 = .ok (.getfield 140, 3) := by decide +kernel
theorem d_De_heldWithPlace_17 : decode b_De_heldWithPlace 17 = .ok (.if_icmp .lt 13, 3) := by decide +kernel
theorem d_De_heldWithPlace_20 : decode b_De_heldWithPlace 20 = .ok (.new 162, 3) := by decide +kernel
theorem d_De_heldWithPlace_23 : decode b_De_heldWithPlace 23 = .ok (.dup, 1) := by decide +kernel
theorem d_De_heldWithPlace_24 : decode b_De_heldWithPlace 24 = .ok (.ldc 164, 2) := by decide +kernel
theorem d_De_heldWithPlace_26 : decode b_De_heldWithPlace 26 = .ok (.invokespecial 166, 3) := by decide +kernel
theorem d_De_heldWithPlace_29 : decode b_De_heldWithPlace 29 = .ok (.athrow, 1) := by decide +kernel
theorem d_De_heldWithPlace_30 : decode b_De_heldWithPlace 30 = .ok (.aload 4, 2) := by decide +kernel
theorem d_De_heldWithPlace_32 : decode b_De_heldWithPlace 32 = .ok (.getfield 105, 3) := by decide +kernel
theorem d_De_heldWithPlace_35 : decode b_De_heldWithPlace 35 = .ok (.iload_n 2, 1) := by decide +kernel
theorem d_De_heldWithPlace_36 : decode b_De_heldWithPlace 36 = .ok (.invokevirtual 167, 3) := by decide +kernel
theorem d_De_heldWithPlace_39 : decode b_De_heldWithPlace 39 = .ok (.iload_n 3, 1) := by decide +kernel
theorem d_De_heldWithPlace_40 : decode b_De_heldWithPlace 40 = .ok (.if_icmp .eq 13, 3) := by decide +kernel
theorem d_De_heldWithPlace_43 : decode b_De_heldWithPlace 43 = .ok (.new 170, 3) := by decide +kernel
theorem d_De_heldWithPlace_46 : decode b_De_heldWithPlace 46 = .ok (.dup, 1) := by decide +kernel
theorem d_De_heldWithPlace_47 : decode b_De_heldWithPlace 47 = .ok (.ldc 172, 2) := by decide +kernel
theorem d_De_heldWithPlace_49 : decode b_De_heldWithPlace 49 = .ok (.invokespecial 174, 3) := by decide +kernel
theorem d_De_heldWithPlace_52 : decode b_De_heldWithPlace 52 = .ok (.athrow, 1) := by decide +kernel
theorem d_De_heldWithPlace_53 : decode b_De_heldWithPlace 53 = .ok (.aload 4, 2) := by decide +kernel
theorem d_De_heldWithPlace_55 : decode b_De_heldWithPlace 55 = .ok (.areturn, 1) := by decide +kernel
theorem d_De_held_0 : decode b_De_held 0 = .ok (.aload_n 0, 1) := by decide +kernel
theorem d_De_held_1 : decode b_De_held 1 = .ok (.getfield 17, 3) := by decide +kernel
theorem d_De_held_4 : decode b_De_held 4 = .ok (.iload_n 1, 1) := by decide +kernel
theorem d_De_held_5 : decode b_De_held 5 = .ok (.aaload, 1) := by decide +kernel
theorem d_De_held_6 : decode b_De_held 6 = .ok (.astore_n 2, 1) := by decide +kernel
theorem d_De_held_7 : decode b_De_held 7 = .ok (.aload_n 2, 1) := by decide +kernel
theorem d_De_held_8 : decode b_De_held 8 = .ok (.ifnonnull 13, 3) := by decide +kernel
theorem d_De_held_11 : decode b_De_held 11 = .ok (.new 65, 3) := by decide +kernel
theorem d_De_held_14 : decode b_De_held 14 = .ok (.dup, 1) := by decide +kernel
theorem d_De_held_15 : decode b_De_held 15 = .ok (.ldc 160, 2) := by decide +kernel
theorem d_De_held_17 : decode b_De_held 17 = .ok (.invokespecial 69, 3) := by decide +kernel
theorem d_De_held_20 : decode b_De_held 20 = .ok (.athrow, 1) := by decide +kernel
theorem d_De_held_21 : decode b_De_held 21 = .ok (.aload_n 2, 1) := by decide +kernel
theorem d_De_held_22 : decode b_De_held 22 = .ok (.areturn, 1) := by decide +kernel
theorem d_Pk_isReference_0 : decode b_Pk_isReference 0 = .ok (.aload_n 0, 1) := by decide +kernel
theorem d_Pk_isReference_1 : decode b_Pk_isReference 1 = .ok (.getfield 15, 3) := by decide +kernel
theorem d_Pk_isReference_4 : decode b_Pk_isReference 4 = .ok (.iload_n 1, 1) := by decide +kernel
theorem d_Pk_isReference_5 : decode b_Pk_isReference 5 = .ok (.iushr, 1) := by decide +kernel
theorem d_Pk_isReference_6 : decode b_Pk_isReference 6 = .ok (.iconst 1, 1) := by decide +kernel
theorem d_Pk_isReference_7 : decode b_Pk_isReference 7 = .ok (.iand, 1) := by decide +kernel
theorem d_Pk_isReference_8 : decode b_Pk_isReference 8 = .ok (.ifCond .eq 7, 3) := by decide +kernel
theorem d_Pk_isReference_11 : decode b_Pk_isReference 11 = .ok (.iconst 1, 1) := by decide +kernel
theorem d_Pk_isReference_12 : decode b_Pk_isReference 12 = .ok (.goto 4, 3) := by decide +kernel
theorem d_Pk_isReference_15 : decode b_Pk_isReference 15 = .ok (.iconst 0, 1) := by decide +kernel
theorem d_Pk_isReference_16 : decode b_Pk_isReference 16 = .ok (.ireturn, 1) := by decide +kernel
theorem d_Rk_isReference_0 : decode b_Rk_isReference 0 = .ok (.aload_n 0, 1) := by decide +kernel
theorem d_Rk_isReference_1 : decode b_Rk_isReference 1 = .ok (.getfield 9, 3) := by decide +kernel
theorem d_Rk_isReference_4 : decode b_Rk_isReference 4 = .ok (.ifCond .ne 7, 3) := by decide +kernel
theorem d_Rk_isReference_7 : decode b_Rk_isReference 7 = .ok (.iconst 1, 1) := by decide +kernel
theorem d_Rk_isReference_8 : decode b_Rk_isReference 8 = .ok (.goto 4, 3) := by decide +kernel
theorem d_Rk_isReference_11 : decode b_Rk_isReference 11 = .ok (.iconst 0, 1) := by decide +kernel
theorem d_Rk_isReference_12 : decode b_Rk_isReference 12 = .ok (.ireturn, 1) := by decide +kernel
theorem d_It_find_0 : decode b_It_find 0 = .ok (.aload_n 0, 1) := by decide +kernel
theorem d_It_find_1 : decode b_It_find 1 = .ok (.getfield 20, 3) := by decide +kernel
theorem d_It_find_4 : decode b_It_find 4 = .ok (.astore_n 2, 1) := by decide +kernel
theorem d_It_find_5 : decode b_It_find 5 = .ok (.aload_n 2, 1) := by decide +kernel
theorem d_It_find_6 : decode b_It_find 6 = .ok (.ifnull 21, 3) := by decide +kernel
theorem d_It_find_9 : decode b_It_find 9 = .ok (.aload_n 2, 1) := by decide +kernel
theorem d_It_find_10 : decode b_It_find 10 = .ok (.getfield 24, 3) := by decide +kernel
theorem d_It_find_13 : decode b_It_find 13 = .ok (.iload_n 1, 1) := by decide +kernel
theorem d_It_find_14 : decode b_It_find 14 = .ok (.if_icmp .ne 5, 3) := by decide +kernel
theorem d_It_find_17 : decode b_It_find 17 = .ok (.aload_n 2, 1) := by decide +kernel
theorem d_It_find_18 : decode b_It_find 18 = .ok (.areturn, 1) := by decide +kernel
theorem d_It_find_19 : decode b_It_find 19 = .ok (.aload_n 2, 1) := by decide +kernel
theorem d_It_find_20 : decode b_It_find 20 = .ok (.getfield 29, 3) := by decide +kernel
theorem d_It_find_23 : decode b_It_find 23 = .ok (.astore_n 2, 1) := by decide +kernel
theorem d_It_find_24 : decode b_It_find 24 = .ok (.goto (-19), 3) := by decide +kernel
theorem d_It_find_27 : decode b_It_find 27 = .ok (.aconst_null, 1) := by decide +kernel
theorem d_It_find_28 : decode b_It_find 28 = .ok (.areturn, 1) := by decide +kernel
theorem d_De_put_0 : decode b_De_put 0 = .ok (.iload_n 1, 1) := by decide +kernel
theorem d_De_put_1 : decode b_De_put 1 = .ok (.invokestatic 53, 3) := by decide +kernel
theorem d_De_put_4 : decode b_De_put 4 = .ok (.aload_n 0, 1) := by decide +kernel
theorem d_De_put_5 : decode b_De_put 5 = .ok (.iload_n 1, 1) := by decide +kernel
theorem d_De_put_6 : decode b_De_put 6 = .ok (.iload_n 2, 1) := by decide +kernel
theorem d_De_put_7 : decode b_De_put 7 = .ok (.iconst 0, 1) := by decide +kernel
theorem d_De_put_8 : decode b_De_put 8 = .ok (.invokevirtual 88, 3) := by decide +kernel
theorem d_De_put_11 : decode b_De_put 11 = .ok (.astore 5, 2) := by decide +kernel
theorem d_De_put_13 : decode b_De_put 13 = .ok (.aload 5, 2) := by decide +kernel
theorem d_De_put_15 : decode b_De_put 15 = .ok (.iload_n 2, 1) := by decide +kernel
theorem d_De_put_16 : decode b_De_put 16 = .ok (.invokevirtual 102, 3) := by decide +kernel
theorem d_De_put_19 : decode b_De_put 19 = .ok (.aload 5, 2) := by decide +kernel
theorem d_De_put_21 : decode b_De_put 21 = .ok (.getfield 105, 3) := by decide +kernel
theorem d_De_put_24 : decode b_De_put 24 = .ok (.lload_n 3, 1) := by decide +kernel
theorem d_De_put_25 : decode b_De_put 25 = .ok (.invokevirtual 109, 3) := by decide +kernel
theorem d_De_put_28 : decode b_De_put 28 = .ok (.putfield 96, 3) := by decide +kernel
theorem d_De_put_31 : decode b_De_put 31 = .ok (.return_, 1) := by decide +kernel
theorem d_It_findOrAdd_0 : decode b_It_findOrAdd 0 = .ok (.aload_n 0, 1) := by decide +kernel
theorem d_It_findOrAdd_1 : decode b_It_findOrAdd 1 = .ok (.iload_n 1, 1) := by decide +kernel
theorem d_It_findOrAdd_2 : decode b_It_findOrAdd 2 = .ok (.invokevirtual 32, 3) := by decide +kernel
theorem d_It_findOrAdd_5 : decode b_It_findOrAdd 5 = .ok (.astore_n 2, 1) := by decide +kernel
theorem d_It_findOrAdd_6 : decode b_It_findOrAdd 6 = .ok (.aload_n 2, 1) := by decide +kernel
theorem d_It_findOrAdd_7 : decode b_It_findOrAdd 7 = .ok (.ifnonnull 21, 3) := by decide +kernel
theorem d_It_findOrAdd_10 : decode b_It_findOrAdd 10 = .ok (.new 25, 3) := by decide +kernel
theorem d_It_findOrAdd_13 : decode b_It_findOrAdd 13 = .ok (.dup, 1) := by decide +kernel
theorem d_It_findOrAdd_14 : decode b_It_findOrAdd 14 = .ok (.iload_n 1, 1) := by decide +kernel
theorem d_It_findOrAdd_15 : decode b_It_findOrAdd 15 = .ok (.aload_n 0, 1) := by decide +kernel
theorem d_It_findOrAdd_16 : decode b_It_findOrAdd 16 = .ok (.getfield 20, 3) := by decide +kernel
theorem d_It_findOrAdd_19 : decode b_It_findOrAdd 19 = .ok (.invokespecial 36, 3) := by decide +kernel
theorem d_It_findOrAdd_22 : decode b_It_findOrAdd 22 = .ok (.astore_n 2, 1) := by decide +kernel
theorem d_It_findOrAdd_23 : decode b_It_findOrAdd 23 = .ok (.aload_n 0, 1) := by decide +kernel
theorem d_It_findOrAdd_24 : decode b_It_findOrAdd 24 = .ok (.aload_n 2, 1) := by decide +kernel
theorem d_It_findOrAdd_25 : decode b_It_findOrAdd 25 = .ok (.putfield 20, 3) := by decide +kernel
theorem d_It_findOrAdd_28 : decode b_It_findOrAdd 28 = .ok (.aload_n 2, 1) := by decide +kernel
theorem d_It_findOrAdd_29 : decode b_It_findOrAdd 29 = .ok (.areturn, 1) := by decide +kernel
theorem d_Ce_init_0 : decode b_Ce_init 0 = .ok (.aload_n 0, 1) := by decide +kernel
theorem d_Ce_init_1 : decode b_Ce_init 1 = .ok (.invokespecial 1, 3) := by decide +kernel
theorem d_Ce_init_4 : decode b_Ce_init 4 = .ok (.aload_n 0, 1) := by decide +kernel
theorem d_Ce_init_5 : decode b_Ce_init 5 = .ok (.iload_n 1, 1) := by decide +kernel
theorem d_Ce_init_6 : decode b_Ce_init 6 = .ok (.putfield 7, 3) := by decide +kernel
theorem d_Ce_init_9 : decode b_Ce_init 9 = .ok (.aload_n 0, 1) := by decide +kernel
theorem d_Ce_init_10 : decode b_Ce_init 10 = .ok (.aload_n 2, 1) := by decide +kernel
theorem d_Ce_init_11 : decode b_Ce_init 11 = .ok (.putfield 13, 3) := by decide +kernel
theorem d_Ce_init_14 : decode b_Ce_init 14 = .ok (.return_, 1) := by decide +kernel
theorem d_Pk_cut_0 : decode b_Pk_cut 0 = .ok (.lload_n 1, 1) := by decide +kernel
theorem d_Pk_cut_1 : decode b_Pk_cut 1 = .ok (.l2i, 1) := by decide +kernel
theorem d_Pk_cut_2 : decode b_Pk_cut 2 = .ok (.i2l, 1) := by decide +kernel
theorem d_Pk_cut_3 : decode b_Pk_cut 3 = .ok (.lreturn, 1) := by decide +kernel
theorem d_Rk_cut_0 : decode b_Rk_cut 0 = .ok (.bipush 64, 2) := by decide +kernel
theorem d_Rk_cut_2 : decode b_Rk_cut 2 = .ok (.aload_n 0, 1) := by decide +kernel
theorem d_Rk_cut_3 : decode b_Rk_cut 3 = .ok (.getfield 15, 3) := by decide +kernel
theorem d_Rk_cut_6 : decode b_Rk_cut 6 = .ok (.isub, 1) := by decide +kernel
theorem d_Rk_cut_7 : decode b_Rk_cut 7 = .ok (.istore_n 3, 1) := by decide +kernel
theorem d_Rk_cut_8 : decode b_Rk_cut 8 = .ok (.aload_n 0, 1) := by decide +kernel
theorem d_Rk_cut_9 : decode b_Rk_cut 9 = .ok (.getfield 9, 3) := by decide +kernel
theorem d_Rk_cut_12 : decode b_Rk_cut 12 = .ok (.iconst 2, 1) := by decide +kernel
theorem d_Rk_cut_13 : decode b_Rk_cut 13 = .ok (.if_icmp .ne 11, 3) := by decide +kernel
theorem d_Rk_cut_16 : decode b_Rk_cut 16 = .ok (.lload_n 1, 1) := by decide +kernel
theorem d_Rk_cut_17 : decode b_Rk_cut 17 = .ok (.iload_n 3, 1) := by decide +kernel
theorem d_Rk_cut_18 : decode b_Rk_cut 18 = .ok (.lshl, 1) := by decide +kernel
theorem d_Rk_cut_19 : decode b_Rk_cut 19 = .ok (.iload_n 3, 1) := by decide +kernel
theorem d_Rk_cut_20 : decode b_Rk_cut 20 = .ok (.lushr, 1) := by decide +kernel
theorem d_Rk_cut_21 : decode b_Rk_cut 21 = .ok (.goto 8, 3) := by decide +kernel
theorem d_Rk_cut_24 : decode b_Rk_cut 24 = .ok (.lload_n 1, 1) := by decide +kernel
theorem d_Rk_cut_25 : decode b_Rk_cut 25 = .ok (.iload_n 3, 1) := by decide +kernel
theorem d_Rk_cut_26 : decode b_Rk_cut 26 = .ok (.lshl, 1) := by decide +kernel
theorem d_Rk_cut_27 : decode b_Rk_cut 27 = .ok (.iload_n 3, 1) := by decide +kernel
theorem d_Rk_cut_28 : decode b_Rk_cut 28 = .ok (.lshr, 1) := by decide +kernel
theorem d_Rk_cut_29 : decode b_Rk_cut 29 = .ok (.lreturn, 1) := by decide +kernel
theorem d_De_link_0 : decode b_De_link 0 = .ok (.iload_n 1, 1) := by decide +kernel
theorem d_De_link_1 : decode b_De_link 1 = .ok (.invokestatic 53, 3) := by decide +kernel
theorem d_De_link_4 : decode b_De_link 4 = .ok (.iload_n 3, 1) := by decide +kernel
theorem d_De_link_5 : decode b_De_link 5 = .ok (.invokestatic 53, 3) := by decide +kernel
theorem d_De_link_8 : decode b_De_link 8 = .ok (.aload_n 0, 1) := by decide +kernel
theorem d_De_link_9 : decode b_De_link 9 = .ok (.iload_n 1, 1) := by decide +kernel
theorem d_De_link_10 : decode b_De_link 10 = .ok (.iload_n 2, 1) := by decide +kernel
theorem d_De_link_11 : decode b_De_link 11 = .ok (.iconst 1, 1) := by decide +kernel
theorem d_De_link_12 : decode b_De_link 12 = .ok (.invokevirtual 88, 3) := by decide +kernel
theorem d_De_link_15 : decode b_De_link 15 = .ok (.iload_n 2, 1) := by decide +kernel
theorem d_De_link_16 : decode b_De_link 16 = .ok (.invokevirtual 102, 3) := by decide +kernel
theorem d_De_link_19 : decode b_De_link 19 = .ok (.astore 4, 2) := by decide +kernel
theorem d_De_link_21 : decode b_De_link 21 = .ok (.aload 4, 2) := by decide +kernel
theorem d_De_link_23 : decode b_De_link 23 = .ok (.getfield 113, 3) := by decide +kernel
theorem d_De_link_26 : decode b_De_link 26 = .ok (.ifnull 7, 3) := by decide +kernel
theorem d_De_link_29 : decode b_De_link 29 = .ok (.iconst 1, 1) := by decide +kernel
theorem d_De_link_30 : decode b_De_link 30 = .ok (.goto 4, 3) := by decide +kernel
theorem d_De_link_33 : decode b_De_link 33 = .ok (.iconst 0, 1) := by decide +kernel
theorem d_De_link_34 : decode b_De_link 34 = .ok (.istore 5, 2) := by decide +kernel
theorem d_De_link_36 : decode b_De_link 36 = .ok (.aload 4, 2) := by decide +kernel
theorem d_De_link_38 : decode b_De_link 38 = .ok (.aload_n 0, 1) := by decide +kernel
theorem d_De_link_39 : decode b_De_link 39 = .ok (.getfield 17, 3) := by decide +kernel
theorem d_De_link_42 : decode b_De_link 42 = .ok (.iload_n 3, 1) := by decide +kernel
theorem d_De_link_43 : decode b_De_link 43 = .ok (.aaload, 1) := by decide +kernel
theorem d_De_link_44 : decode b_De_link 44 = .ok (.putfield 113, 3) := by decide +kernel
theorem d_De_link_47 : decode b_De_link 47 = .ok (.iload 5, 2) := by decide +kernel
theorem d_De_link_49 : decode b_De_link 49 = .ok (.ireturn, 1) := by decide +kernel
theorem d_De_follow_0 : decode b_De_follow 0 = .ok (.iload_n 1, 1) := by decide +kernel
theorem d_De_follow_1 : decode b_De_follow 1 = .ok (.invokestatic 53, 3) := by decide +kernel
theorem d_De_follow_4 : decode b_De_follow 4 = .ok (.iload_n 3, 1) := by decide +kernel
theorem d_De_follow_5 : decode b_De_follow 5 = .ok (.invokestatic 53, 3) := by decide +kernel
theorem d_De_follow_8 : decode b_De_follow 8 = .ok (.aload_n 0, 1) := by decide +kernel
theorem d_De_follow_9 : decode b_De_follow 9 = .ok (.iload_n 1, 1) := by decide +kernel
theorem d_De_follow_10 : decode b_De_follow 10 = .ok (.iload_n 2, 1) := by decide +kernel
theorem d_De_follow_11 : decode b_De_follow 11 = .ok (.iconst 1, 1) := by decide +kernel
theorem d_De_follow_12 : decode b_De_follow 12 = .ok (.invokevirtual 88, 3) := by decide +kernel
theorem d_De_follow_15 : decode b_De_follow 15 = .ok (.iload_n 2, 1) := by decide +kernel
theorem d_De_follow_16 : decode b_De_follow 16 = .ok (.invokevirtual 92, 3) := by decide +kernel
theorem d_De_follow_19 : decode b_De_follow 19 = .ok (.astore 4, 2) := by decide +kernel
theorem d_De_follow_21 : decode b_De_follow 21 = .ok (.aload_n 0, 1) := by decide +kernel
theorem d_De_follow_22 : decode b_De_follow 22 = .ok (.getfield 17, 3) := by decide +kernel
theorem d_De_follow_25 : decode b_De_follow 25 = .ok (.iload_n 3, 1) := by decide +kernel
theorem d_De_follow_26 : decode b_De_follow 26 = .ok (.aload 4, 2) := by decide +kernel
theorem d_De_follow_28 : decode b_De_follow 28 = .ok (.ifnonnull 7, 3) := by decide +kernel
theorem d_De_follow_31 : decode b_De_follow 31 = .ok (.aconst_null, 1) := by decide +kernel
theorem d_De_follow_32 : decode b_De_follow 32 = .ok (.goto 8, 3) := by decide +kernel
theorem d_De_follow_35 : decode b_De_follow 35 = .ok (.aload 4, 2) := by decide +kernel
theorem d_De_follow_37 : decode b_De_follow 37 = .ok (.getfield 113, 3) := by decide +kernel
theorem d_De_follow_40 : decode b_De_follow 40 = .ok (.aastore, 1) := by decide +kernel
theorem d_De_follow_41 : decode b_De_follow 41 = .ok (.aload_n 0, 1) := by decide +kernel
theorem d_De_follow_42 : decode b_De_follow 42 = .ok (.getfield 17, 3) := by decide +kernel
theorem d_De_follow_45 : decode b_De_follow 45 = .ok (.iload_n 3, 1) := by decide +kernel
theorem d_De_follow_46 : decode b_De_follow 46 = .ok (.aaload, 1) := by decide +kernel
theorem d_De_follow_47 : decode b_De_follow 47 = .ok (.ifnull 7, 3) := by decide +kernel
theorem d_De_follow_50 : decode b_De_follow 50 = .ok (.iconst 1, 1) := by decide +kernel
theorem d_De_follow_51 : decode b_De_follow 51 = .ok (.goto 4, 3) := by decide +kernel
theorem d_De_follow_54 : decode b_De_follow 54 = .ok (.iconst 0, 1) := by decide +kernel
theorem d_De_follow_55 : decode b_De_follow 55 = .ok (.ireturn, 1) := by decide +kernel
theorem d_De_keep_0 : decode b_De_keep 0 = .ok (.iload_n 1, 1) := by decide +kernel
theorem d_De_keep_1 : decode b_De_keep 1 = .ok (.invokestatic 53, 3) := by decide +kernel
theorem d_De_keep_4 : decode b_De_keep 4 = .ok (.aload_n 0, 1) := by decide +kernel
theorem d_De_keep_5 : decode b_De_keep 5 = .ok (.iload_n 1, 1) := by decide +kernel
theorem d_De_keep_6 : decode b_De_keep 6 = .ok (.invokevirtual 117, 3) := by decide +kernel
theorem d_De_keep_9 : decode b_De_keep 9 = .ok (.astore_n 2, 1) := by decide +kernel
theorem d_De_keep_10 : decode b_De_keep 10 = .ok (.aload_n 2, 1) := by decide +kernel
theorem d_De_keep_11 : decode b_De_keep 11 = .ok (.getfield 121, 3) := by decide +kernel
theorem d_De_keep_14 : decode b_De_keep 14 = .ok (.ifCond .ne 21, 3) := by decide +kernel
theorem d_De_keep_17 : decode b_De_keep 17 = .ok (.aload_n 2, 1) := by decide +kernel
theorem d_De_keep_18 : decode b_De_keep 18 = .ok (.iconst 1, 1) := by decide +kernel
theorem d_De_keep_19 : decode b_De_keep 19 = .ok (.putfield 121, 3) := by decide +kernel
theorem d_De_keep_22 : decode b_De_keep 22 = .ok (.aload_n 2, 1) := by decide +kernel
theorem d_De_keep_23 : decode b_De_keep 23 = .ok (.aload_n 0, 1) := by decide +kernel
theorem d_De_keep_24 : decode b_De_keep 24 = .ok (.getfield 125, 3) := by decide +kernel
theorem d_De_keep_27 : decode b_De_keep 27 = .ok (.putfield 128, 3) := by decide +kernel
theorem d_De_keep_30 : decode b_De_keep 30 = .ok (.aload_n 0, 1) := by decide +kernel
theorem d_De_keep_31 : decode b_De_keep 31 = .ok (.aload_n 2, 1) := by decide +kernel
theorem d_De_keep_32 : decode b_De_keep 32 = .ok (.putfield 125, 3) := by decide +kernel
theorem d_De_keep_35 : decode b_De_keep 35 = .ok (.aload_n 0, 1) := by decide +kernel
theorem d_De_keep_36 : decode b_De_keep 36 = .ok (.dup, 1) := by decide +kernel
theorem d_De_keep_37 : decode b_De_keep 37 = .ok (.getfield 131, 3) := by decide +kernel
theorem d_De_keep_40 : decode b_De_keep 40 = .ok (.iconst 1, 1) := by decide +kernel
theorem d_De_keep_41 : decode b_De_keep 41 = .ok (.iadd, 1) := by decide +kernel
theorem d_De_keep_42 : decode b_De_keep 42 = .ok (.putfield 131, 3) := by decide +kernel
theorem d_De_keep_45 : decode b_De_keep 45 = .ok (.aload_n 0, 1) := by decide +kernel
theorem d_De_keep_46 : decode b_De_keep 46 = .ok (.getfield 131, 3) := by decide +kernel
theorem d_De_keep_49 : decode b_De_keep 49 = .ok (.ireturn, 1) := by decide +kernel
theorem d_De_number_0 : decode b_De_number 0 = .ok (.iload_n 1, 1) := by decide +kernel
theorem d_De_number_1 : decode b_De_number 1 = .ok (.invokestatic 53, 3) := by decide +kernel
theorem d_De_number_4 : decode b_De_number 4 = .ok (.aload_n 0, 1) := by decide +kernel
theorem d_De_number_5 : decode b_De_number 5 = .ok (.iload_n 1, 1) := by decide +kernel
theorem d_De_number_6 : decode b_De_number 6 = .ok (.invokevirtual 117, 3) := by decide +kernel
theorem d_De_number_9 : decode b_De_number 9 = .ok (.astore_n 2, 1) := by decide +kernel
theorem d_De_number_10 : decode b_De_number 10 = .ok (.aload_n 2, 1) := by decide +kernel
theorem d_De_number_11 : decode b_De_number 11 = .ok (.getfield 134, 3) := by decide +kernel
theorem d_De_number_14 : decode b_De_number 14 = .ok (.ifCond .ne 21, 3) := by decide +kernel
theorem d_De_number_17 : decode b_De_number 17 = .ok (.aload_n 0, 1) := by decide +kernel
theorem d_De_number_18 : decode b_De_number 18 = .ok (.dup, 1) := by decide +kernel
theorem d_De_number_19 : decode b_De_number 19 = .ok (.getfield 137, 3) := by decide +kernel
theorem d_De_number_22 : decode b_De_number 22 = .ok (.iconst 1, 1) := by decide +kernel
theorem d_De_number_23 : decode b_De_number 23 = .ok (.iadd, 1) := by decide +kernel
theorem d_De_number_24 : decode b_De_number 24 = .ok (.putfield 137, 3) := by decide +kernel
theorem d_De_number_27 : decode b_De_number 27 = .ok (.aload_n 2, 1) := by decide +kernel
theorem d_De_number_28 : decode b_De_number 28 = .ok (.aload_n 0, 1) := by decide +kernel
theorem d_De_number_29 : decode b_De_number 29 = .ok (.getfield 137, 3) := by decide +kernel
theorem d_De_number_32 : decode b_De_number 32 = .ok (.putfield 134, 3) := by decide +kernel
theorem d_De_number_35 : decode b_De_number 35 = .ok (.aload_n 2, 1) := by decide +kernel
theorem d_De_number_36 : decode b_De_number 36 = .ok (.getfield 134, 3) := by decide +kernel
theorem d_De_number_39 : decode b_De_number 39 = .ok (.ireturn, 1) := by decide +kernel
theorem d_De_size_0 : decode b_De_size 0 = .ok (.iload_n 1, 1) := by decide +kernel
theorem d_De_size_1 : decode b_De_size 1 = .ok (.invokestatic 53, 3) := by decide +kernel
theorem d_De_size_4 : decode b_De_size 4 = .ok (.aload_n 0, 1) := by decide +kernel
theorem d_De_size_5 : decode b_De_size 5 = .ok (.iload_n 1, 1) := by decide +kernel
theorem d_De_size_6 : decode b_De_size 6 = .ok (.invokevirtual 117, 3) := by decide +kernel
theorem d_De_size_9 : decode b_De_size 9 = .ok (.getfield 140, 3) := by decide +kernel
theorem d_De_size_12 : decode b_De_size 12 = .ok (.ireturn, 1) := by decide +kernel
theorem d_De_memory_0 : decode b_De_memory 0 = .ok (.iload_n 1, 1) := by decide +kernel
theorem d_De_memory_1 : decode b_De_memory 1 = .ok (.bipush 16, 2) := by decide +kernel
theorem d_De_memory_3 : decode b_De_memory 3 = .ok (.if_icmp .lt 9, 3) := by decide +kernel
theorem d_De_memory_6 : decode b_De_memory 6 = .ok (.iload_n 1, 1) := by decide +kernel
theorem d_De_memory_7 : decode b_De_memory 7 = .ok (.ldc 21, 2) := by decide +kernel
theorem d_De_memory_9 : decode b_De_memory 9 = .ok (.if_icmp .le 13, 3) := by decide +kernel
theorem d_De_memory_12 : decode b_De_memory 12 = .ok (.new 30, 3) := by decide +kernel
theorem d_De_memory_15 : decode b_De_memory 15 = .ok (.dup, 1) := by decide +kernel
theorem d_De_memory_16 : decode b_De_memory 16 = .ok (.ldc 143, 2) := by decide +kernel
theorem d_De_memory_18 : decode b_De_memory 18 = .ok (.invokespecial 34, 3) := by decide +kernel
theorem d_De_memory_21 : decode b_De_memory 21 = .ok (.athrow, 1) := by decide +kernel
theorem d_De_memory_22 : decode b_De_memory 22 = .ok (.aload_n 0, 1) := by decide +kernel
theorem d_De_memory_23 : decode b_De_memory 23 = .ok (.getfield 145, 3) := by decide +kernel
theorem d_De_memory_26 : decode b_De_memory 26 = .ok (.iload_n 1, 1) := by decide +kernel
theorem d_De_memory_27 : decode b_De_memory 27 = .ok (.if_icmp .le 7, 3) := by decide +kernel
theorem d_De_memory_30 : decode b_De_memory 30 = .ok (.aload_n 0, 1) := by decide +kernel
theorem d_De_memory_31 : decode b_De_memory 31 = .ok (.invokevirtual 148, 3) := by decide +kernel
theorem d_De_memory_34 : decode b_De_memory 34 = .ok (.aload_n 0, 1) := by decide +kernel
theorem d_De_memory_35 : decode b_De_memory 35 = .ok (.getfield 145, 3) := by decide +kernel
theorem d_De_memory_38 : decode b_De_memory 38 = .ok (.iload_n 1, 1) := by decide +kernel
theorem d_De_memory_39 : decode b_De_memory 39 = .ok (.if_icmp .le 5, 3) := by decide +kernel
theorem d_De_memory_42 : decode b_De_memory 42 = .ok (.iconst 0, 1) := by decide +kernel
theorem d_De_memory_43 : decode b_De_memory 43 = .ok (.ireturn, 1) := by decide +kernel
theorem d_De_memory_44 : decode b_De_memory 44 = .ok (.aload_n 0, 1) := by decide +kernel
theorem d_De_memory_45 : decode b_De_memory 45 = .ok (.iload_n 1, 1) := by decide +kernel
theorem d_De_memory_46 : decode b_De_memory 46 = .ok (.putfield 22, 3) := by decide +kernel
theorem d_De_memory_49 : decode b_De_memory 49 = .ok (.iconst 1, 1) := by decide +kernel
theorem d_De_memory_50 : decode b_De_memory 50 = .ok (.ireturn, 1) := by decide +kernel
theorem d_De_every_0 : decode b_De_every 0 = .ok (.iload_n 1, 1) := by decide +kernel
theorem d_De_every_1 : decode b_De_every 1 = .ok (.ifCond .ge 13, 3) := by decide +kernel
theorem d_De_every_4 : decode b_De_every 4 = .ok (.new 30, 3) := by decide +kernel
theorem d_De_every_7 : decode b_De_every 7 = .ok (.dup, 1) := by decide +kernel
theorem d_De_every_8 : decode b_De_every 8 = .ok (.ldc 63, 2) := by decide +kernel
theorem d_De_every_10 : decode b_De_every 10 = .ok (.invokespecial 34, 3) := by decide +kernel
theorem d_De_every_13 : decode b_De_every 13 = .ok (.athrow, 1) := by decide +kernel
theorem d_De_every_14 : decode b_De_every 14 = .ok (.aload_n 0, 1) := by decide +kernel
theorem d_De_every_15 : decode b_De_every 15 = .ok (.iload_n 1, 1) := by decide +kernel
theorem d_De_every_16 : decode b_De_every 16 = .ok (.putfield 151, 3) := by decide +kernel
theorem d_De_every_19 : decode b_De_every 19 = .ok (.return_, 1) := by decide +kernel
