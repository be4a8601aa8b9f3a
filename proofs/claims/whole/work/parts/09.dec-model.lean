/-! decode rows, laid by program -/
theorem d_Mo_init_0 : decode b_Mo_init 0 = .ok (.aload_n 0, 1) := by decide +kernel
theorem d_Mo_init_1 : decode b_Mo_init 1 = .ok (.invokespecial 1, 3) := by decide +kernel
theorem d_Mo_init_4 : decode b_Mo_init 4 = .ok (.aload_n 0, 1) := by decide +kernel
theorem d_Mo_init_5 : decode b_Mo_init 5 = .ok (.bipush 16, 2) := by decide +kernel
theorem d_Mo_init_7 : decode b_Mo_init 7 = .ok (.newarray .int, 2) := by decide +kernel
theorem d_Mo_init_9 : decode b_Mo_init 9 = .ok (.putfield 7, 3) := by decide +kernel
theorem d_Mo_init_12 : decode b_Mo_init 12 = .ok (.aload_n 0, 1) := by decide +kernel
theorem d_Mo_init_13 : decode b_Mo_init 13 = .ok (.bipush 16, 2) := by decide +kernel
theorem d_Mo_init_15 : decode b_Mo_init 15 = .ok (.newarray .int, 2) := by decide +kernel
theorem d_Mo_init_17 : decode b_Mo_init 17 = .ok (.putfield 13, 3) := by decide +kernel
theorem d_Mo_init_20 : decode b_Mo_init 20 = .ok (.aload_n 0, 1) := by decide +kernel
theorem d_Mo_init_21 : decode b_Mo_init 21 = .ok (.bipush 16, 2) := by decide +kernel
theorem d_Mo_init_23 : decode b_Mo_init 23 = .ok (.newarray .int, 2) := by decide +kernel
theorem d_Mo_init_25 : decode b_Mo_init 25 = .ok (.putfield 16, 3) := by decide +kernel
theorem d_Mo_init_28 : decode b_Mo_init 28 = .ok (.aload_n 0, 1) := by decide +kernel
theorem d_Mo_init_29 : decode b_Mo_init 29 = .ok (.bipush 16, 2) := by decide +kernel
theorem d_Mo_init_31 : decode b_Mo_init 31 = .ok (.newarray .boolean, 2) := by decide +kernel
theorem d_Mo_init_33 : decode b_Mo_init 33 = .ok (.putfield 19, 3) := by decide +kernel
theorem d_Mo_init_36 : decode b_Mo_init 36 = .ok (.aload_n 0, 1) := by decide +kernel
theorem d_Mo_init_37 : decode b_Mo_init 37 = .ok (.sipush 514, 3) := by decide +kernel
theorem d_Mo_init_40 : decode b_Mo_init 40 = .ok (.newarray .int, 2) := by decide +kernel
theorem d_Mo_init_42 : decode b_Mo_init 42 = .ok (.putfield 23, 3) := by decide +kernel
theorem d_Mo_init_45 : decode b_Mo_init 45 = .ok (.aload_n 0, 1) := by decide +kernel
theorem d_Mo_init_46 : decode b_Mo_init 46 = .ok (.sipush 514, 3) := by decide +kernel
theorem d_Mo_init_49 : decode b_Mo_init 49 = .ok (.newarray .int, 2) := by decide +kernel
theorem d_Mo_init_51 : decode b_Mo_init 51 = .ok (.putfield 26, 3) := by decide +kernel
theorem d_Mo_init_54 : decode b_Mo_init 54 = .ok (.aload_n 0, 1) := by decide +kernel
theorem d_Mo_init_55 : decode b_Mo_init 55 = .ok (.sipush 514, 3) := by decide +kernel
theorem d_Mo_init_58 : decode b_Mo_init 58 = .ok (.newarray .int, 2) := by decide +kernel
theorem d_Mo_init_60 : decode b_Mo_init 60 = .ok (.putfield 29, 3) := by decide +kernel
theorem d_Mo_init_63 : decode b_Mo_init 63 = .ok (.aload_n 0, 1) := by decide +kernel
theorem d_Mo_init_64 : decode b_Mo_init 64 = .ok (.ldc 32, 2) := by decide +kernel
theorem d_Mo_init_66 : decode b_Mo_init 66 = .ok (.putfield 33, 3) := by decide +kernel
theorem d_Mo_init_69 : decode b_Mo_init 69 = .ok (.aload_n 0, 1) := by decide +kernel
theorem d_Mo_init_70 : decode b_Mo_init 70 = .ok (.sipush 514, 3) := by decide +kernel
theorem d_Mo_init_73 : decode b_Mo_init 73 = .ok (.newarray .int, 2) := by decide +kernel
theorem d_Mo_init_75 : decode b_Mo_init 75 = .ok (.putfield 37, 3) := by decide +kernel
theorem d_Mo_init_78 : decode b_Mo_init 78 = .ok (.aload_n 0, 1) := by decide +kernel
theorem d_Mo_init_79 : decode b_Mo_init 79 = .ok (.sipush 514, 3) := by decide +kernel
theorem d_Mo_init_82 : decode b_Mo_init 82 = .ok (.newarray .int, 2) := by decide +kernel
theorem d_Mo_init_84 : decode b_Mo_init 84 = .ok (.putfield 40, 3) := by decide +kernel
theorem d_Mo_init_87 : decode b_Mo_init 87 = .ok (.aload_n 0, 1) := by decide +kernel
theorem d_Mo_init_88 : decode b_Mo_init 88 = .ok (.sipush 514, 3) := by decide +kernel
theorem d_Mo_init_91 : decode b_Mo_init 91 = .ok (.newarray .long, 2) := by decide +kernel
theorem d_Mo_init_93 : decode b_Mo_init 93 = .ok (.putfield 43, 3) := by decide +kernel
theorem d_Mo_init_96 : decode b_Mo_init 96 = .ok (.aload_n 0, 1) := by decide +kernel
theorem d_Mo_init_97 : decode b_Mo_init 97 = .ok (.bipush 32, 2) := by decide +kernel
theorem d_Mo_init_99 : decode b_Mo_init 99 = .ok (.newarray .int, 2) := by decide +kernel
theorem d_Mo_init_101 : decode b_Mo_init 101 = .ok (.putfield 47, 3) := by decide +kernel
theorem d_Mo_init_104 : decode b_Mo_init 104 = .ok (.aload_n 0, 1) := by decide +kernel
theorem d_Mo_init_105 : decode b_Mo_init 105 = .ok (.sipush 514, 3) := by decide +kernel
theorem d_Mo_init_108 : decode b_Mo_init 108 = .ok (.newarray .int, 2) := by decide +kernel
theorem d_Mo_init_110 : decode b_Mo_init 110 = .ok (.putfield 50, 3) := by decide +kernel
theorem d_Mo_init_113 : decode b_Mo_init 113 = .ok (.aload_n 0, 1) := by decide +kernel
theorem d_Mo_init_114 : decode b_Mo_init 114 = .ok (.sipush 514, 3) := by decide +kernel
theorem d_Mo_init_117 : decode b_Mo_init 117 = .ok (.newarray .int, 2) := by decide +kernel
theorem d_Mo_init_119 : decode b_Mo_init 119 = .ok (.putfield 53, 3) := by decide +kernel
theorem d_Mo_init_122 : decode b_Mo_init 122 = .ok (.aload_n 0, 1) := by decide +kernel
theorem d_Mo_init_123 : decode b_Mo_init 123 = .ok (.sipush 514, 3) := by decide +kernel
theorem d_Mo_init_126 : decode b_Mo_init 126 = .ok (.newarray .boolean, 2) := by decide +kernel
theorem d_Mo_init_128 : decode b_Mo_init 128 = .ok (.putfield 56, 3) := by decide +kernel
theorem d_Mo_init_131 : decode b_Mo_init 131 = .ok (.return_, 1) := by decide +kernel
theorem d_Mo_thrown_0 : decode b_Mo_thrown 0 = .ok (.aload_n 0, 1) := by decide +kernel
theorem d_Mo_thrown_1 : decode b_Mo_thrown 1 = .ok (.getfield 59, 3) := by decide +kernel
theorem d_Mo_thrown_4 : decode b_Mo_thrown 4 = .ok (.ireturn, 1) := by decide +kernel
theorem d_Mo_plain_0 : decode b_Mo_plain 0 = .ok (.aload_n 0, 1) := by decide +kernel
theorem d_Mo_plain_1 : decode b_Mo_plain 1 = .ok (.iconst 0, 1) := by decide +kernel
theorem d_Mo_plain_2 : decode b_Mo_plain 2 = .ok (.putfield 59, 3) := by decide +kernel
theorem d_Mo_plain_5 : decode b_Mo_plain 5 = .ok (.aload_n 0, 1) := by decide +kernel
theorem d_Mo_plain_6 : decode b_Mo_plain 6 = .ok (.iload_n 1, 1) := by decide +kernel
theorem d_Mo_plain_7 : decode b_Mo_plain 7 = .ok (.bipush 15, 2) := by decide +kernel
theorem d_Mo_plain_9 : decode b_Mo_plain 9 = .ok (.invokestatic 93, 3) := by decide +kernel
theorem d_Mo_plain_12 : decode b_Mo_plain 12 = .ok (.ifCond .eq 12, 3) := by decide +kernel
theorem d_Mo_plain_15 : decode b_Mo_plain 15 = .ok (.iload_n 2, 1) := by decide +kernel
theorem d_Mo_plain_16 : decode b_Mo_plain 16 = .ok (.bipush 16, 2) := by decide +kernel
theorem d_Mo_plain_18 : decode b_Mo_plain 18 = .ok (.invokestatic 93, 3) := by decide +kernel
theorem d_Mo_plain_21 : decode b_Mo_plain 21 = .ok (.ifCond .ne 7, 3) := by decide +kernel
theorem d_Mo_plain_24 : decode b_Mo_plain 24 = .ok (.iconst 1, 1) := by decide +kernel
theorem d_Mo_plain_25 : decode b_Mo_plain 25 = .ok (.goto 4, 3) := by decide +kernel
theorem d_Mo_plain_28 : decode b_Mo_plain 28 = .ok (.iconst 0, 1) := by decide +kernel
theorem d_Mo_plain_29 : decode b_Mo_plain 29 = .ok (.iconst 1, 1) := by decide +kernel
theorem d_Mo_plain_30 : decode b_Mo_plain 30 = .ok (.invokevirtual 96, 3) := by decide +kernel
theorem d_Mo_plain_33 : decode b_Mo_plain 33 = .ok (.ifCond .ne 31, 3) := by decide +kernel
theorem d_Mo_plain_36 : decode b_Mo_plain 36 = .ok (.aload_n 0, 1) := by decide +kernel
theorem d_Mo_plain_37 : decode b_Mo_plain 37 = .ok (.iload_n 3, 1) := by decide +kernel
theorem d_Mo_plain_38 : decode b_Mo_plain 38 = .ok (.iload_n 2, 1) := by decide +kernel
theorem d_Mo_plain_39 : decode b_Mo_plain 39 = .ok (.iushr, 1) := by decide +kernel
theorem d_Mo_plain_40 : decode b_Mo_plain 40 = .ok (.ifCond .ne 12, 3) := by decide +kernel
theorem d_Mo_plain_43 : decode b_Mo_plain 43 = .ok (.aload_n 0, 1) := by decide +kernel
theorem d_Mo_plain_44 : decode b_Mo_plain 44 = .ok (.getfield 19, 3) := by decide +kernel
theorem d_Mo_plain_47 : decode b_Mo_plain 47 = .ok (.iload_n 1, 1) := by decide +kernel
theorem d_Mo_plain_48 : decode b_Mo_plain 48 = .ok (.baload, 1) := by decide +kernel
theorem d_Mo_plain_49 : decode b_Mo_plain 49 = .ok (.ifCond .eq 7, 3) := by decide +kernel
theorem d_Mo_plain_52 : decode b_Mo_plain 52 = .ok (.iconst 1, 1) := by decide +kernel
theorem d_Mo_plain_53 : decode b_Mo_plain 53 = .ok (.goto 4, 3) := by decide +kernel
theorem d_Mo_plain_56 : decode b_Mo_plain 56 = .ok (.iconst 0, 1) := by decide +kernel
theorem d_Mo_plain_57 : decode b_Mo_plain 57 = .ok (.iconst 1, 1) := by decide +kernel
theorem d_Mo_plain_58 : decode b_Mo_plain 58 = .ok (.invokevirtual 96, 3) := by decide +kernel
theorem d_Mo_plain_61 : decode b_Mo_plain 61 = .ok (.ifCond .eq 4, 3) := by decide +kernel
theorem d_Mo_plain_64 : decode b_Mo_plain 64 = .ok (.return_, 1) := by decide +kernel
theorem d_Mo_plain_65 : decode b_Mo_plain 65 = .ok (.aload_n 0, 1) := by decide +kernel
theorem d_Mo_plain_66 : decode b_Mo_plain 66 = .ok (.getfield 19, 3) := by decide +kernel
theorem d_Mo_plain_69 : decode b_Mo_plain 69 = .ok (.iload_n 1, 1) := by decide +kernel
theorem d_Mo_plain_70 : decode b_Mo_plain 70 = .ok (.iconst 1, 1) := by decide +kernel
theorem d_Mo_plain_71 : decode b_Mo_plain 71 = .ok (.bastore, 1) := by decide +kernel
theorem d_Mo_plain_72 : decode b_Mo_plain 72 = .ok (.aload_n 0, 1) := by decide +kernel
theorem d_Mo_plain_73 : decode b_Mo_plain 73 = .ok (.getfield 16, 3) := by decide +kernel
theorem d_Mo_plain_76 : decode b_Mo_plain 76 = .ok (.iload_n 1, 1) := by decide +kernel
theorem d_Mo_plain_77 : decode b_Mo_plain 77 = .ok (.iconst (-1), 1) := by decide +kernel
theorem d_Mo_plain_78 : decode b_Mo_plain 78 = .ok (.iastore, 1) := by decide +kernel
theorem d_Mo_plain_79 : decode b_Mo_plain 79 = .ok (.aload_n 0, 1) := by decide +kernel
theorem d_Mo_plain_80 : decode b_Mo_plain 80 = .ok (.getfield 7, 3) := by decide +kernel
theorem d_Mo_plain_83 : decode b_Mo_plain 83 = .ok (.iload_n 1, 1) := by decide +kernel
theorem d_Mo_plain_84 : decode b_Mo_plain 84 = .ok (.iload_n 2, 1) := by decide +kernel
theorem d_Mo_plain_85 : decode b_Mo_plain 85 = .ok (.iastore, 1) := by decide +kernel
theorem d_Mo_plain_86 : decode b_Mo_plain 86 = .ok (.aload_n 0, 1) := by decide +kernel
theorem d_Mo_plain_87 : decode b_Mo_plain 87 = .ok (.getfield 13, 3) := by decide +kernel
theorem d_Mo_plain_90 : decode b_Mo_plain 90 = .ok (.iload_n 1, 1) := by decide +kernel
theorem d_Mo_plain_91 : decode b_Mo_plain 91 = .ok (.iload_n 3, 1) := by decide +kernel
theorem d_Mo_plain_92 : decode b_Mo_plain 92 = .ok (.iastore, 1) := by decide +kernel
theorem d_Mo_plain_93 : decode b_Mo_plain 93 = .ok (.return_, 1) := by decide +kernel
theorem d_Mo_in_0 : decode b_Mo_in 0 = .ok (.iload_n 0, 1) := by decide +kernel
theorem d_Mo_in_1 : decode b_Mo_in 1 = .ok (.ifCond .lt 12, 3) := by decide +kernel
theorem d_Mo_in_4 : decode b_Mo_in 4 = .ok (.iload_n 0, 1) := by decide +kernel
theorem d_Mo_in_5 : decode b_Mo_in 5 = .ok (.iload_n 1, 1) := by decide +kernel
theorem d_Mo_in_6 : decode b_Mo_in 6 = .ok (.if_icmp .gt 7, 3) := by decide +kernel
theorem d_Mo_in_9 : decode b_Mo_in 9 = .ok (.iconst 1, 1) := by decide +kernel
theorem d_Mo_in_10 : decode b_Mo_in 10 = .ok (.goto 4, 3) := by decide +kernel
theorem d_Mo_in_13 : decode b_Mo_in 13 = .ok (.iconst 0, 1) := by decide +kernel
theorem d_Mo_in_14 : decode b_Mo_in 14 = .ok (.ireturn, 1) := by decide +kernel
theorem d_Mo_fails_0 : decode b_Mo_fails 0 = .ok (.iload_n 1, 1) := by decide +kernel
theorem d_Mo_fails_1 : decode b_Mo_fails 1 = .ok (.ifCond .eq 15, 3) := by decide +kernel
theorem d_Mo_fails_4 : decode b_Mo_fails 4 = .ok (.aload_n 0, 1) := by decide +kernel
theorem d_Mo_fails_5 : decode b_Mo_fails 5 = .ok (.getfield 59, 3) := by decide +kernel
theorem d_Mo_fails_8 : decode b_Mo_fails 8 = .ok (.ifCond .ne 8, 3) := by decide +kernel
theorem d_Mo_fails_11 : decode b_Mo_fails 11 = .ok (.aload_n 0, 1) := by decide +kernel
theorem d_Mo_fails_12 : decode b_Mo_fails 12 = .ok (.iload_n 2, 1) := by decide +kernel
theorem d_Mo_fails_13 : decode b_Mo_fails 13 = .ok (.putfield 59, 3) := by decide +kernel
theorem d_Mo_fails_16 : decode b_Mo_fails 16 = .ok (.aload_n 0, 1) := by decide +kernel
theorem d_Mo_fails_17 : decode b_Mo_fails 17 = .ok (.getfield 59, 3) := by decide +kernel
theorem d_Mo_fails_20 : decode b_Mo_fails 20 = .ok (.ifCond .eq 7, 3) := by decide +kernel
theorem d_Mo_fails_23 : decode b_Mo_fails 23 = .ok (.iconst 1, 1) := by decide +kernel
theorem d_Mo_fails_24 : decode b_Mo_fails 24 = .ok (.goto 4, 3) := by decide +kernel
theorem d_Mo_fails_27 : decode b_Mo_fails 27 = .ok (.iconst 0, 1) := by decide +kernel
theorem d_Mo_fails_28 : decode b_Mo_fails 28 = .ok (.ireturn, 1) := by decide +kernel
theorem d_Mo_row_0 : decode b_Mo_row 0 = .ok (.aload_n 0, 1) := by decide +kernel
theorem d_Mo_row_1 : decode b_Mo_row 1 = .ok (.iconst 0, 1) := by decide +kernel
theorem d_Mo_row_2 : decode b_Mo_row 2 = .ok (.putfield 59, 3) := by decide +kernel
theorem d_Mo_row_5 : decode b_Mo_row 5 = .ok (.aload_n 0, 1) := by decide +kernel
theorem d_Mo_row_6 : decode b_Mo_row 6 = .ok (.iload_n 1, 1) := by decide +kernel
theorem d_Mo_row_7 : decode b_Mo_row 7 = .ok (.bipush 15, 2) := by decide +kernel
theorem d_Mo_row_9 : decode b_Mo_row 9 = .ok (.invokestatic 93, 3) := by decide +kernel
theorem d_Mo_row_12 : decode b_Mo_row 12 = .ok (.ifCond .eq 11, 3) := by decide +kernel
theorem d_Mo_row_15 : decode b_Mo_row 15 = .ok (.iload_n 2, 1) := by decide +kernel
theorem d_Mo_row_16 : decode b_Mo_row 16 = .ok (.iconst 4, 1) := by decide +kernel
theorem d_Mo_row_17 : decode b_Mo_row 17 = .ok (.invokestatic 93, 3) := by decide +kernel
theorem d_Mo_row_20 : decode b_Mo_row 20 = .ok (.ifCond .ne 7, 3) := by decide +kernel
theorem d_Mo_row_23 : decode b_Mo_row 23 = .ok (.iconst 1, 1) := by decide +kernel
theorem d_Mo_row_24 : decode b_Mo_row 24 = .ok (.goto 4, 3) := by decide +kernel
theorem d_Mo_row_27 : decode b_Mo_row 27 = .ok (.iconst 0, 1) := by decide +kernel
theorem d_Mo_row_28 : decode b_Mo_row 28 = .ok (.iconst 1, 1) := by decide +kernel
theorem d_Mo_row_29 : decode b_Mo_row 29 = .ok (.invokevirtual 96, 3) := by decide +kernel
theorem d_Mo_row_32 : decode b_Mo_row 32 = .ok (.ifCond .ne 17, 3) := by decide +kernel
theorem d_Mo_row_35 : decode b_Mo_row 35 = .ok (.aload_n 0, 1) := by decide +kernel
theorem d_Mo_row_36 : decode b_Mo_row 36 = .ok (.aload_n 0, 1) := by decide +kernel
theorem d_Mo_row_37 : decode b_Mo_row 37 = .ok (.getfield 19, 3) := by decide +kernel
theorem d_Mo_row_40 : decode b_Mo_row 40 = .ok (.iload_n 1, 1) := by decide +kernel
theorem d_Mo_row_41 : decode b_Mo_row 41 = .ok (.baload, 1) := by decide +kernel
theorem d_Mo_row_42 : decode b_Mo_row 42 = .ok (.iconst 1, 1) := by decide +kernel
theorem d_Mo_row_43 : decode b_Mo_row 43 = .ok (.invokevirtual 96, 3) := by decide +kernel
theorem d_Mo_row_46 : decode b_Mo_row 46 = .ok (.ifCond .eq 4, 3) := by decide +kernel
theorem d_Mo_row_49 : decode b_Mo_row 49 = .ok (.return_, 1) := by decide +kernel
theorem d_Mo_row_50 : decode b_Mo_row 50 = .ok (.aload_n 0, 1) := by decide +kernel
theorem d_Mo_row_51 : decode b_Mo_row 51 = .ok (.getfield 19, 3) := by decide +kernel
theorem d_Mo_row_54 : decode b_Mo_row 54 = .ok (.iload_n 1, 1) := by decide +kernel
theorem d_Mo_row_55 : decode b_Mo_row 55 = .ok (.iconst 1, 1) := by decide +kernel
theorem d_Mo_row_56 : decode b_Mo_row 56 = .ok (.bastore, 1) := by decide +kernel
theorem d_Mo_row_57 : decode b_Mo_row 57 = .ok (.aload_n 0, 1) := by decide +kernel
theorem d_Mo_row_58 : decode b_Mo_row 58 = .ok (.getfield 16, 3) := by decide +kernel
theorem d_Mo_row_61 : decode b_Mo_row 61 = .ok (.iload_n 1, 1) := by decide +kernel
theorem d_Mo_row_62 : decode b_Mo_row 62 = .ok (.iload_n 2, 1) := by decide +kernel
theorem d_Mo_row_63 : decode b_Mo_row 63 = .ok (.iastore, 1) := by decide +kernel
theorem d_Mo_row_64 : decode b_Mo_row 64 = .ok (.return_, 1) := by decide +kernel
theorem d_Mo_make_0 : decode b_Mo_make 0 = .ok (.aload_n 0, 1) := by decide +kernel
theorem d_Mo_make_1 : decode b_Mo_make 1 = .ok (.iconst 0, 1) := by decide +kernel
theorem d_Mo_make_2 : decode b_Mo_make 2 = .ok (.putfield 59, 3) := by decide +kernel
theorem d_Mo_make_5 : decode b_Mo_make 5 = .ok (.aload_n 0, 1) := by decide +kernel
theorem d_Mo_make_6 : decode b_Mo_make 6 = .ok (.iload_n 1, 1) := by decide +kernel
theorem d_Mo_make_7 : decode b_Mo_make 7 = .ok (.bipush 31, 2) := by decide +kernel
theorem d_Mo_make_9 : decode b_Mo_make 9 = .ok (.invokestatic 93, 3) := by decide +kernel
theorem d_Mo_make_12 : decode b_Mo_make 12 = .ok (.ifCond .eq 34, 3) := by decide +kernel
theorem d_Mo_make_15 : decode b_Mo_make 15 = .ok (.iload_n 2, 1) := by decide +kernel
theorem d_Mo_make_16 : decode b_Mo_make 16 = .ok (.bipush 15, 2) := by decide +kernel
theorem d_Mo_make_18 : decode b_Mo_make 18 = .ok (.invokestatic 93, 3) := by decide +kernel
theorem d_Mo_make_21 : decode b_Mo_make 21 = .ok (.ifCond .eq 25, 3) := by decide +kernel
theorem d_Mo_make_24 : decode b_Mo_make 24 = .ok (.aload_n 0, 1) := by decide +kernel
theorem d_Mo_make_25 : decode b_Mo_make 25 = .ok (.getfield 19, 3) := by decide +kernel
theorem d_Mo_make_28 : decode b_Mo_make 28 = .ok (.iload_n 2, 1) := by decide +kernel
theorem d_Mo_make_29 : decode b_Mo_make 29 = .ok (.baload, 1) := by decide +kernel
theorem d_Mo_make_30 : decode b_Mo_make 30 = .ok (.ifCond .eq 20, 3) := by decide +kernel
theorem d_Mo_make_33 : decode b_Mo_make 33 = .ok (.aload_n 0, 1) := by decide +kernel
theorem d_Mo_make_34 : decode b_Mo_make 34 = .ok (.getfield 16, 3) := by decide +kernel
theorem d_Mo_make_37 : decode b_Mo_make 37 = .ok (.iload_n 2, 1) := by decide +kernel
theorem d_Mo_make_38 : decode b_Mo_make 38 = .ok (.iaload, 1) := by decide +kernel
theorem d_Mo_make_39 : decode b_Mo_make 39 = .ok (.ifCond .lt 11, 3) := by decide +kernel
theorem d_Mo_make_42 : decode b_Mo_make 42 = .ok (.iload_n 3, 1) := by decide +kernel
theorem d_Mo_make_43 : decode b_Mo_make 43 = .ok (.ifCond .ge 7, 3) := by decide +kernel
theorem d_Mo_make_46 : decode b_Mo_make 46 = .ok (.iconst 1, 1) := by decide +kernel
theorem d_Mo_make_47 : decode b_Mo_make 47 = .ok (.goto 4, 3) := by decide +kernel
theorem d_Mo_make_50 : decode b_Mo_make 50 = .ok (.iconst 0, 1) := by decide +kernel
theorem d_Mo_make_51 : decode b_Mo_make 51 = .ok (.iconst 1, 1) := by decide +kernel
theorem d_Mo_make_52 : decode b_Mo_make 52 = .ok (.invokevirtual 96, 3) := by decide +kernel
theorem d_Mo_make_55 : decode b_Mo_make 55 = .ok (.ifCond .ne 25, 3) := by decide +kernel
theorem d_Mo_make_58 : decode b_Mo_make 58 = .ok (.aload_n 0, 1) := by decide +kernel
theorem d_Mo_make_59 : decode b_Mo_make 59 = .ok (.aload_n 0, 1) := by decide +kernel
theorem d_Mo_make_60 : decode b_Mo_make 60 = .ok (.getfield 19, 3) := by decide +kernel
theorem d_Mo_make_63 : decode b_Mo_make 63 = .ok (.iload_n 2, 1) := by decide +kernel
theorem d_Mo_make_64 : decode b_Mo_make 64 = .ok (.baload, 1) := by decide +kernel
theorem d_Mo_make_65 : decode b_Mo_make 65 = .ok (.ifCond .ne 7, 3) := by decide +kernel
theorem d_Mo_make_68 : decode b_Mo_make 68 = .ok (.iconst 1, 1) := by decide +kernel
theorem d_Mo_make_69 : decode b_Mo_make 69 = .ok (.goto 4, 3) := by decide +kernel
theorem d_Mo_make_72 : decode b_Mo_make 72 = .ok (.iconst 0, 1) := by decide +kernel
theorem d_Mo_make_73 : decode b_Mo_make 73 = .ok (.iconst 2, 1) := by decide +kernel
theorem d_Mo_make_74 : decode b_Mo_make 74 = .ok (.invokevirtual 96, 3) := by decide +kernel
theorem d_Mo_make_77 : decode b_Mo_make 77 = .ok (.ifCond .eq 5, 3) := by decide +kernel
theorem d_Mo_make_80 : decode b_Mo_make 80 = .ok (.iconst 0, 1) := by decide +kernel
theorem d_Mo_make_81 : decode b_Mo_make 81 = .ok (.ireturn, 1) := by decide +kernel
theorem d_Mo_make_82 : decode b_Mo_make 82 = .ok (.aload_n 0, 1) := by decide +kernel
theorem d_Mo_make_83 : decode b_Mo_make 83 = .ok (.getfield 16, 3) := by decide +kernel
theorem d_Mo_make_86 : decode b_Mo_make 86 = .ok (.iload_n 2, 1) := by decide +kernel
theorem d_Mo_make_87 : decode b_Mo_make 87 = .ok (.iaload, 1) := by decide +kernel
theorem d_Mo_make_88 : decode b_Mo_make 88 = .ok (.aload_n 0, 1) := by decide +kernel
theorem d_Mo_make_89 : decode b_Mo_make 89 = .ok (.getfield 16, 3) := by decide +kernel
theorem d_Mo_make_92 : decode b_Mo_make 92 = .ok (.iload_n 2, 1) := by decide +kernel
theorem d_Mo_make_93 : decode b_Mo_make 93 = .ok (.iaload, 1) := by decide +kernel
theorem d_Mo_make_94 : decode b_Mo_make 94 = .ok (.ifCond .ge 13, 3) := by decide +kernel
theorem d_Mo_make_97 : decode b_Mo_make 97 = .ok (.aload_n 0, 1) := by decide +kernel
theorem d_Mo_make_98 : decode b_Mo_make 98 = .ok (.getfield 7, 3) := by decide +kernel
theorem d_Mo_make_101 : decode b_Mo_make 101 = .ok (.iload_n 2, 1) := by decide +kernel
theorem d_Mo_make_102 : decode b_Mo_make 102 = .ok (.iaload, 1) := by decide +kernel
theorem d_Mo_make_103 : decode b_Mo_make 103 = .ok (.i2l, 1) := by decide +kernel
theorem d_Mo_make_104 : decode b_Mo_make 104 = .ok (.goto 5, 3) := by decide +kernel
theorem d_Mo_make_107 : decode b_Mo_make 107 = .ok (.iload_n 3, 1) := by decide +kernel
theorem d_Mo_make_108 : decode b_Mo_make 108 = .ok (.i2l, 1) := by decide +kernel
theorem d_Mo_make_109 : decode b_Mo_make 109 = .ok (.invokestatic 81, 3) := by decide +kernel
theorem d_Mo_make_112 : decode b_Mo_make 112 = .ok (.lstore 4, 2) := by decide +kernel
theorem d_Mo_make_114 : decode b_Mo_make 114 = .ok (.aload_n 0, 1) := by decide +kernel
theorem d_Mo_make_115 : decode b_Mo_make 115 = .ok (.aload_n 0, 1) := by decide +kernel
theorem d_Mo_make_116 : decode b_Mo_make 116 = .ok (.invokevirtual 100, 3) := by decide +kernel
theorem d_Mo_make_119 : decode b_Mo_make 119 = .ok (.lload 4, 2) := by decide +kernel
theorem d_Mo_make_121 : decode b_Mo_make 121 = .ok (.ladd, 1) := by decide +kernel
theorem d_Mo_make_122 : decode b_Mo_make 122 = .ok (.aload_n 0, 1) := by decide +kernel
theorem d_Mo_make_123 : decode b_Mo_make 123 = .ok (.getfield 33, 3) := by decide +kernel
theorem d_Mo_make_126 : decode b_Mo_make 126 = .ok (.i2l, 1) := by decide +kernel
theorem d_Mo_make_127 : decode b_Mo_make 127 = .ok (.lcmp, 1) := by decide +kernel
theorem d_Mo_make_128 : decode b_Mo_make 128 = .ok (.ifCond .le 7, 3) := by decide +kernel
theorem d_Mo_make_131 : decode b_Mo_make 131 = .ok (.iconst 1, 1) := by decide +kernel
theorem d_Mo_make_132 : decode b_Mo_make 132 = .ok (.goto 4, 3) := by decide +kernel
theorem d_Mo_make_135 : decode b_Mo_make 135 = .ok (.iconst 0, 1) := by decide +kernel
theorem d_Mo_make_136 : decode b_Mo_make 136 = .ok (.iconst 3, 1) := by decide +kernel
theorem d_Mo_make_137 : decode b_Mo_make 137 = .ok (.invokevirtual 96, 3) := by decide +kernel
theorem d_Mo_make_140 : decode b_Mo_make 140 = .ok (.ifCond .eq 5, 3) := by decide +kernel
theorem d_Mo_make_143 : decode b_Mo_make 143 = .ok (.iconst 0, 1) := by decide +kernel
theorem d_Mo_make_144 : decode b_Mo_make 144 = .ok (.ireturn, 1) := by decide +kernel
theorem d_Mo_make_145 : decode b_Mo_make 145 = .ok (.aload_n 0, 1) := by decide +kernel
theorem d_Mo_make_146 : decode b_Mo_make 146 = .ok (.dup, 1) := by decide +kernel
theorem d_Mo_make_147 : decode b_Mo_make 147 = .ok (.getfield 71, 3) := by decide +kernel
theorem d_Mo_make_150 : decode b_Mo_make 150 = .ok (.iconst 1, 1) := by decide +kernel
theorem d_Mo_make_151 : decode b_Mo_make 151 = .ok (.iadd, 1) := by decide +kernel
theorem d_Mo_make_152 : decode b_Mo_make 152 = .ok (.putfield 71, 3) := by decide +kernel
theorem d_Mo_make_155 : decode b_Mo_make 155 = .ok (.aload_n 0, 1) := by decide +kernel
theorem d_Mo_make_156 : decode b_Mo_make 156 = .ok (.getfield 23, 3) := by decide +kernel
theorem d_Mo_make_159 : decode b_Mo_make 159 = .ok (.aload_n 0, 1) := by decide +kernel
theorem d_Mo_make_160 : decode b_Mo_make 160 = .ok (.getfield 71, 3) := by decide +kernel
theorem d_Mo_make_163 : decode b_Mo_make 163 = .ok (.iload_n 2, 1) := by decide +kernel
theorem d_Mo_make_164 : decode b_Mo_make 164 = .ok (.iastore, 1) := by decide +kernel
theorem d_Mo_make_165 : decode b_Mo_make 165 = .ok (.aload_n 0, 1) := by decide +kernel
theorem d_Mo_make_166 : decode b_Mo_make 166 = .ok (.getfield 26, 3) := by decide +kernel
theorem d_Mo_make_169 : decode b_Mo_make 169 = .ok (.aload_n 0, 1) := by decide +kernel
theorem d_Mo_make_170 : decode b_Mo_make 170 = .ok (.getfield 71, 3) := by decide +kernel
theorem d_Mo_make_173 : decode b_Mo_make 173 = .ok (.iload_n 3, 1) := by decide +kernel
theorem d_Mo_make_174 : decode b_Mo_make 174 = .ok (.iastore, 1) := by decide +kernel
theorem d_Mo_make_175 : decode b_Mo_make 175 = .ok (.aload_n 0, 1) := by decide +kernel
theorem d_Mo_make_176 : decode b_Mo_make 176 = .ok (.getfield 47, 3) := by decide +kernel
theorem d_Mo_make_179 : decode b_Mo_make 179 = .ok (.iload_n 1, 1) := by decide +kernel
theorem d_Mo_make_180 : decode b_Mo_make 180 = .ok (.aload_n 0, 1) := by decide +kernel
theorem d_Mo_make_181 : decode b_Mo_make 181 = .ok (.getfield 71, 3) := by decide +kernel
theorem d_Mo_make_184 : decode b_Mo_make 184 = .ok (.iastore, 1) := by decide +kernel
theorem d_Mo_make_185 : decode b_Mo_make 185 = .ok (.aload_n 0, 1) := by decide +kernel
theorem d_Mo_make_186 : decode b_Mo_make 186 = .ok (.getfield 71, 3) := by decide +kernel
theorem d_Mo_make_189 : decode b_Mo_make 189 = .ok (.ireturn, 1) := by decide +kernel
theorem d_Mo_takes_0 : decode b_Mo_takes 0 = .ok (.iload_n 0, 1) := by decide +kernel
theorem d_Mo_takes_1 : decode b_Mo_takes 1 = .ok (.ifCond .ge 9, 3) := by decide +kernel
theorem d_Mo_takes_4 : decode b_Mo_takes 4 = .ok (.ldc2_w 62, 3) := by decide +kernel
theorem d_Mo_takes_7 : decode b_Mo_takes 7 = .ok (.lload_n 1, 1) := by decide +kernel
theorem d_Mo_takes_8 : decode b_Mo_takes 8 = .ok (.ladd, 1) := by decide +kernel
theorem d_Mo_takes_9 : decode b_Mo_takes 9 = .ok (.lreturn, 1) := by decide +kernel
theorem d_Mo_takes_10 : decode b_Mo_takes 10 = .ok (.ldc2_w 64, 3) := by decide +kernel
theorem d_Mo_takes_13 : decode b_Mo_takes 13 = .ok (.iload_n 0, 1) := by decide +kernel
theorem d_Mo_takes_14 : decode b_Mo_takes 14 = .ok (.iconst 4, 1) := by decide +kernel
theorem d_Mo_takes_15 : decode b_Mo_takes 15 = .ok (.if_icmp .ne 11, 3) := by decide +kernel
theorem d_Mo_takes_18 : decode b_Mo_takes 18 = .ok (.ldc2_w 66, 3) := by decide +kernel
theorem d_Mo_takes_21 : decode b_Mo_takes 21 = .ok (.lload_n 1, 1) := by decide +kernel
theorem d_Mo_takes_22 : decode b_Mo_takes 22 = .ok (.lmul, 1) := by decide +kernel
theorem d_Mo_takes_23 : decode b_Mo_takes 23 = .ok (.goto 36, 3) := by decide +kernel
theorem d_Mo_takes_26 : decode b_Mo_takes 26 = .ok (.iload_n 0, 1) := by decide +kernel
theorem d_Mo_takes_27 : decode b_Mo_takes 27 = .ok (.iconst 2, 1) := by decide +kernel
theorem d_Mo_takes_28 : decode b_Mo_takes 28 = .ok (.if_icmp .ne 13, 3) := by decide +kernel
theorem d_Mo_takes_31 : decode b_Mo_takes 31 = .ok (.lload_n 1, 1) := by decide +kernel
theorem d_Mo_takes_32 : decode b_Mo_takes 32 = .ok (.lconst 1, 1) := by decide +kernel
theorem d_Mo_takes_33 : decode b_Mo_takes 33 = .ok (.ladd, 1) := by decide +kernel
theorem d_Mo_takes_34 : decode b_Mo_takes 34 = .ok (.ldc2_w 66, 3) := by decide +kernel
theorem d_Mo_takes_37 : decode b_Mo_takes 37 = .ok (.ldiv, 1) := by decide +kernel
theorem d_Mo_takes_38 : decode b_Mo_takes 38 = .ok (.goto 21, 3) := by decide +kernel
theorem d_Mo_takes_41 : decode b_Mo_takes 41 = .ok (.iload_n 0, 1) := by decide +kernel
theorem d_Mo_takes_42 : decode b_Mo_takes 42 = .ok (.iconst 1, 1) := by decide +kernel
theorem d_Mo_takes_43 : decode b_Mo_takes 43 = .ok (.if_icmp .ne 15, 3) := by decide +kernel
theorem d_Mo_takes_46 : decode b_Mo_takes 46 = .ok (.lload_n 1, 1) := by decide +kernel
theorem d_Mo_takes_47 : decode b_Mo_takes 47 = .ok (.ldc2_w 62, 3) := by decide +kernel
theorem d_Mo_takes_50 : decode b_Mo_takes 50 = .ok (.ladd, 1) := by decide +kernel
theorem d_Mo_takes_51 : decode b_Mo_takes 51 = .ok (.ldc2_w 64, 3) := by decide +kernel
theorem d_Mo_takes_54 : decode b_Mo_takes 54 = .ok (.ldiv, 1) := by decide +kernel
theorem d_Mo_takes_55 : decode b_Mo_takes 55 = .ok (.goto 4, 3) := by decide +kernel
theorem d_Mo_takes_58 : decode b_Mo_takes 58 = .ok (.lload_n 1, 1) := by decide +kernel
theorem d_Mo_takes_59 : decode b_Mo_takes 59 = .ok (.ladd, 1) := by decide +kernel
theorem d_Mo_takes_60 : decode b_Mo_takes 60 = .ok (.lreturn, 1) := by decide +kernel
theorem d_Mo_reachable_0 : decode b_Mo_reachable 0 = .ok (.iconst 0, 1) := by decide +kernel
theorem d_Mo_reachable_1 : decode b_Mo_reachable 1 = .ok (.istore_n 1, 1) := by decide +kernel
theorem d_Mo_reachable_2 : decode b_Mo_reachable 2 = .ok (.lconst 0, 1) := by decide +kernel
theorem d_Mo_reachable_3 : decode b_Mo_reachable 3 = .ok (.lstore_n 2, 1) := by decide +kernel
theorem d_Mo_reachable_4 : decode b_Mo_reachable 4 = .ok (.iconst 1, 1) := by decide +kernel
theorem d_Mo_reachable_5 : decode b_Mo_reachable 5 = .ok (.istore 4, 2) := by decide +kernel
theorem d_Mo_reachable_7 : decode b_Mo_reachable 7 = .ok (.iload 4, 2) := by decide +kernel
theorem d_Mo_reachable_9 : decode b_Mo_reachable 9 = .ok (.aload_n 0, 1) := by decide +kernel
theorem d_Mo_reachable_10 : decode b_Mo_reachable 10 = .ok (.getfield 71, 3) := by decide +kernel
theorem d_Mo_reachable_13 : decode b_Mo_reachable 13 = .ok (.if_icmp .gt 17, 3) := by decide +kernel
theorem d_Mo_reachable_16 : decode b_Mo_reachable 16 = .ok (.aload_n 0, 1) := by decide +kernel
theorem d_Mo_reachable_17 : decode b_Mo_reachable 17 = .ok (.getfield 56, 3) := by decide +kernel
theorem d_Mo_reachable_20 : decode b_Mo_reachable 20 = .ok (.iload 4, 2) := by decide +kernel
theorem d_Mo_reachable_22 : decode b_Mo_reachable 22 = .ok (.iconst 0, 1) := by decide +kernel
theorem d_Mo_reachable_23 : decode b_Mo_reachable 23 = .ok (.bastore, 1) := by decide +kernel
theorem d_Mo_reachable_24 : decode b_Mo_reachable 24 = .ok (.iinc 4 1, 3) := by decide +kernel
theorem d_Mo_reachable_27 : decode b_Mo_reachable 27 = .ok (.goto (-20), 3) := by decide +kernel
theorem d_Mo_reachable_30 : decode b_Mo_reachable 30 = .ok (.iconst 0, 1) := by decide +kernel
theorem d_Mo_reachable_31 : decode b_Mo_reachable 31 = .ok (.istore 4, 2) := by decide +kernel
theorem d_Mo_reachable_33 : decode b_Mo_reachable 33 = .ok (.iload 4, 2) := by decide +kernel
theorem d_Mo_reachable_35 : decode b_Mo_reachable 35 = .ok (.bipush 32, 2) := by decide +kernel
theorem d_Mo_reachable_37 : decode b_Mo_reachable 37 = .ok (.if_icmp .ge 63, 3) := by decide +kernel
theorem d_Mo_reachable_40 : decode b_Mo_reachable 40 = .ok (.aload_n 0, 1) := by decide +kernel
theorem d_Mo_reachable_41 : decode b_Mo_reachable 41 = .ok (.getfield 47, 3) := by decide +kernel
theorem d_Mo_reachable_44 : decode b_Mo_reachable 44 = .ok (.iload 4, 2) := by decide +kernel
theorem d_Mo_reachable_46 : decode b_Mo_reachable 46 = .ok (.iaload, 1) := by decide +kernel
theorem d_Mo_reachable_47 : decode b_Mo_reachable 47 = .ok (.ifCond .eq 47, 3) := by decide +kernel
theorem d_Mo_reachable_50 : decode b_Mo_reachable 50 = .ok (.aload_n 0, 1) := by decide +kernel
theorem d_Mo_reachable_51 : decode b_Mo_reachable 51 = .ok (.getfield 56, 3) := by decide +kernel
theorem d_Mo_reachable_54 : decode b_Mo_reachable 54 = .ok (.aload_n 0, 1) := by decide +kernel
theorem d_Mo_reachable_55 : decode b_Mo_reachable 55 = .ok (.getfield 47, 3) := by decide +kernel
theorem d_Mo_reachable_58 : decode b_Mo_reachable 58 = .ok (.iload 4, 2) := by decide +kernel
theorem d_Mo_reachable_60 : decode b_Mo_reachable 60 = .ok (.iaload, 1) := by decide +kernel
theorem d_Mo_reachable_61 : decode b_Mo_reachable 61 = .ok (.baload, 1) := by decide +kernel
theorem d_Mo_reachable_62 : decode b_Mo_reachable 62 = .ok (.ifCond .ne 32, 3) := by decide +kernel
theorem d_Mo_reachable_65 : decode b_Mo_reachable 65 = .ok (.aload_n 0, 1) := by decide +kernel
theorem d_Mo_reachable_66 : decode b_Mo_reachable 66 = .ok (.getfield 56, 3) := by decide +kernel
theorem d_Mo_reachable_69 : decode b_Mo_reachable 69 = .ok (.aload_n 0, 1) := by decide +kernel
theorem d_Mo_reachable_70 : decode b_Mo_reachable 70 = .ok (.getfield 47, 3) := by decide +kernel
theorem d_Mo_reachable_73 : decode b_Mo_reachable 73 = .ok (.iload 4, 2) := by decide +kernel
theorem d_Mo_reachable_75 : decode b_Mo_reachable 75 = .ok (.iaload, 1) := by decide +kernel
theorem d_Mo_reachable_76 : decode b_Mo_reachable 76 = .ok (.iconst 1, 1) := by decide +kernel
theorem d_Mo_reachable_77 : decode b_Mo_reachable 77 = .ok (.bastore, 1) := by decide +kernel
theorem d_Mo_reachable_78 : decode b_Mo_reachable 78 = .ok (.aload_n 0, 1) := by decide +kernel
theorem d_Mo_reachable_79 : decode b_Mo_reachable 79 = .ok (.getfield 53, 3) := by decide +kernel
theorem d_Mo_reachable_82 : decode b_Mo_reachable 82 = .ok (.iload_n 1, 1) := by decide +kernel
theorem d_Mo_reachable_83 : decode b_Mo_reachable 83 = .ok (.iinc 1 1, 3) := by decide +kernel
theorem d_Mo_reachable_86 : decode b_Mo_reachable 86 = .ok (.aload_n 0, 1) := by decide +kernel
theorem d_Mo_reachable_87 : decode b_Mo_reachable 87 = .ok (.getfield 47, 3) := by decide +kernel
theorem d_Mo_reachable_90 : decode b_Mo_reachable 90 = .ok (.iload 4, 2) := by decide +kernel
theorem d_Mo_reachable_92 : decode b_Mo_reachable 92 = .ok (.iaload, 1) := by decide +kernel
theorem d_Mo_reachable_93 : decode b_Mo_reachable 93 = .ok (.iastore, 1) := by decide +kernel
theorem d_Mo_reachable_94 : decode b_Mo_reachable 94 = .ok (.iinc 4 1, 3) := by decide +kernel
theorem d_Mo_reachable_97 : decode b_Mo_reachable 97 = .ok (.goto (-64), 3) := by decide +kernel
theorem d_Mo_reachable_100 : decode b_Mo_reachable 100 = .ok (.iconst 0, 1) := by decide +kernel
theorem d_Mo_reachable_101 : decode b_Mo_reachable 101 = .ok (.istore 4, 2) := by decide +kernel
theorem d_Mo_reachable_103 : decode b_Mo_reachable 103 = .ok (.iload 4, 2) := by decide +kernel
theorem d_Mo_reachable_105 : decode b_Mo_reachable 105 = .ok (.aload_n 0, 1) := by decide +kernel
theorem d_Mo_reachable_106 : decode b_Mo_reachable 106 = .ok (.getfield 74, 3) := by decide +kernel
theorem d_Mo_reachable_109 : decode b_Mo_reachable 109 = .ok (.if_icmp .ge 53, 3) := by decide +kernel
theorem d_Mo_reachable_112 : decode b_Mo_reachable 112 = .ok (.aload_n 0, 1) := by decide +kernel
theorem d_Mo_reachable_113 : decode b_Mo_reachable 113 = .ok (.getfield 56, 3) := by decide +kernel
theorem d_Mo_reachable_116 : decode b_Mo_reachable 116 = .ok (.aload_n 0, 1) := by decide +kernel
theorem d_Mo_reachable_117 : decode b_Mo_reachable 117 = .ok (.getfield 50, 3) := by decide +kernel
theorem d_Mo_reachable_120 : decode b_Mo_reachable 120 = .ok (.iload 4, 2) := by decide +kernel
theorem d_Mo_reachable_122 : decode b_Mo_reachable 122 = .ok (.iaload, 1) := by decide +kernel
theorem d_Mo_reachable_123 : decode b_Mo_reachable 123 = .ok (.baload, 1) := by decide +kernel
theorem d_Mo_reachable_124 : decode b_Mo_reachable 124 = .ok (.ifCond .ne 32, 3) := by decide +kernel
theorem d_Mo_reachable_127 : decode b_Mo_reachable 127 = .ok (.aload_n 0, 1) := by decide +kernel
theorem d_Mo_reachable_128 : decode b_Mo_reachable 128 = .ok (.getfield 56, 3) := by decide +kernel
theorem d_Mo_reachable_131 : decode b_Mo_reachable 131 = .ok (.aload_n 0, 1) := by decide +kernel
theorem d_Mo_reachable_132 : decode b_Mo_reachable 132 = .ok (.getfield 50, 3) := by decide +kernel
theorem d_Mo_reachable_135 : decode b_Mo_reachable 135 = .ok (.iload 4, 2) := by decide +kernel
theorem d_Mo_reachable_137 : decode b_Mo_reachable 137 = .ok (.iaload, 1) := by decide +kernel
theorem d_Mo_reachable_138 : decode b_Mo_reachable 138 = .ok (.iconst 1, 1) := by decide +kernel
theorem d_Mo_reachable_139 : decode b_Mo_reachable 139 = .ok (.bastore, 1) := by decide +kernel
theorem d_Mo_reachable_140 : decode b_Mo_reachable 140 = .ok (.aload_n 0, 1) := by decide +kernel
theorem d_Mo_reachable_141 : decode b_Mo_reachable 141 = .ok (.getfield 53, 3) := by decide +kernel
theorem d_Mo_reachable_144 : decode b_Mo_reachable 144 = .ok (.iload_n 1, 1) := by decide +kernel
theorem d_Mo_reachable_145 : decode b_Mo_reachable 145 = .ok (.iinc 1 1, 3) := by decide +kernel
theorem d_Mo_reachable_148 : decode b_Mo_reachable 148 = .ok (.aload_n 0, 1) := by decide +kernel
theorem d_Mo_reachable_149 : decode b_Mo_reachable 149 = .ok (.getfield 50, 3) := by decide +kernel
theorem d_Mo_reachable_152 : decode b_Mo_reachable 152 = .ok (.iload 4, 2) := by decide +kernel
theorem d_Mo_reachable_154 : decode b_Mo_reachable 154 = .ok (.iaload, 1) := by decide +kernel
theorem d_Mo_reachable_155 : decode b_Mo_reachable 155 = .ok (.iastore, 1) := by decide +kernel
theorem d_Mo_reachable_156 : decode b_Mo_reachable 156 = .ok (.iinc 4 1, 3) := by decide +kernel
theorem d_Mo_reachable_159 : decode b_Mo_reachable 159 = .ok (.goto (-56), 3) := by decide +kernel
theorem d_Mo_reachable_162 : decode b_Mo_reachable 162 = .ok (.iload_n 1, 1) := by decide +kernel
theorem d_Mo_reachable_163 : decode b_Mo_reachable 163 = .ok (.ifCond .le 141, 3) := by decide +kernel
theorem d_Mo_reachable_166 : decode b_Mo_reachable 166 = .ok (.aload_n 0, 1) := by decide +kernel
theorem d_Mo_reachable_167 : decode b_Mo_reachable 167 = .ok (.getfield 53, 3) := by decide +kernel
theorem d_Mo_reachable_170 : decode b_Mo_reachable 170 = .ok (.iinc 1 (-1), 3) := by decide +kernel
theorem d_Mo_reachable_173 : decode b_Mo_reachable 173 = .ok (.iload_n 1, 1) := by decide +kernel
theorem d_Mo_reachable_174 : decode b_Mo_reachable 174 = .ok (.iaload, 1) := by decide +kernel
theorem d_Mo_reachable_175 : decode b_Mo_reachable 175 = .ok (.istore 4, 2) := by decide +kernel
theorem d_Mo_reachable_177 : decode b_Mo_reachable 177 = .ok (.lload_n 2, 1) := by decide +kernel
theorem d_Mo_reachable_178 : decode b_Mo_reachable 178 = .ok (.aload_n 0, 1) := by decide +kernel
theorem d_Mo_reachable_179 : decode b_Mo_reachable 179 = .ok (.getfield 16, 3) := by decide +kernel
theorem d_Mo_reachable_182 : decode b_Mo_reachable 182 = .ok (.aload_n 0, 1) := by decide +kernel
theorem d_Mo_reachable_183 : decode b_Mo_reachable 183 = .ok (.getfield 23, 3) := by decide +kernel
theorem d_Mo_reachable_186 : decode b_Mo_reachable 186 = .ok (.iload 4, 2) := by decide +kernel
theorem d_Mo_reachable_188 : decode b_Mo_reachable 188 = .ok (.iaload, 1) := by decide +kernel
theorem d_Mo_reachable_189 : decode b_Mo_reachable 189 = .ok (.iaload, 1) := by decide +kernel
theorem d_Mo_reachable_190 : decode b_Mo_reachable 190 = .ok (.aload_n 0, 1) := by decide +kernel
theorem d_Mo_reachable_191 : decode b_Mo_reachable 191 = .ok (.iload 4, 2) := by decide +kernel
theorem d_Mo_reachable_193 : decode b_Mo_reachable 193 = .ok (.invokevirtual 77, 3) := by decide +kernel
theorem d_Mo_reachable_196 : decode b_Mo_reachable 196 = .ok (.i2l, 1) := by decide +kernel
theorem d_Mo_reachable_197 : decode b_Mo_reachable 197 = .ok (.invokestatic 81, 3) := by decide +kernel
theorem d_Mo_reachable_200 : decode b_Mo_reachable 200 = .ok (.ladd, 1) := by decide +kernel
theorem d_Mo_reachable_201 : decode b_Mo_reachable 201 = .ok (.lstore_n 2, 1) := by decide +kernel
theorem d_Mo_reachable_202 : decode b_Mo_reachable 202 = .ok (.iconst 0, 1) := by decide +kernel
theorem d_Mo_reachable_203 : decode b_Mo_reachable 203 = .ok (.istore 5, 2) := by decide +kernel
theorem d_Mo_reachable_205 : decode b_Mo_reachable 205 = .ok (.iload 5, 2) := by decide +kernel
theorem d_Mo_reachable_207 : decode b_Mo_reachable 207 = .ok (.aload_n 0, 1) := by decide +kernel
theorem d_Mo_reachable_208 : decode b_Mo_reachable 208 = .ok (.getfield 68, 3) := by decide +kernel
theorem d_Mo_reachable_211 : decode b_Mo_reachable 211 = .ok (.if_icmp .ge 90, 3) := by decide +kernel
theorem d_Mo_reachable_214 : decode b_Mo_reachable 214 = .ok (.aload_n 0, 1) := by decide +kernel
theorem d_Mo_reachable_215 : decode b_Mo_reachable 215 = .ok (.getfield 37, 3) := by decide +kernel
theorem d_Mo_reachable_218 : decode b_Mo_reachable 218 = .ok (.iload 5, 2) := by decide +kernel
theorem d_Mo_reachable_220 : decode b_Mo_reachable 220 = .ok (.iaload, 1) := by decide +kernel
theorem d_Mo_reachable_221 : decode b_Mo_reachable 221 = .ok (.iload 4, 2) := by decide +kernel
theorem d_Mo_reachable_223 : decode b_Mo_reachable 223 = .ok (.if_icmp .ne 72, 3) := by decide +kernel
theorem d_Mo_reachable_226 : decode b_Mo_reachable 226 = .ok (.aload_n 0, 1) := by decide +kernel
theorem d_Mo_reachable_227 : decode b_Mo_reachable 227 = .ok (.iload 4, 2) := by decide +kernel
theorem d_Mo_reachable_229 : decode b_Mo_reachable 229 = .ok (.aload_n 0, 1) := by decide +kernel
theorem d_Mo_reachable_230 : decode b_Mo_reachable 230 = .ok (.getfield 40, 3) := by decide +kernel
theorem d_Mo_reachable_233 : decode b_Mo_reachable 233 = .ok (.iload 5, 2) := by decide +kernel
theorem d_Mo_reachable_235 : decode b_Mo_reachable 235 = .ok (.iaload, 1) := by decide +kernel
theorem d_Mo_reachable_236 : decode b_Mo_reachable 236 = .ok (.invokevirtual 85, 3) := by decide +kernel
theorem d_Mo_reachable_239 : decode b_Mo_reachable 239 = .ok (.ifCond .ne 6, 3) := by decide +kernel
theorem d_Mo_reachable_242 : decode b_Mo_reachable 242 = .ok (.goto 53, 3) := by decide +kernel
theorem d_Mo_reachable_245 : decode b_Mo_reachable 245 = .ok (.aload_n 0, 1) := by decide +kernel
theorem d_Mo_reachable_246 : decode b_Mo_reachable 246 = .ok (.iload 4, 2) := by decide +kernel
theorem d_Mo_reachable_248 : decode b_Mo_reachable 248 = .ok (.aload_n 0, 1) := by decide +kernel
theorem d_Mo_reachable_249 : decode b_Mo_reachable 249 = .ok (.getfield 40, 3) := by decide +kernel
theorem d_Mo_reachable_252 : decode b_Mo_reachable 252 = .ok (.iload 5, 2) := by decide +kernel
theorem d_Mo_reachable_254 : decode b_Mo_reachable 254 = .ok (.iaload, 1) := by decide +kernel
theorem d_Mo_reachable_255 : decode b_Mo_reachable 255 = .ok (.invokevirtual 89, 3) := by decide +kernel
theorem d_Mo_reachable_258 : decode b_Mo_reachable 258 = .ok (.l2i, 1) := by decide +kernel
theorem d_Mo_reachable_259 : decode b_Mo_reachable 259 = .ok (.istore 6, 2) := by decide +kernel
theorem d_Mo_reachable_261 : decode b_Mo_reachable 261 = .ok (.iload 6, 2) := by decide +kernel
theorem d_Mo_reachable_263 : decode b_Mo_reachable 263 = .ok (.ifCond .eq 32, 3) := by decide +kernel
theorem d_Mo_reachable_266 : decode b_Mo_reachable 266 = .ok (.aload_n 0, 1) := by decide +kernel
theorem d_Mo_reachable_267 : decode b_Mo_reachable 267 = .ok (.getfield 56, 3) := by decide +kernel
theorem d_Mo_reachable_270 : decode b_Mo_reachable 270 = .ok (.iload 6, 2) := by decide +kernel
theorem d_Mo_reachable_272 : decode b_Mo_reachable 272 = .ok (.baload, 1) := by decide +kernel
theorem d_Mo_reachable_273 : decode b_Mo_reachable 273 = .ok (.ifCond .ne 22, 3) := by decide +kernel
theorem d_Mo_reachable_276 : decode b_Mo_reachable 276 = .ok (.aload_n 0, 1) := by decide +kernel
theorem d_Mo_reachable_277 : decode b_Mo_reachable 277 = .ok (.getfield 56, 3) := by decide +kernel
theorem d_Mo_reachable_280 : decode b_Mo_reachable 280 = .ok (.iload 6, 2) := by decide +kernel
theorem d_Mo_reachable_282 : decode b_Mo_reachable 282 = .ok (.iconst 1, 1) := by decide +kernel
theorem d_Mo_reachable_283 : decode b_Mo_reachable 283 = .ok (.bastore, 1) := by decide +kernel
theorem d_Mo_reachable_284 : decode b_Mo_reachable 284 = .ok (.aload_n 0, 1) := by decide +kernel
theorem d_Mo_reachable_285 : decode b_Mo_reachable 285 = .ok (.getfield 53, 3) := by decide +kernel
theorem d_Mo_reachable_288 : decode b_Mo_reachable 288 = .ok (.iload_n 1, 1) := by decide +kernel
theorem d_Mo_reachable_289 : decode b_Mo_reachable 289 = .ok (.iinc 1 1, 3) := by decide +kernel
theorem d_Mo_reachable_292 : decode b_Mo_reachable 292 = .ok (.iload 6, 2) := by decide +kernel
theorem d_Mo_reachable_294 : decode b_Mo_reachable 294 = .ok (.iastore, 1) := by decide +kernel
theorem d_Mo_reachable_295 : decode b_Mo_reachable 295 = .ok (.iinc 5 1, 3) := by decide +kernel
theorem d_Mo_reachable_298 : decode b_Mo_reachable 298 = .ok (.goto (-93), 3) := by decide +kernel
theorem d_Mo_reachable_301 : decode b_Mo_reachable 301 = .ok (.goto (-139), 3) := by decide +kernel
theorem d_Mo_reachable_304 : decode b_Mo_reachable 304 = .ok (.lload_n 2, 1) := by decide +kernel
theorem d_Mo_reachable_305 : decode b_Mo_reachable 305 = .ok (.lreturn, 1) := by decide +kernel
theorem d_Mo_many_0 : decode b_Mo_many 0 = .ok (.aload_n 0, 1) := by decide +kernel
theorem d_Mo_many_1 : decode b_Mo_many 1 = .ok (.getfield 16, 3) := by decide +kernel
theorem d_Mo_many_4 : decode b_Mo_many 4 = .ok (.aload_n 0, 1) := by decide +kernel
theorem d_Mo_many_5 : decode b_Mo_many 5 = .ok (.getfield 23, 3) := by decide +kernel
theorem d_Mo_many_8 : decode b_Mo_many 8 = .ok (.iload_n 1, 1) := by decide +kernel
theorem d_Mo_many_9 : decode b_Mo_many 9 = .ok (.iaload, 1) := by decide +kernel
theorem d_Mo_many_10 : decode b_Mo_many 10 = .ok (.iaload, 1) := by decide +kernel
theorem d_Mo_many_11 : decode b_Mo_many 11 = .ok (.ifCond .ge 17, 3) := by decide +kernel
theorem d_Mo_many_14 : decode b_Mo_many 14 = .ok (.aload_n 0, 1) := by decide +kernel
theorem d_Mo_many_15 : decode b_Mo_many 15 = .ok (.getfield 7, 3) := by decide +kernel
theorem d_Mo_many_18 : decode b_Mo_many 18 = .ok (.aload_n 0, 1) := by decide +kernel
theorem d_Mo_many_19 : decode b_Mo_many 19 = .ok (.getfield 23, 3) := by decide +kernel
theorem d_Mo_many_22 : decode b_Mo_many 22 = .ok (.iload_n 1, 1) := by decide +kernel
theorem d_Mo_many_23 : decode b_Mo_many 23 = .ok (.iaload, 1) := by decide +kernel
theorem d_Mo_many_24 : decode b_Mo_many 24 = .ok (.iaload, 1) := by decide +kernel
theorem d_Mo_many_25 : decode b_Mo_many 25 = .ok (.goto 9, 3) := by decide +kernel
theorem d_Mo_many_28 : decode b_Mo_many 28 = .ok (.aload_n 0, 1) := by decide +kernel
theorem d_Mo_many_29 : decode b_Mo_many 29 = .ok (.getfield 26, 3) := by decide +kernel
theorem d_Mo_many_32 : decode b_Mo_many 32 = .ok (.iload_n 1, 1) := by decide +kernel
theorem d_Mo_many_33 : decode b_Mo_many 33 = .ok (.iaload, 1) := by decide +kernel
theorem d_Mo_many_34 : decode b_Mo_many 34 = .ok (.ireturn, 1) := by decide +kernel
theorem d_Mo_isReference_0 : decode b_Mo_isReference 0 = .ok (.aload_n 0, 1) := by decide +kernel
theorem d_Mo_isReference_1 : decode b_Mo_isReference 1 = .ok (.getfield 16, 3) := by decide +kernel
theorem d_Mo_isReference_4 : decode b_Mo_isReference 4 = .ok (.aload_n 0, 1) := by decide +kernel
theorem d_Mo_isReference_5 : decode b_Mo_isReference 5 = .ok (.getfield 23, 3) := by decide +kernel
theorem d_Mo_isReference_8 : decode b_Mo_isReference 8 = .ok (.iload_n 1, 1) := by decide +kernel
theorem d_Mo_isReference_9 : decode b_Mo_isReference 9 = .ok (.iaload, 1) := by decide +kernel
theorem d_Mo_isReference_10 : decode b_Mo_isReference 10 = .ok (.iaload, 1) := by decide +kernel
theorem d_Mo_isReference_11 : decode b_Mo_isReference 11 = .ok (.ifCond .ge 30, 3) := by decide +kernel
theorem d_Mo_isReference_14 : decode b_Mo_isReference 14 = .ok (.aload_n 0, 1) := by decide +kernel
theorem d_Mo_isReference_15 : decode b_Mo_isReference 15 = .ok (.getfield 13, 3) := by decide +kernel
theorem d_Mo_isReference_18 : decode b_Mo_isReference 18 = .ok (.aload_n 0, 1) := by decide +kernel
theorem d_Mo_isReference_19 : decode b_Mo_isReference 19 = .ok (.getfield 23, 3) := by decide +kernel
theorem d_Mo_isReference_22 : decode b_Mo_isReference 22 = .ok (.iload_n 1, 1) := by decide +kernel
theorem d_Mo_isReference_23 : decode b_Mo_isReference 23 = .ok (.iaload, 1) := by decide +kernel
theorem d_Mo_isReference_24 : decode b_Mo_isReference 24 = .ok (.iaload, 1) := by decide +kernel
theorem d_Mo_isReference_25 : decode b_Mo_isReference 25 = .ok (.iload_n 2, 1) := by decide +kernel
theorem d_Mo_isReference_26 : decode b_Mo_isReference 26 = .ok (.ishr, 1) := by decide +kernel
theorem d_Mo_isReference_27 : decode b_Mo_isReference 27 = .ok (.iconst 1, 1) := by decide +kernel
theorem d_Mo_isReference_28 : decode b_Mo_isReference 28 = .ok (.iand, 1) := by decide +kernel
theorem d_Mo_isReference_29 : decode b_Mo_isReference 29 = .ok (.iconst 1, 1) := by decide +kernel
theorem d_Mo_isReference_30 : decode b_Mo_isReference 30 = .ok (.if_icmp .ne 7, 3) := by decide +kernel
theorem d_Mo_isReference_33 : decode b_Mo_isReference 33 = .ok (.iconst 1, 1) := by decide +kernel
theorem d_Mo_isReference_34 : decode b_Mo_isReference 34 = .ok (.goto 26, 3) := by decide +kernel
theorem d_Mo_isReference_37 : decode b_Mo_isReference 37 = .ok (.iconst 0, 1) := by decide +kernel
theorem d_Mo_isReference_38 : decode b_Mo_isReference 38 = .ok (.goto 22, 3) := by decide +kernel
theorem d_Mo_isReference_41 : decode b_Mo_isReference 41 = .ok (.aload_n 0, 1) := by decide +kernel
theorem d_Mo_isReference_42 : decode b_Mo_isReference 42 = .ok (.getfield 16, 3) := by decide +kernel
theorem d_Mo_isReference_45 : decode b_Mo_isReference 45 = .ok (.aload_n 0, 1) := by decide +kernel
theorem d_Mo_isReference_46 : decode b_Mo_isReference 46 = .ok (.getfield 23, 3) := by decide +kernel
theorem d_Mo_isReference_49 : decode b_Mo_isReference 49 = .ok (.iload_n 1, 1) := by decide +kernel
theorem d_Mo_isReference_50 : decode b_Mo_isReference 50 = .ok (.iaload, 1) := by decide +kernel
theorem d_Mo_isReference_51 : decode b_Mo_isReference 51 = .ok (.iaload, 1) := by decide +kernel
theorem d_Mo_isReference_52 : decode b_Mo_isReference 52 = .ok (.ifCond .ne 7, 3) := by decide +kernel
theorem d_Mo_isReference_55 : decode b_Mo_isReference 55 = .ok (.iconst 1, 1) := by decide +kernel
theorem d_Mo_isReference_56 : decode b_Mo_isReference 56 = .ok (.goto 4, 3) := by decide +kernel
theorem d_Mo_isReference_59 : decode b_Mo_isReference 59 = .ok (.iconst 0, 1) := by decide +kernel
theorem d_Mo_isReference_60 : decode b_Mo_isReference 60 = .ok (.ireturn, 1) := by decide +kernel
theorem d_Mo_latest_0 : decode b_Mo_latest 0 = .ok (.aload_n 0, 1) := by decide +kernel
theorem d_Mo_latest_1 : decode b_Mo_latest 1 = .ok (.getfield 68, 3) := by decide +kernel
theorem d_Mo_latest_4 : decode b_Mo_latest 4 = .ok (.iconst 1, 1) := by decide +kernel
theorem d_Mo_latest_5 : decode b_Mo_latest 5 = .ok (.isub, 1) := by decide +kernel
theorem d_Mo_latest_6 : decode b_Mo_latest 6 = .ok (.istore_n 3, 1) := by decide +kernel
theorem d_Mo_latest_7 : decode b_Mo_latest 7 = .ok (.iload_n 3, 1) := by decide +kernel
theorem d_Mo_latest_8 : decode b_Mo_latest 8 = .ok (.ifCond .lt 36, 3) := by decide +kernel
theorem d_Mo_latest_11 : decode b_Mo_latest 11 = .ok (.aload_n 0, 1) := by decide +kernel
theorem d_Mo_latest_12 : decode b_Mo_latest 12 = .ok (.getfield 37, 3) := by decide +kernel
theorem d_Mo_latest_15 : decode b_Mo_latest 15 = .ok (.iload_n 3, 1) := by decide +kernel
theorem d_Mo_latest_16 : decode b_Mo_latest 16 = .ok (.iaload, 1) := by decide +kernel
theorem d_Mo_latest_17 : decode b_Mo_latest 17 = .ok (.iload_n 1, 1) := by decide +kernel
theorem d_Mo_latest_18 : decode b_Mo_latest 18 = .ok (.if_icmp .ne 20, 3) := by decide +kernel
theorem d_Mo_latest_21 : decode b_Mo_latest 21 = .ok (.aload_n 0, 1) := by decide +kernel
theorem d_Mo_latest_22 : decode b_Mo_latest 22 = .ok (.getfield 40, 3) := by decide +kernel
theorem d_Mo_latest_25 : decode b_Mo_latest 25 = .ok (.iload_n 3, 1) := by decide +kernel
theorem d_Mo_latest_26 : decode b_Mo_latest 26 = .ok (.iaload, 1) := by decide +kernel
theorem d_Mo_latest_27 : decode b_Mo_latest 27 = .ok (.iload_n 2, 1) := by decide +kernel
theorem d_Mo_latest_28 : decode b_Mo_latest 28 = .ok (.if_icmp .ne 10, 3) := by decide +kernel
theorem d_Mo_latest_31 : decode b_Mo_latest 31 = .ok (.aload_n 0, 1) := by decide +kernel
theorem d_Mo_latest_32 : decode b_Mo_latest 32 = .ok (.getfield 43, 3) := by decide +kernel
theorem d_Mo_latest_35 : decode b_Mo_latest 35 = .ok (.iload_n 3, 1) := by decide +kernel
theorem d_Mo_latest_36 : decode b_Mo_latest 36 = .ok (.laload, 1) := by decide +kernel
theorem d_Mo_latest_37 : decode b_Mo_latest 37 = .ok (.lreturn, 1) := by decide +kernel
theorem d_Mo_latest_38 : decode b_Mo_latest 38 = .ok (.iinc 3 (-1), 3) := by decide +kernel
theorem d_Mo_latest_41 : decode b_Mo_latest 41 = .ok (.goto (-34), 3) := by decide +kernel
theorem d_Mo_latest_44 : decode b_Mo_latest 44 = .ok (.lconst 0, 1) := by decide +kernel
theorem d_Mo_latest_45 : decode b_Mo_latest 45 = .ok (.lreturn, 1) := by decide +kernel
theorem d_Mo_copy_0 : decode b_Mo_copy 0 = .ok (.aload_n 0, 1) := by decide +kernel
theorem d_Mo_copy_1 : decode b_Mo_copy 1 = .ok (.iconst 0, 1) := by decide +kernel
theorem d_Mo_copy_2 : decode b_Mo_copy 2 = .ok (.putfield 59, 3) := by decide +kernel
theorem d_Mo_copy_5 : decode b_Mo_copy 5 = .ok (.aload_n 0, 1) := by decide +kernel
theorem d_Mo_copy_6 : decode b_Mo_copy 6 = .ok (.iload_n 1, 1) := by decide +kernel
theorem d_Mo_copy_7 : decode b_Mo_copy 7 = .ok (.bipush 31, 2) := by decide +kernel
theorem d_Mo_copy_9 : decode b_Mo_copy 9 = .ok (.invokestatic 93, 3) := by decide +kernel
theorem d_Mo_copy_12 : decode b_Mo_copy 12 = .ok (.ifCond .eq 12, 3) := by decide +kernel
theorem d_Mo_copy_15 : decode b_Mo_copy 15 = .ok (.iload_n 2, 1) := by decide +kernel
theorem d_Mo_copy_16 : decode b_Mo_copy 16 = .ok (.bipush 31, 2) := by decide +kernel
theorem d_Mo_copy_18 : decode b_Mo_copy 18 = .ok (.invokestatic 93, 3) := by decide +kernel
theorem d_Mo_copy_21 : decode b_Mo_copy 21 = .ok (.ifCond .ne 7, 3) := by decide +kernel
theorem d_Mo_copy_24 : decode b_Mo_copy 24 = .ok (.iconst 1, 1) := by decide +kernel
theorem d_Mo_copy_25 : decode b_Mo_copy 25 = .ok (.goto 4, 3) := by decide +kernel
theorem d_Mo_copy_28 : decode b_Mo_copy 28 = .ok (.iconst 0, 1) := by decide +kernel
theorem d_Mo_copy_29 : decode b_Mo_copy 29 = .ok (.iconst 1, 1) := by decide +kernel
theorem d_Mo_copy_30 : decode b_Mo_copy 30 = .ok (.invokevirtual 96, 3) := by decide +kernel
theorem d_Mo_copy_33 : decode b_Mo_copy 33 = .ok (.ifCond .eq 5, 3) := by decide +kernel
theorem d_Mo_copy_36 : decode b_Mo_copy 36 = .ok (.iconst 0, 1) := by decide +kernel
theorem d_Mo_copy_37 : decode b_Mo_copy 37 = .ok (.ireturn, 1) := by decide +kernel
theorem d_Mo_copy_38 : decode b_Mo_copy 38 = .ok (.aload_n 0, 1) := by decide +kernel
theorem d_Mo_copy_39 : decode b_Mo_copy 39 = .ok (.getfield 47, 3) := by decide +kernel
theorem d_Mo_copy_42 : decode b_Mo_copy 42 = .ok (.iload_n 1, 1) := by decide +kernel
theorem d_Mo_copy_43 : decode b_Mo_copy 43 = .ok (.aload_n 0, 1) := by decide +kernel
theorem d_Mo_copy_44 : decode b_Mo_copy 44 = .ok (.getfield 47, 3) := by decide +kernel
theorem d_Mo_copy_47 : decode b_Mo_copy 47 = .ok (.iload_n 2, 1) := by decide +kernel
theorem d_Mo_copy_48 : decode b_Mo_copy 48 = .ok (.iaload, 1) := by decide +kernel
theorem d_Mo_copy_49 : decode b_Mo_copy 49 = .ok (.iastore, 1) := by decide +kernel
theorem d_Mo_copy_50 : decode b_Mo_copy 50 = .ok (.aload_n 0, 1) := by decide +kernel
theorem d_Mo_copy_51 : decode b_Mo_copy 51 = .ok (.getfield 47, 3) := by decide +kernel
theorem d_Mo_copy_54 : decode b_Mo_copy 54 = .ok (.iload_n 1, 1) := by decide +kernel
theorem d_Mo_copy_55 : decode b_Mo_copy 55 = .ok (.iaload, 1) := by decide +kernel
theorem d_Mo_copy_56 : decode b_Mo_copy 56 = .ok (.ifCond .eq 7, 3) := by decide +kernel
theorem d_Mo_copy_59 : decode b_Mo_copy 59 = .ok (.iconst 1, 1) := by decide +kernel
theorem d_Mo_copy_60 : decode b_Mo_copy 60 = .ok (.goto 4, 3) := by decide +kernel
theorem d_Mo_copy_63 : decode b_Mo_copy 63 = .ok (.iconst 0, 1) := by decide +kernel
theorem d_Mo_copy_64 : decode b_Mo_copy 64 = .ok (.ireturn, 1) := by decide +kernel
theorem d_Mo_drop_0 : decode b_Mo_drop 0 = .ok (.aload_n 0, 1) := by decide +kernel
theorem d_Mo_drop_1 : decode b_Mo_drop 1 = .ok (.iconst 0, 1) := by decide +kernel
theorem d_Mo_drop_2 : decode b_Mo_drop 2 = .ok (.putfield 59, 3) := by decide +kernel
theorem d_Mo_drop_5 : decode b_Mo_drop 5 = .ok (.aload_n 0, 1) := by decide +kernel
theorem d_Mo_drop_6 : decode b_Mo_drop 6 = .ok (.iload_n 1, 1) := by decide +kernel
theorem d_Mo_drop_7 : decode b_Mo_drop 7 = .ok (.bipush 31, 2) := by decide +kernel
theorem d_Mo_drop_9 : decode b_Mo_drop 9 = .ok (.invokestatic 93, 3) := by decide +kernel
theorem d_Mo_drop_12 : decode b_Mo_drop 12 = .ok (.ifCond .ne 7, 3) := by decide +kernel
theorem d_Mo_drop_15 : decode b_Mo_drop 15 = .ok (.iconst 1, 1) := by decide +kernel
theorem d_Mo_drop_16 : decode b_Mo_drop 16 = .ok (.goto 4, 3) := by decide +kernel
theorem d_Mo_drop_19 : decode b_Mo_drop 19 = .ok (.iconst 0, 1) := by decide +kernel
theorem d_Mo_drop_20 : decode b_Mo_drop 20 = .ok (.iconst 1, 1) := by decide +kernel
theorem d_Mo_drop_21 : decode b_Mo_drop 21 = .ok (.invokevirtual 96, 3) := by decide +kernel
theorem d_Mo_drop_24 : decode b_Mo_drop 24 = .ok (.ifCond .eq 5, 3) := by decide +kernel
theorem d_Mo_drop_27 : decode b_Mo_drop 27 = .ok (.iconst 0, 1) := by decide +kernel
theorem d_Mo_drop_28 : decode b_Mo_drop 28 = .ok (.ireturn, 1) := by decide +kernel
theorem d_Mo_drop_29 : decode b_Mo_drop 29 = .ok (.aload_n 0, 1) := by decide +kernel
theorem d_Mo_drop_30 : decode b_Mo_drop 30 = .ok (.getfield 47, 3) := by decide +kernel
theorem d_Mo_drop_33 : decode b_Mo_drop 33 = .ok (.iload_n 1, 1) := by decide +kernel
theorem d_Mo_drop_34 : decode b_Mo_drop 34 = .ok (.iaload, 1) := by decide +kernel
theorem d_Mo_drop_35 : decode b_Mo_drop 35 = .ok (.ifCond .eq 7, 3) := by decide +kernel
theorem d_Mo_drop_38 : decode b_Mo_drop 38 = .ok (.iconst 1, 1) := by decide +kernel
theorem d_Mo_drop_39 : decode b_Mo_drop 39 = .ok (.goto 4, 3) := by decide +kernel
theorem d_Mo_drop_42 : decode b_Mo_drop 42 = .ok (.iconst 0, 1) := by decide +kernel
theorem d_Mo_drop_43 : decode b_Mo_drop 43 = .ok (.istore_n 2, 1) := by decide +kernel
theorem d_Mo_drop_44 : decode b_Mo_drop 44 = .ok (.aload_n 0, 1) := by decide +kernel
theorem d_Mo_drop_45 : decode b_Mo_drop 45 = .ok (.getfield 47, 3) := by decide +kernel
theorem d_Mo_drop_48 : decode b_Mo_drop 48 = .ok (.iload_n 1, 1) := by decide +kernel
theorem d_Mo_drop_49 : decode b_Mo_drop 49 = .ok (.iconst 0, 1) := by decide +kernel
theorem d_Mo_drop_50 : decode b_Mo_drop 50 = .ok (.iastore, 1) := by decide +kernel
theorem d_Mo_drop_51 : decode b_Mo_drop 51 = .ok (.iload_n 2, 1) := by decide +kernel
theorem d_Mo_drop_52 : decode b_Mo_drop 52 = .ok (.ireturn, 1) := by decide +kernel
theorem d_Mo_same_0 : decode b_Mo_same 0 = .ok (.aload_n 0, 1) := by decide +kernel
theorem d_Mo_same_1 : decode b_Mo_same 1 = .ok (.iconst 0, 1) := by decide +kernel
theorem d_Mo_same_2 : decode b_Mo_same 2 = .ok (.putfield 59, 3) := by decide +kernel
theorem d_Mo_same_5 : decode b_Mo_same 5 = .ok (.aload_n 0, 1) := by decide +kernel
theorem d_Mo_same_6 : decode b_Mo_same 6 = .ok (.iload_n 1, 1) := by decide +kernel
theorem d_Mo_same_7 : decode b_Mo_same 7 = .ok (.bipush 31, 2) := by decide +kernel
theorem d_Mo_same_9 : decode b_Mo_same 9 = .ok (.invokestatic 93, 3) := by decide +kernel
theorem d_Mo_same_12 : decode b_Mo_same 12 = .ok (.ifCond .eq 12, 3) := by decide +kernel
theorem d_Mo_same_15 : decode b_Mo_same 15 = .ok (.iload_n 2, 1) := by decide +kernel
theorem d_Mo_same_16 : decode b_Mo_same 16 = .ok (.bipush 31, 2) := by decide +kernel
theorem d_Mo_same_18 : decode b_Mo_same 18 = .ok (.invokestatic 93, 3) := by decide +kernel
theorem d_Mo_same_21 : decode b_Mo_same 21 = .ok (.ifCond .ne 7, 3) := by decide +kernel
theorem d_Mo_same_24 : decode b_Mo_same 24 = .ok (.iconst 1, 1) := by decide +kernel
theorem d_Mo_same_25 : decode b_Mo_same 25 = .ok (.goto 4, 3) := by decide +kernel
theorem d_Mo_same_28 : decode b_Mo_same 28 = .ok (.iconst 0, 1) := by decide +kernel
theorem d_Mo_same_29 : decode b_Mo_same 29 = .ok (.iconst 1, 1) := by decide +kernel
theorem d_Mo_same_30 : decode b_Mo_same 30 = .ok (.invokevirtual 96, 3) := by decide +kernel
theorem d_Mo_same_33 : decode b_Mo_same 33 = .ok (.ifCond .ne 22, 3) := by decide +kernel
theorem d_Mo_same_36 : decode b_Mo_same 36 = .ok (.aload_n 0, 1) := by decide +kernel
theorem d_Mo_same_37 : decode b_Mo_same 37 = .ok (.getfield 47, 3) := by decide +kernel
theorem d_Mo_same_40 : decode b_Mo_same 40 = .ok (.iload_n 1, 1) := by decide +kernel
theorem d_Mo_same_41 : decode b_Mo_same 41 = .ok (.iaload, 1) := by decide +kernel
theorem d_Mo_same_42 : decode b_Mo_same 42 = .ok (.aload_n 0, 1) := by decide +kernel
theorem d_Mo_same_43 : decode b_Mo_same 43 = .ok (.getfield 47, 3) := by decide +kernel
theorem d_Mo_same_46 : decode b_Mo_same 46 = .ok (.iload_n 2, 1) := by decide +kernel
theorem d_Mo_same_47 : decode b_Mo_same 47 = .ok (.iaload, 1) := by decide +kernel
theorem d_Mo_same_48 : decode b_Mo_same 48 = .ok (.if_icmp .ne 7, 3) := by decide +kernel
theorem d_Mo_same_51 : decode b_Mo_same 51 = .ok (.iconst 1, 1) := by decide +kernel
theorem d_Mo_same_52 : decode b_Mo_same 52 = .ok (.goto 4, 3) := by decide +kernel
theorem d_Mo_same_55 : decode b_Mo_same 55 = .ok (.iconst 0, 1) := by decide +kernel
theorem d_Mo_same_56 : decode b_Mo_same 56 = .ok (.ireturn, 1) := by decide +kernel
theorem d_Mo_get_0 : decode b_Mo_get 0 = .ok (.aload_n 0, 1) := by decide +kernel
theorem d_Mo_get_1 : decode b_Mo_get 1 = .ok (.iload_n 1, 1) := by decide +kernel
theorem d_Mo_get_2 : decode b_Mo_get 2 = .ok (.iload_n 2, 1) := by decide +kernel
theorem d_Mo_get_3 : decode b_Mo_get 3 = .ok (.iconst 0, 1) := by decide +kernel
theorem d_Mo_get_4 : decode b_Mo_get 4 = .ok (.invokevirtual 104, 3) := by decide +kernel
theorem d_Mo_get_7 : decode b_Mo_get 7 = .ok (.istore_n 3, 1) := by decide +kernel
theorem d_Mo_get_8 : decode b_Mo_get 8 = .ok (.iload_n 3, 1) := by decide +kernel
theorem d_Mo_get_9 : decode b_Mo_get 9 = .ok (.ifCond .ne 7, 3) := by decide +kernel
theorem d_Mo_get_12 : decode b_Mo_get 12 = .ok (.lconst 0, 1) := by decide +kernel
theorem d_Mo_get_13 : decode b_Mo_get 13 = .ok (.goto 9, 3) := by decide +kernel
theorem d_Mo_get_16 : decode b_Mo_get 16 = .ok (.aload_n 0, 1) := by decide +kernel
theorem d_Mo_get_17 : decode b_Mo_get 17 = .ok (.iload_n 3, 1) := by decide +kernel
theorem d_Mo_get_18 : decode b_Mo_get 18 = .ok (.iload_n 2, 1) := by decide +kernel
theorem d_Mo_get_19 : decode b_Mo_get 19 = .ok (.invokevirtual 89, 3) := by decide +kernel
theorem d_Mo_get_22 : decode b_Mo_get 22 = .ok (.lreturn, 1) := by decide +kernel
theorem d_Mo_placed_0 : decode b_Mo_placed 0 = .ok (.aload_n 0, 1) := by decide +kernel
theorem d_Mo_placed_1 : decode b_Mo_placed 1 = .ok (.iconst 0, 1) := by decide +kernel
theorem d_Mo_placed_2 : decode b_Mo_placed 2 = .ok (.putfield 59, 3) := by decide +kernel
theorem d_Mo_placed_5 : decode b_Mo_placed 5 = .ok (.aload_n 0, 1) := by decide +kernel
theorem d_Mo_placed_6 : decode b_Mo_placed 6 = .ok (.iload_n 1, 1) := by decide +kernel
theorem d_Mo_placed_7 : decode b_Mo_placed 7 = .ok (.bipush 31, 2) := by decide +kernel
theorem d_Mo_placed_9 : decode b_Mo_placed 9 = .ok (.invokestatic 93, 3) := by decide +kernel
theorem d_Mo_placed_12 : decode b_Mo_placed 12 = .ok (.ifCond .ne 7, 3) := by decide +kernel
theorem d_Mo_placed_15 : decode b_Mo_placed 15 = .ok (.iconst 1, 1) := by decide +kernel
theorem d_Mo_placed_16 : decode b_Mo_placed 16 = .ok (.goto 4, 3) := by decide +kernel
theorem d_Mo_placed_19 : decode b_Mo_placed 19 = .ok (.iconst 0, 1) := by decide +kernel
theorem d_Mo_placed_20 : decode b_Mo_placed 20 = .ok (.iconst 1, 1) := by decide +kernel
theorem d_Mo_placed_21 : decode b_Mo_placed 21 = .ok (.invokevirtual 96, 3) := by decide +kernel
theorem d_Mo_placed_24 : decode b_Mo_placed 24 = .ok (.ifCond .ne 25, 3) := by decide +kernel
theorem d_Mo_placed_27 : decode b_Mo_placed 27 = .ok (.aload_n 0, 1) := by decide +kernel
theorem d_Mo_placed_28 : decode b_Mo_placed 28 = .ok (.aload_n 0, 1) := by decide +kernel
theorem d_Mo_placed_29 : decode b_Mo_placed 29 = .ok (.getfield 47, 3) := by decide +kernel
theorem d_Mo_placed_32 : decode b_Mo_placed 32 = .ok (.iload_n 1, 1) := by decide +kernel
theorem d_Mo_placed_33 : decode b_Mo_placed 33 = .ok (.iaload, 1) := by decide +kernel
theorem d_Mo_placed_34 : decode b_Mo_placed 34 = .ok (.ifCond .ne 7, 3) := by decide +kernel
theorem d_Mo_placed_37 : decode b_Mo_placed 37 = .ok (.iconst 1, 1) := by decide +kernel
theorem d_Mo_placed_38 : decode b_Mo_placed 38 = .ok (.goto 4, 3) := by decide +kernel
theorem d_Mo_placed_41 : decode b_Mo_placed 41 = .ok (.iconst 0, 1) := by decide +kernel
theorem d_Mo_placed_42 : decode b_Mo_placed 42 = .ok (.iconst 2, 1) := by decide +kernel
theorem d_Mo_placed_43 : decode b_Mo_placed 43 = .ok (.invokevirtual 96, 3) := by decide +kernel
theorem d_Mo_placed_46 : decode b_Mo_placed 46 = .ok (.ifCond .eq 5, 3) := by decide +kernel
theorem d_Mo_placed_49 : decode b_Mo_placed 49 = .ok (.iconst 0, 1) := by decide +kernel
theorem d_Mo_placed_50 : decode b_Mo_placed 50 = .ok (.ireturn, 1) := by decide +kernel
theorem d_Mo_placed_51 : decode b_Mo_placed 51 = .ok (.aload_n 0, 1) := by decide +kernel
theorem d_Mo_placed_52 : decode b_Mo_placed 52 = .ok (.getfield 47, 3) := by decide +kernel
theorem d_Mo_placed_55 : decode b_Mo_placed 55 = .ok (.iload_n 1, 1) := by decide +kernel
theorem d_Mo_placed_56 : decode b_Mo_placed 56 = .ok (.iaload, 1) := by decide +kernel
theorem d_Mo_placed_57 : decode b_Mo_placed 57 = .ok (.istore 4, 2) := by decide +kernel
theorem d_Mo_placed_59 : decode b_Mo_placed 59 = .ok (.aload_n 0, 1) := by decide +kernel
theorem d_Mo_placed_60 : decode b_Mo_placed 60 = .ok (.iload_n 2, 1) := by decide +kernel
theorem d_Mo_placed_61 : decode b_Mo_placed 61 = .ok (.ifCond .lt 13, 3) := by decide +kernel
theorem d_Mo_placed_64 : decode b_Mo_placed 64 = .ok (.iload_n 2, 1) := by decide +kernel
theorem d_Mo_placed_65 : decode b_Mo_placed 65 = .ok (.aload_n 0, 1) := by decide +kernel
theorem d_Mo_placed_66 : decode b_Mo_placed 66 = .ok (.iload 4, 2) := by decide +kernel
theorem d_Mo_placed_68 : decode b_Mo_placed 68 = .ok (.invokevirtual 77, 3) := by decide +kernel
theorem d_Mo_placed_71 : decode b_Mo_placed 71 = .ok (.if_icmp .lt 7, 3) := by decide +kernel
theorem d_Mo_placed_74 : decode b_Mo_placed 74 = .ok (.iconst 1, 1) := by decide +kernel
theorem d_Mo_placed_75 : decode b_Mo_placed 75 = .ok (.goto 4, 3) := by decide +kernel
theorem d_Mo_placed_78 : decode b_Mo_placed 78 = .ok (.iconst 0, 1) := by decide +kernel
theorem d_Mo_placed_79 : decode b_Mo_placed 79 = .ok (.iconst 3, 1) := by decide +kernel
theorem d_Mo_placed_80 : decode b_Mo_placed 80 = .ok (.invokevirtual 96, 3) := by decide +kernel
theorem d_Mo_placed_83 : decode b_Mo_placed 83 = .ok (.ifCond .ne 27, 3) := by decide +kernel
theorem d_Mo_placed_86 : decode b_Mo_placed 86 = .ok (.aload_n 0, 1) := by decide +kernel
theorem d_Mo_placed_87 : decode b_Mo_placed 87 = .ok (.aload_n 0, 1) := by decide +kernel
theorem d_Mo_placed_88 : decode b_Mo_placed 88 = .ok (.iload 4, 2) := by decide +kernel
theorem d_Mo_placed_90 : decode b_Mo_placed 90 = .ok (.iload_n 2, 1) := by decide +kernel
theorem d_Mo_placed_91 : decode b_Mo_placed 91 = .ok (.invokevirtual 85, 3) := by decide +kernel
theorem d_Mo_placed_94 : decode b_Mo_placed 94 = .ok (.iload_n 3, 1) := by decide +kernel
theorem d_Mo_placed_95 : decode b_Mo_placed 95 = .ok (.if_icmp .eq 7, 3) := by decide +kernel
theorem d_Mo_placed_98 : decode b_Mo_placed 98 = .ok (.iconst 1, 1) := by decide +kernel
theorem d_Mo_placed_99 : decode b_Mo_placed 99 = .ok (.goto 4, 3) := by decide +kernel
theorem d_Mo_placed_102 : decode b_Mo_placed 102 = .ok (.iconst 0, 1) := by decide +kernel
theorem d_Mo_placed_103 : decode b_Mo_placed 103 = .ok (.iconst 4, 1) := by decide +kernel
theorem d_Mo_placed_104 : decode b_Mo_placed 104 = .ok (.invokevirtual 96, 3) := by decide +kernel
theorem d_Mo_placed_107 : decode b_Mo_placed 107 = .ok (.ifCond .eq 5, 3) := by decide +kernel
theorem d_Mo_placed_110 : decode b_Mo_placed 110 = .ok (.iconst 0, 1) := by decide +kernel
theorem d_Mo_placed_111 : decode b_Mo_placed 111 = .ok (.ireturn, 1) := by decide +kernel
theorem d_Mo_placed_112 : decode b_Mo_placed 112 = .ok (.iload 4, 2) := by decide +kernel
theorem d_Mo_placed_114 : decode b_Mo_placed 114 = .ok (.ireturn, 1) := by decide +kernel
theorem d_Mo_put_0 : decode b_Mo_put 0 = .ok (.aload_n 0, 1) := by decide +kernel
theorem d_Mo_put_1 : decode b_Mo_put 1 = .ok (.iload_n 1, 1) := by decide +kernel
theorem d_Mo_put_2 : decode b_Mo_put 2 = .ok (.iload_n 2, 1) := by decide +kernel
theorem d_Mo_put_3 : decode b_Mo_put 3 = .ok (.iconst 0, 1) := by decide +kernel
theorem d_Mo_put_4 : decode b_Mo_put 4 = .ok (.invokevirtual 104, 3) := by decide +kernel
theorem d_Mo_put_7 : decode b_Mo_put 7 = .ok (.istore 5, 2) := by decide +kernel
theorem d_Mo_put_9 : decode b_Mo_put 9 = .ok (.iload 5, 2) := by decide +kernel
theorem d_Mo_put_11 : decode b_Mo_put 11 = .ok (.ifCond .eq 17, 3) := by decide +kernel
theorem d_Mo_put_14 : decode b_Mo_put 14 = .ok (.aload_n 0, 1) := by decide +kernel
theorem d_Mo_put_15 : decode b_Mo_put 15 = .ok (.iload 5, 2) := by decide +kernel
theorem d_Mo_put_17 : decode b_Mo_put 17 = .ok (.iload_n 2, 1) := by decide +kernel
theorem d_Mo_put_18 : decode b_Mo_put 18 = .ok (.aload_n 0, 1) := by decide +kernel
theorem d_Mo_put_19 : decode b_Mo_put 19 = .ok (.iload 5, 2) := by decide +kernel
theorem d_Mo_put_21 : decode b_Mo_put 21 = .ok (.lload_n 3, 1) := by decide +kernel
theorem d_Mo_put_22 : decode b_Mo_put 22 = .ok (.invokevirtual 108, 3) := by decide +kernel
theorem d_Mo_put_25 : decode b_Mo_put 25 = .ok (.invokevirtual 111, 3) := by decide +kernel
theorem d_Mo_put_28 : decode b_Mo_put 28 = .ok (.return_, 1) := by decide +kernel
theorem d_Mo_cut_0 : decode b_Mo_cut 0 = .ok (.aload_n 0, 1) := by decide +kernel
theorem d_Mo_cut_1 : decode b_Mo_cut 1 = .ok (.getfield 16, 3) := by decide +kernel
theorem d_Mo_cut_4 : decode b_Mo_cut 4 = .ok (.aload_n 0, 1) := by decide +kernel
theorem d_Mo_cut_5 : decode b_Mo_cut 5 = .ok (.getfield 23, 3) := by decide +kernel
theorem d_Mo_cut_8 : decode b_Mo_cut 8 = .ok (.iload_n 1, 1) := by decide +kernel
theorem d_Mo_cut_9 : decode b_Mo_cut 9 = .ok (.iaload, 1) := by decide +kernel
theorem d_Mo_cut_10 : decode b_Mo_cut 10 = .ok (.iaload, 1) := by decide +kernel
theorem d_Mo_cut_11 : decode b_Mo_cut 11 = .ok (.istore 4, 2) := by decide +kernel
theorem d_Mo_cut_13 : decode b_Mo_cut 13 = .ok (.iload 4, 2) := by decide +kernel
theorem d_Mo_cut_15 : decode b_Mo_cut 15 = .ok (.iconst 1, 1) := by decide +kernel
theorem d_Mo_cut_16 : decode b_Mo_cut 16 = .ok (.if_icmp .ne 10, 3) := by decide +kernel
theorem d_Mo_cut_19 : decode b_Mo_cut 19 = .ok (.lload_n 2, 1) := by decide +kernel
theorem d_Mo_cut_20 : decode b_Mo_cut 20 = .ok (.l2i, 1) := by decide +kernel
theorem d_Mo_cut_21 : decode b_Mo_cut 21 = .ok (.i2b, 1) := by decide +kernel
theorem d_Mo_cut_22 : decode b_Mo_cut 22 = .ok (.i2l, 1) := by decide +kernel
theorem d_Mo_cut_23 : decode b_Mo_cut 23 = .ok (.goto 29, 3) := by decide +kernel
theorem d_Mo_cut_26 : decode b_Mo_cut 26 = .ok (.iload 4, 2) := by decide +kernel
theorem d_Mo_cut_28 : decode b_Mo_cut 28 = .ok (.iconst 2, 1) := by decide +kernel
theorem d_Mo_cut_29 : decode b_Mo_cut 29 = .ok (.if_icmp .ne 10, 3) := by decide +kernel
theorem d_Mo_cut_32 : decode b_Mo_cut 32 = .ok (.lload_n 2, 1) := by decide +kernel
theorem d_Mo_cut_33 : decode b_Mo_cut 33 = .ok (.l2i, 1) := by decide +kernel
theorem d_Mo_cut_34 : decode b_Mo_cut 34 = .ok (.i2c, 1) := by decide +kernel
theorem d_Mo_cut_35 : decode b_Mo_cut 35 = .ok (.i2l, 1) := by decide +kernel
theorem d_Mo_cut_36 : decode b_Mo_cut 36 = .ok (.goto 16, 3) := by decide +kernel
theorem d_Mo_cut_39 : decode b_Mo_cut 39 = .ok (.iload 4, 2) := by decide +kernel
theorem d_Mo_cut_41 : decode b_Mo_cut 41 = .ok (.iconst 4, 1) := by decide +kernel
theorem d_Mo_cut_42 : decode b_Mo_cut 42 = .ok (.if_icmp .ne 7, 3) := by decide +kernel
theorem d_Mo_cut_45 : decode b_Mo_cut 45 = .ok (.lload_n 2, 1) := by decide +kernel
theorem d_Mo_cut_46 : decode b_Mo_cut 46 = .ok (.goto 6, 3) := by decide +kernel
theorem d_Mo_cut_49 : decode b_Mo_cut 49 = .ok (.lload_n 2, 1) := by decide +kernel
theorem d_Mo_cut_50 : decode b_Mo_cut 50 = .ok (.l2i, 1) := by decide +kernel
theorem d_Mo_cut_51 : decode b_Mo_cut 51 = .ok (.i2l, 1) := by decide +kernel
theorem d_Mo_cut_52 : decode b_Mo_cut 52 = .ok (.lreturn, 1) := by decide +kernel
theorem d_Mo_enter_0 : decode b_Mo_enter 0 = .ok (.aload_n 0, 1) := by decide +kernel
theorem d_Mo_enter_1 : decode b_Mo_enter 1 = .ok (.getfield 37, 3) := by decide +kernel
theorem d_Mo_enter_4 : decode b_Mo_enter 4 = .ok (.aload_n 0, 1) := by decide +kernel
theorem d_Mo_enter_5 : decode b_Mo_enter 5 = .ok (.getfield 68, 3) := by decide +kernel
theorem d_Mo_enter_8 : decode b_Mo_enter 8 = .ok (.iload_n 1, 1) := by decide +kernel
theorem d_Mo_enter_9 : decode b_Mo_enter 9 = .ok (.iastore, 1) := by decide +kernel
theorem d_Mo_enter_10 : decode b_Mo_enter 10 = .ok (.aload_n 0, 1) := by decide +kernel
theorem d_Mo_enter_11 : decode b_Mo_enter 11 = .ok (.getfield 40, 3) := by decide +kernel
theorem d_Mo_enter_14 : decode b_Mo_enter 14 = .ok (.aload_n 0, 1) := by decide +kernel
theorem d_Mo_enter_15 : decode b_Mo_enter 15 = .ok (.getfield 68, 3) := by decide +kernel
theorem d_Mo_enter_18 : decode b_Mo_enter 18 = .ok (.iload_n 2, 1) := by decide +kernel
theorem d_Mo_enter_19 : decode b_Mo_enter 19 = .ok (.iastore, 1) := by decide +kernel
theorem d_Mo_enter_20 : decode b_Mo_enter 20 = .ok (.aload_n 0, 1) := by decide +kernel
theorem d_Mo_enter_21 : decode b_Mo_enter 21 = .ok (.getfield 43, 3) := by decide +kernel
theorem d_Mo_enter_24 : decode b_Mo_enter 24 = .ok (.aload_n 0, 1) := by decide +kernel
theorem d_Mo_enter_25 : decode b_Mo_enter 25 = .ok (.dup, 1) := by decide +kernel
theorem d_Mo_enter_26 : decode b_Mo_enter 26 = .ok (.getfield 68, 3) := by decide +kernel
theorem d_Mo_enter_29 : decode b_Mo_enter 29 = .ok (.dup_x1, 1) := by decide +kernel
theorem d_Mo_enter_30 : decode b_Mo_enter 30 = .ok (.iconst 1, 1) := by decide +kernel
theorem d_Mo_enter_31 : decode b_Mo_enter 31 = .ok (.iadd, 1) := by decide +kernel
theorem d_Mo_enter_32 : decode b_Mo_enter 32 = .ok (.putfield 68, 3) := by decide +kernel
theorem d_Mo_enter_35 : decode b_Mo_enter 35 = .ok (.lload_n 3, 1) := by decide +kernel
theorem d_Mo_enter_36 : decode b_Mo_enter 36 = .ok (.lastore, 1) := by decide +kernel
theorem d_Mo_enter_37 : decode b_Mo_enter 37 = .ok (.return_, 1) := by decide +kernel
theorem d_Mo_link_0 : decode b_Mo_link 0 = .ok (.aload_n 0, 1) := by decide +kernel
theorem d_Mo_link_1 : decode b_Mo_link 1 = .ok (.iconst 0, 1) := by decide +kernel
theorem d_Mo_link_2 : decode b_Mo_link 2 = .ok (.putfield 59, 3) := by decide +kernel
theorem d_Mo_link_5 : decode b_Mo_link 5 = .ok (.aload_n 0, 1) := by decide +kernel
theorem d_Mo_link_6 : decode b_Mo_link 6 = .ok (.iload_n 1, 1) := by decide +kernel
theorem d_Mo_link_7 : decode b_Mo_link 7 = .ok (.bipush 31, 2) := by decide +kernel
theorem d_Mo_link_9 : decode b_Mo_link 9 = .ok (.invokestatic 93, 3) := by decide +kernel
theorem d_Mo_link_12 : decode b_Mo_link 12 = .ok (.ifCond .eq 12, 3) := by decide +kernel
theorem d_Mo_link_15 : decode b_Mo_link 15 = .ok (.iload_n 3, 1) := by decide +kernel
theorem d_Mo_link_16 : decode b_Mo_link 16 = .ok (.bipush 31, 2) := by decide +kernel
theorem d_Mo_link_18 : decode b_Mo_link 18 = .ok (.invokestatic 93, 3) := by decide +kernel
theorem d_Mo_link_21 : decode b_Mo_link 21 = .ok (.ifCond .ne 7, 3) := by decide +kernel
theorem d_Mo_link_24 : decode b_Mo_link 24 = .ok (.iconst 1, 1) := by decide +kernel
theorem d_Mo_link_25 : decode b_Mo_link 25 = .ok (.goto 4, 3) := by decide +kernel
theorem d_Mo_link_28 : decode b_Mo_link 28 = .ok (.iconst 0, 1) := by decide +kernel
theorem d_Mo_link_29 : decode b_Mo_link 29 = .ok (.iconst 1, 1) := by decide +kernel
theorem d_Mo_link_30 : decode b_Mo_link 30 = .ok (.invokevirtual 96, 3) := by decide +kernel
theorem d_Mo_link_33 : decode b_Mo_link 33 = .ok (.ifCond .eq 5, 3) := by decide +kernel
theorem d_Mo_link_36 : decode b_Mo_link 36 = .ok (.iconst 0, 1) := by decide +kernel
theorem d_Mo_link_37 : decode b_Mo_link 37 = .ok (.ireturn, 1) := by decide +kernel
theorem d_Mo_link_38 : decode b_Mo_link 38 = .ok (.aload_n 0, 1) := by decide +kernel
theorem d_Mo_link_39 : decode b_Mo_link 39 = .ok (.iload_n 1, 1) := by decide +kernel
theorem d_Mo_link_40 : decode b_Mo_link 40 = .ok (.iload_n 2, 1) := by decide +kernel
theorem d_Mo_link_41 : decode b_Mo_link 41 = .ok (.iconst 1, 1) := by decide +kernel
theorem d_Mo_link_42 : decode b_Mo_link 42 = .ok (.invokevirtual 104, 3) := by decide +kernel
theorem d_Mo_link_45 : decode b_Mo_link 45 = .ok (.istore 4, 2) := by decide +kernel
theorem d_Mo_link_47 : decode b_Mo_link 47 = .ok (.iload 4, 2) := by decide +kernel
theorem d_Mo_link_49 : decode b_Mo_link 49 = .ok (.ifCond .ne 5, 3) := by decide +kernel
theorem d_Mo_link_52 : decode b_Mo_link 52 = .ok (.iconst 0, 1) := by decide +kernel
theorem d_Mo_link_53 : decode b_Mo_link 53 = .ok (.ireturn, 1) := by decide +kernel
theorem d_Mo_link_54 : decode b_Mo_link 54 = .ok (.aload_n 0, 1) := by decide +kernel
theorem d_Mo_link_55 : decode b_Mo_link 55 = .ok (.iload 4, 2) := by decide +kernel
theorem d_Mo_link_57 : decode b_Mo_link 57 = .ok (.iload_n 2, 1) := by decide +kernel
theorem d_Mo_link_58 : decode b_Mo_link 58 = .ok (.invokevirtual 89, 3) := by decide +kernel
theorem d_Mo_link_61 : decode b_Mo_link 61 = .ok (.lconst 0, 1) := by decide +kernel
theorem d_Mo_link_62 : decode b_Mo_link 62 = .ok (.lcmp, 1) := by decide +kernel
theorem d_Mo_link_63 : decode b_Mo_link 63 = .ok (.ifCond .eq 7, 3) := by decide +kernel
theorem d_Mo_link_66 : decode b_Mo_link 66 = .ok (.iconst 1, 1) := by decide +kernel
theorem d_Mo_link_67 : decode b_Mo_link 67 = .ok (.goto 4, 3) := by decide +kernel
theorem d_Mo_link_70 : decode b_Mo_link 70 = .ok (.iconst 0, 1) := by decide +kernel
theorem d_Mo_link_71 : decode b_Mo_link 71 = .ok (.istore 5, 2) := by decide +kernel
theorem d_Mo_link_73 : decode b_Mo_link 73 = .ok (.aload_n 0, 1) := by decide +kernel
theorem d_Mo_link_74 : decode b_Mo_link 74 = .ok (.iload 4, 2) := by decide +kernel
theorem d_Mo_link_76 : decode b_Mo_link 76 = .ok (.iload_n 2, 1) := by decide +kernel
theorem d_Mo_link_77 : decode b_Mo_link 77 = .ok (.aload_n 0, 1) := by decide +kernel
theorem d_Mo_link_78 : decode b_Mo_link 78 = .ok (.getfield 47, 3) := by decide +kernel
theorem d_Mo_link_81 : decode b_Mo_link 81 = .ok (.iload_n 3, 1) := by decide +kernel
theorem d_Mo_link_82 : decode b_Mo_link 82 = .ok (.iaload, 1) := by decide +kernel
theorem d_Mo_link_83 : decode b_Mo_link 83 = .ok (.i2l, 1) := by decide +kernel
theorem d_Mo_link_84 : decode b_Mo_link 84 = .ok (.invokevirtual 111, 3) := by decide +kernel
theorem d_Mo_link_87 : decode b_Mo_link 87 = .ok (.iload 5, 2) := by decide +kernel
theorem d_Mo_link_89 : decode b_Mo_link 89 = .ok (.ireturn, 1) := by decide +kernel
theorem d_Mo_follow_0 : decode b_Mo_follow 0 = .ok (.aload_n 0, 1) := by decide +kernel
theorem d_Mo_follow_1 : decode b_Mo_follow 1 = .ok (.iconst 0, 1) := by decide +kernel
theorem d_Mo_follow_2 : decode b_Mo_follow 2 = .ok (.putfield 59, 3) := by decide +kernel
theorem d_Mo_follow_5 : decode b_Mo_follow 5 = .ok (.aload_n 0, 1) := by decide +kernel
theorem d_Mo_follow_6 : decode b_Mo_follow 6 = .ok (.iload_n 1, 1) := by decide +kernel
theorem d_Mo_follow_7 : decode b_Mo_follow 7 = .ok (.bipush 31, 2) := by decide +kernel
theorem d_Mo_follow_9 : decode b_Mo_follow 9 = .ok (.invokestatic 93, 3) := by decide +kernel
theorem d_Mo_follow_12 : decode b_Mo_follow 12 = .ok (.ifCond .eq 12, 3) := by decide +kernel
theorem d_Mo_follow_15 : decode b_Mo_follow 15 = .ok (.iload_n 3, 1) := by decide +kernel
theorem d_Mo_follow_16 : decode b_Mo_follow 16 = .ok (.bipush 31, 2) := by decide +kernel
theorem d_Mo_follow_18 : decode b_Mo_follow 18 = .ok (.invokestatic 93, 3) := by decide +kernel
theorem d_Mo_follow_21 : decode b_Mo_follow 21 = .ok (.ifCond .ne 7, 3) := by decide +kernel
theorem d_Mo_follow_24 : decode b_Mo_follow 24 = .ok (.iconst 1, 1) := by decide +kernel
theorem d_Mo_follow_25 : decode b_Mo_follow 25 = .ok (.goto 4, 3) := by decide +kernel
theorem d_Mo_follow_28 : decode b_Mo_follow 28 = .ok (.iconst 0, 1) := by decide +kernel
theorem d_Mo_follow_29 : decode b_Mo_follow 29 = .ok (.iconst 1, 1) := by decide +kernel
theorem d_Mo_follow_30 : decode b_Mo_follow 30 = .ok (.invokevirtual 96, 3) := by decide +kernel
theorem d_Mo_follow_33 : decode b_Mo_follow 33 = .ok (.ifCond .eq 5, 3) := by decide +kernel
theorem d_Mo_follow_36 : decode b_Mo_follow 36 = .ok (.iconst 0, 1) := by decide +kernel
theorem d_Mo_follow_37 : decode b_Mo_follow 37 = .ok (.ireturn, 1) := by decide +kernel
theorem d_Mo_follow_38 : decode b_Mo_follow 38 = .ok (.aload_n 0, 1) := by decide +kernel
theorem d_Mo_follow_39 : decode b_Mo_follow 39 = .ok (.iload_n 1, 1) := by decide +kernel
theorem d_Mo_follow_40 : decode b_Mo_follow 40 = .ok (.iload_n 2, 1) := by decide +kernel
theorem d_Mo_follow_41 : decode b_Mo_follow 41 = .ok (.iconst 1, 1) := by decide +kernel
theorem d_Mo_follow_42 : decode b_Mo_follow 42 = .ok (.invokevirtual 104, 3) := by decide +kernel
theorem d_Mo_follow_45 : decode b_Mo_follow 45 = .ok (.istore 4, 2) := by decide +kernel
theorem d_Mo_follow_47 : decode b_Mo_follow 47 = .ok (.iload 4, 2) := by decide +kernel
theorem d_Mo_follow_49 : decode b_Mo_follow 49 = .ok (.ifCond .ne 5, 3) := by decide +kernel
theorem d_Mo_follow_52 : decode b_Mo_follow 52 = .ok (.iconst 0, 1) := by decide +kernel
theorem d_Mo_follow_53 : decode b_Mo_follow 53 = .ok (.ireturn, 1) := by decide +kernel
theorem d_Mo_follow_54 : decode b_Mo_follow 54 = .ok (.aload_n 0, 1) := by decide +kernel
theorem d_Mo_follow_55 : decode b_Mo_follow 55 = .ok (.getfield 47, 3) := by decide +kernel
theorem d_Mo_follow_58 : decode b_Mo_follow 58 = .ok (.iload_n 3, 1) := by decide +kernel
theorem d_Mo_follow_59 : decode b_Mo_follow 59 = .ok (.aload_n 0, 1) := by decide +kernel
theorem d_Mo_follow_60 : decode b_Mo_follow 60 = .ok (.iload 4, 2) := by decide +kernel
theorem d_Mo_follow_62 : decode b_Mo_follow 62 = .ok (.iload_n 2, 1) := by decide +kernel
theorem d_Mo_follow_63 : decode b_Mo_follow 63 = .ok (.invokevirtual 89, 3) := by decide +kernel
theorem d_Mo_follow_66 : decode b_Mo_follow 66 = .ok (.l2i, 1) := by decide +kernel
theorem d_Mo_follow_67 : decode b_Mo_follow 67 = .ok (.iastore, 1) := by decide +kernel
theorem d_Mo_follow_68 : decode b_Mo_follow 68 = .ok (.aload_n 0, 1) := by decide +kernel
theorem d_Mo_follow_69 : decode b_Mo_follow 69 = .ok (.getfield 47, 3) := by decide +kernel
theorem d_Mo_follow_72 : decode b_Mo_follow 72 = .ok (.iload_n 3, 1) := by decide +kernel
theorem d_Mo_follow_73 : decode b_Mo_follow 73 = .ok (.iaload, 1) := by decide +kernel
theorem d_Mo_follow_74 : decode b_Mo_follow 74 = .ok (.ifCond .eq 7, 3) := by decide +kernel
theorem d_Mo_follow_77 : decode b_Mo_follow 77 = .ok (.iconst 1, 1) := by decide +kernel
theorem d_Mo_follow_78 : decode b_Mo_follow 78 = .ok (.goto 4, 3) := by decide +kernel
theorem d_Mo_follow_81 : decode b_Mo_follow 81 = .ok (.iconst 0, 1) := by decide +kernel
theorem d_Mo_follow_82 : decode b_Mo_follow 82 = .ok (.ireturn, 1) := by decide +kernel
theorem d_Mo_keep_0 : decode b_Mo_keep 0 = .ok (.aload_n 0, 1) := by decide +kernel
theorem d_Mo_keep_1 : decode b_Mo_keep 1 = .ok (.iconst 0, 1) := by decide +kernel
theorem d_Mo_keep_2 : decode b_Mo_keep 2 = .ok (.putfield 59, 3) := by decide +kernel
theorem d_Mo_keep_5 : decode b_Mo_keep 5 = .ok (.aload_n 0, 1) := by decide +kernel
theorem d_Mo_keep_6 : decode b_Mo_keep 6 = .ok (.iload_n 1, 1) := by decide +kernel
theorem d_Mo_keep_7 : decode b_Mo_keep 7 = .ok (.bipush 31, 2) := by decide +kernel
theorem d_Mo_keep_9 : decode b_Mo_keep 9 = .ok (.invokestatic 93, 3) := by decide +kernel
theorem d_Mo_keep_12 : decode b_Mo_keep 12 = .ok (.ifCond .ne 7, 3) := by decide +kernel
theorem d_Mo_keep_15 : decode b_Mo_keep 15 = .ok (.iconst 1, 1) := by decide +kernel
theorem d_Mo_keep_16 : decode b_Mo_keep 16 = .ok (.goto 4, 3) := by decide +kernel
theorem d_Mo_keep_19 : decode b_Mo_keep 19 = .ok (.iconst 0, 1) := by decide +kernel
theorem d_Mo_keep_20 : decode b_Mo_keep 20 = .ok (.iconst 1, 1) := by decide +kernel
theorem d_Mo_keep_21 : decode b_Mo_keep 21 = .ok (.invokevirtual 96, 3) := by decide +kernel
theorem d_Mo_keep_24 : decode b_Mo_keep 24 = .ok (.ifCond .ne 25, 3) := by decide +kernel
theorem d_Mo_keep_27 : decode b_Mo_keep 27 = .ok (.aload_n 0, 1) := by decide +kernel
theorem d_Mo_keep_28 : decode b_Mo_keep 28 = .ok (.aload_n 0, 1) := by decide +kernel
theorem d_Mo_keep_29 : decode b_Mo_keep 29 = .ok (.getfield 47, 3) := by decide +kernel
theorem d_Mo_keep_32 : decode b_Mo_keep 32 = .ok (.iload_n 1, 1) := by decide +kernel
theorem d_Mo_keep_33 : decode b_Mo_keep 33 = .ok (.iaload, 1) := by decide +kernel
theorem d_Mo_keep_34 : decode b_Mo_keep 34 = .ok (.ifCond .ne 7, 3) := by decide +kernel
theorem d_Mo_keep_37 : decode b_Mo_keep 37 = .ok (.iconst 1, 1) := by decide +kernel
theorem d_Mo_keep_38 : decode b_Mo_keep 38 = .ok (.goto 4, 3) := by decide +kernel
theorem d_Mo_keep_41 : decode b_Mo_keep 41 = .ok (.iconst 0, 1) := by decide +kernel
theorem d_Mo_keep_42 : decode b_Mo_keep 42 = .ok (.iconst 2, 1) := by decide +kernel
theorem d_Mo_keep_43 : decode b_Mo_keep 43 = .ok (.invokevirtual 96, 3) := by decide +kernel
theorem d_Mo_keep_46 : decode b_Mo_keep 46 = .ok (.ifCond .eq 5, 3) := by decide +kernel
theorem d_Mo_keep_49 : decode b_Mo_keep 49 = .ok (.iconst 0, 1) := by decide +kernel
theorem d_Mo_keep_50 : decode b_Mo_keep 50 = .ok (.ireturn, 1) := by decide +kernel
theorem d_Mo_keep_51 : decode b_Mo_keep 51 = .ok (.aload_n 0, 1) := by decide +kernel
theorem d_Mo_keep_52 : decode b_Mo_keep 52 = .ok (.getfield 50, 3) := by decide +kernel
theorem d_Mo_keep_55 : decode b_Mo_keep 55 = .ok (.aload_n 0, 1) := by decide +kernel
theorem d_Mo_keep_56 : decode b_Mo_keep 56 = .ok (.dup, 1) := by decide +kernel
theorem d_Mo_keep_57 : decode b_Mo_keep 57 = .ok (.getfield 74, 3) := by decide +kernel
theorem d_Mo_keep_60 : decode b_Mo_keep 60 = .ok (.dup_x1, 1) := by decide +kernel
theorem d_Mo_keep_61 : decode b_Mo_keep 61 = .ok (.iconst 1, 1) := by decide +kernel
theorem d_Mo_keep_62 : decode b_Mo_keep 62 = .ok (.iadd, 1) := by decide +kernel
theorem d_Mo_keep_63 : decode b_Mo_keep 63 = .ok (.putfield 74, 3) := by decide +kernel
theorem d_Mo_keep_66 : decode b_Mo_keep 66 = .ok (.aload_n 0, 1) := by decide +kernel
theorem d_Mo_keep_67 : decode b_Mo_keep 67 = .ok (.getfield 47, 3) := by decide +kernel
theorem d_Mo_keep_70 : decode b_Mo_keep 70 = .ok (.iload_n 1, 1) := by decide +kernel
theorem d_Mo_keep_71 : decode b_Mo_keep 71 = .ok (.iaload, 1) := by decide +kernel
theorem d_Mo_keep_72 : decode b_Mo_keep 72 = .ok (.iastore, 1) := by decide +kernel
theorem d_Mo_keep_73 : decode b_Mo_keep 73 = .ok (.aload_n 0, 1) := by decide +kernel
theorem d_Mo_keep_74 : decode b_Mo_keep 74 = .ok (.getfield 74, 3) := by decide +kernel
theorem d_Mo_keep_77 : decode b_Mo_keep 77 = .ok (.ireturn, 1) := by decide +kernel
theorem d_Mo_number_0 : decode b_Mo_number 0 = .ok (.aload_n 0, 1) := by decide +kernel
theorem d_Mo_number_1 : decode b_Mo_number 1 = .ok (.iconst 0, 1) := by decide +kernel
theorem d_Mo_number_2 : decode b_Mo_number 2 = .ok (.putfield 59, 3) := by decide +kernel
theorem d_Mo_number_5 : decode b_Mo_number 5 = .ok (.aload_n 0, 1) := by decide +kernel
theorem d_Mo_number_6 : decode b_Mo_number 6 = .ok (.iload_n 1, 1) := by decide +kernel
theorem d_Mo_number_7 : decode b_Mo_number 7 = .ok (.bipush 31, 2) := by decide +kernel
theorem d_Mo_number_9 : decode b_Mo_number 9 = .ok (.invokestatic 93, 3) := by decide +kernel
theorem d_Mo_number_12 : decode b_Mo_number 12 = .ok (.ifCond .ne 7, 3) := by decide +kernel
theorem d_Mo_number_15 : decode b_Mo_number 15 = .ok (.iconst 1, 1) := by decide +kernel
theorem d_Mo_number_16 : decode b_Mo_number 16 = .ok (.goto 4, 3) := by decide +kernel
theorem d_Mo_number_19 : decode b_Mo_number 19 = .ok (.iconst 0, 1) := by decide +kernel
theorem d_Mo_number_20 : decode b_Mo_number 20 = .ok (.iconst 1, 1) := by decide +kernel
theorem d_Mo_number_21 : decode b_Mo_number 21 = .ok (.invokevirtual 96, 3) := by decide +kernel
theorem d_Mo_number_24 : decode b_Mo_number 24 = .ok (.ifCond .ne 25, 3) := by decide +kernel
theorem d_Mo_number_27 : decode b_Mo_number 27 = .ok (.aload_n 0, 1) := by decide +kernel
theorem d_Mo_number_28 : decode b_Mo_number 28 = .ok (.aload_n 0, 1) := by decide +kernel
theorem d_Mo_number_29 : decode b_Mo_number 29 = .ok (.getfield 47, 3) := by decide +kernel
theorem d_Mo_number_32 : decode b_Mo_number 32 = .ok (.iload_n 1, 1) := by decide +kernel
theorem d_Mo_number_33 : decode b_Mo_number 33 = .ok (.iaload, 1) := by decide +kernel
theorem d_Mo_number_34 : decode b_Mo_number 34 = .ok (.ifCond .ne 7, 3) := by decide +kernel
theorem d_Mo_number_37 : decode b_Mo_number 37 = .ok (.iconst 1, 1) := by decide +kernel
theorem d_Mo_number_38 : decode b_Mo_number 38 = .ok (.goto 4, 3) := by decide +kernel
theorem d_Mo_number_41 : decode b_Mo_number 41 = .ok (.iconst 0, 1) := by decide +kernel
theorem d_Mo_number_42 : decode b_Mo_number 42 = .ok (.iconst 2, 1) := by decide +kernel
theorem d_Mo_number_43 : decode b_Mo_number 43 = .ok (.invokevirtual 96, 3) := by decide +kernel
theorem d_Mo_number_46 : decode b_Mo_number 46 = .ok (.ifCond .eq 5, 3) := by decide +kernel
theorem d_Mo_number_49 : decode b_Mo_number 49 = .ok (.iconst 0, 1) := by decide +kernel
theorem d_Mo_number_50 : decode b_Mo_number 50 = .ok (.ireturn, 1) := by decide +kernel
theorem d_Mo_number_51 : decode b_Mo_number 51 = .ok (.aload_n 0, 1) := by decide +kernel
theorem d_Mo_number_52 : decode b_Mo_number 52 = .ok (.getfield 29, 3) := by decide +kernel
theorem d_Mo_number_55 : decode b_Mo_number 55 = .ok (.aload_n 0, 1) := by decide +kernel
theorem d_Mo_number_56 : decode b_Mo_number 56 = .ok (.getfield 47, 3) := by decide +kernel
theorem d_Mo_number_59 : decode b_Mo_number 59 = .ok (.iload_n 1, 1) := by decide +kernel
theorem d_Mo_number_60 : decode b_Mo_number 60 = .ok (.iaload, 1) := by decide +kernel
theorem d_Mo_number_61 : decode b_Mo_number 61 = .ok (.iaload, 1) := by decide +kernel
theorem d_Mo_number_62 : decode b_Mo_number 62 = .ok (.ifCond .ne 25, 3) := by decide +kernel
theorem d_Mo_number_65 : decode b_Mo_number 65 = .ok (.aload_n 0, 1) := by decide +kernel
theorem d_Mo_number_66 : decode b_Mo_number 66 = .ok (.getfield 29, 3) := by decide +kernel
theorem d_Mo_number_69 : decode b_Mo_number 69 = .ok (.aload_n 0, 1) := by decide +kernel
theorem d_Mo_number_70 : decode b_Mo_number 70 = .ok (.getfield 47, 3) := by decide +kernel
theorem d_Mo_number_73 : decode b_Mo_number 73 = .ok (.iload_n 1, 1) := by decide +kernel
theorem d_Mo_number_74 : decode b_Mo_number 74 = .ok (.iaload, 1) := by decide +kernel
theorem d_Mo_number_75 : decode b_Mo_number 75 = .ok (.aload_n 0, 1) := by decide +kernel
theorem d_Mo_number_76 : decode b_Mo_number 76 = .ok (.dup, 1) := by decide +kernel
theorem d_Mo_number_77 : decode b_Mo_number 77 = .ok (.getfield 115, 3) := by decide +kernel
theorem d_Mo_number_80 : decode b_Mo_number 80 = .ok (.iconst 1, 1) := by decide +kernel
theorem d_Mo_number_81 : decode b_Mo_number 81 = .ok (.iadd, 1) := by decide +kernel
theorem d_Mo_number_82 : decode b_Mo_number 82 = .ok (.dup_x1, 1) := by decide +kernel
theorem d_Mo_number_83 : decode b_Mo_number 83 = .ok (.putfield 115, 3) := by decide +kernel
theorem d_Mo_number_86 : decode b_Mo_number 86 = .ok (.iastore, 1) := by decide +kernel
theorem d_Mo_number_87 : decode b_Mo_number 87 = .ok (.aload_n 0, 1) := by decide +kernel
theorem d_Mo_number_88 : decode b_Mo_number 88 = .ok (.getfield 29, 3) := by decide +kernel
theorem d_Mo_number_91 : decode b_Mo_number 91 = .ok (.aload_n 0, 1) := by decide +kernel
theorem d_Mo_number_92 : decode b_Mo_number 92 = .ok (.getfield 47, 3) := by decide +kernel
theorem d_Mo_number_95 : decode b_Mo_number 95 = .ok (.iload_n 1, 1) := by decide +kernel
theorem d_Mo_number_96 : decode b_Mo_number 96 = .ok (.iaload, 1) := by decide +kernel
theorem d_Mo_number_97 : decode b_Mo_number 97 = .ok (.iaload, 1) := by decide +kernel
theorem d_Mo_number_98 : decode b_Mo_number 98 = .ok (.ireturn, 1) := by decide +kernel
theorem d_Mo_size_0 : decode b_Mo_size 0 = .ok (.aload_n 0, 1) := by decide +kernel
theorem d_Mo_size_1 : decode b_Mo_size 1 = .ok (.iconst 0, 1) := by decide +kernel
theorem d_Mo_size_2 : decode b_Mo_size 2 = .ok (.putfield 59, 3) := by decide +kernel
theorem d_Mo_size_5 : decode b_Mo_size 5 = .ok (.aload_n 0, 1) := by decide +kernel
theorem d_Mo_size_6 : decode b_Mo_size 6 = .ok (.iload_n 1, 1) := by decide +kernel
theorem d_Mo_size_7 : decode b_Mo_size 7 = .ok (.bipush 31, 2) := by decide +kernel
theorem d_Mo_size_9 : decode b_Mo_size 9 = .ok (.invokestatic 93, 3) := by decide +kernel
theorem d_Mo_size_12 : decode b_Mo_size 12 = .ok (.ifCond .ne 7, 3) := by decide +kernel
theorem d_Mo_size_15 : decode b_Mo_size 15 = .ok (.iconst 1, 1) := by decide +kernel
theorem d_Mo_size_16 : decode b_Mo_size 16 = .ok (.goto 4, 3) := by decide +kernel
theorem d_Mo_size_19 : decode b_Mo_size 19 = .ok (.iconst 0, 1) := by decide +kernel
theorem d_Mo_size_20 : decode b_Mo_size 20 = .ok (.iconst 1, 1) := by decide +kernel
theorem d_Mo_size_21 : decode b_Mo_size 21 = .ok (.invokevirtual 96, 3) := by decide +kernel
theorem d_Mo_size_24 : decode b_Mo_size 24 = .ok (.ifCond .ne 25, 3) := by decide +kernel
theorem d_Mo_size_27 : decode b_Mo_size 27 = .ok (.aload_n 0, 1) := by decide +kernel
theorem d_Mo_size_28 : decode b_Mo_size 28 = .ok (.aload_n 0, 1) := by decide +kernel
theorem d_Mo_size_29 : decode b_Mo_size 29 = .ok (.getfield 47, 3) := by decide +kernel
theorem d_Mo_size_32 : decode b_Mo_size 32 = .ok (.iload_n 1, 1) := by decide +kernel
theorem d_Mo_size_33 : decode b_Mo_size 33 = .ok (.iaload, 1) := by decide +kernel
theorem d_Mo_size_34 : decode b_Mo_size 34 = .ok (.ifCond .ne 7, 3) := by decide +kernel
theorem d_Mo_size_37 : decode b_Mo_size 37 = .ok (.iconst 1, 1) := by decide +kernel
theorem d_Mo_size_38 : decode b_Mo_size 38 = .ok (.goto 4, 3) := by decide +kernel
theorem d_Mo_size_41 : decode b_Mo_size 41 = .ok (.iconst 0, 1) := by decide +kernel
theorem d_Mo_size_42 : decode b_Mo_size 42 = .ok (.iconst 2, 1) := by decide +kernel
theorem d_Mo_size_43 : decode b_Mo_size 43 = .ok (.invokevirtual 96, 3) := by decide +kernel
theorem d_Mo_size_46 : decode b_Mo_size 46 = .ok (.ifCond .eq 5, 3) := by decide +kernel
theorem d_Mo_size_49 : decode b_Mo_size 49 = .ok (.iconst 0, 1) := by decide +kernel
theorem d_Mo_size_50 : decode b_Mo_size 50 = .ok (.ireturn, 1) := by decide +kernel
theorem d_Mo_size_51 : decode b_Mo_size 51 = .ok (.aload_n 0, 1) := by decide +kernel
theorem d_Mo_size_52 : decode b_Mo_size 52 = .ok (.aload_n 0, 1) := by decide +kernel
theorem d_Mo_size_53 : decode b_Mo_size 53 = .ok (.getfield 47, 3) := by decide +kernel
theorem d_Mo_size_56 : decode b_Mo_size 56 = .ok (.iload_n 1, 1) := by decide +kernel
theorem d_Mo_size_57 : decode b_Mo_size 57 = .ok (.iaload, 1) := by decide +kernel
theorem d_Mo_size_58 : decode b_Mo_size 58 = .ok (.invokevirtual 77, 3) := by decide +kernel
theorem d_Mo_size_61 : decode b_Mo_size 61 = .ok (.ireturn, 1) := by decide +kernel
theorem d_Mo_memory_0 : decode b_Mo_memory 0 = .ok (.aload_n 0, 1) := by decide +kernel
theorem d_Mo_memory_1 : decode b_Mo_memory 1 = .ok (.iconst 0, 1) := by decide +kernel
theorem d_Mo_memory_2 : decode b_Mo_memory 2 = .ok (.putfield 59, 3) := by decide +kernel
theorem d_Mo_memory_5 : decode b_Mo_memory 5 = .ok (.aload_n 0, 1) := by decide +kernel
theorem d_Mo_memory_6 : decode b_Mo_memory 6 = .ok (.iload_n 1, 1) := by decide +kernel
theorem d_Mo_memory_7 : decode b_Mo_memory 7 = .ok (.bipush 16, 2) := by decide +kernel
theorem d_Mo_memory_9 : decode b_Mo_memory 9 = .ok (.if_icmp .lt 9, 3) := by decide +kernel
theorem d_Mo_memory_12 : decode b_Mo_memory 12 = .ok (.iload_n 1, 1) := by decide +kernel
theorem d_Mo_memory_13 : decode b_Mo_memory 13 = .ok (.ldc 32, 2) := by decide +kernel
theorem d_Mo_memory_15 : decode b_Mo_memory 15 = .ok (.if_icmp .le 7, 3) := by decide +kernel
theorem d_Mo_memory_18 : decode b_Mo_memory 18 = .ok (.iconst 1, 1) := by decide +kernel
theorem d_Mo_memory_19 : decode b_Mo_memory 19 = .ok (.goto 4, 3) := by decide +kernel
theorem d_Mo_memory_22 : decode b_Mo_memory 22 = .ok (.iconst 0, 1) := by decide +kernel
theorem d_Mo_memory_23 : decode b_Mo_memory 23 = .ok (.iconst 1, 1) := by decide +kernel
theorem d_Mo_memory_24 : decode b_Mo_memory 24 = .ok (.invokevirtual 96, 3) := by decide +kernel
theorem d_Mo_memory_27 : decode b_Mo_memory 27 = .ok (.ifCond .eq 5, 3) := by decide +kernel
theorem d_Mo_memory_30 : decode b_Mo_memory 30 = .ok (.iconst 0, 1) := by decide +kernel
theorem d_Mo_memory_31 : decode b_Mo_memory 31 = .ok (.ireturn, 1) := by decide +kernel
theorem d_Mo_memory_32 : decode b_Mo_memory 32 = .ok (.aload_n 0, 1) := by decide +kernel
theorem d_Mo_memory_33 : decode b_Mo_memory 33 = .ok (.invokevirtual 100, 3) := by decide +kernel
theorem d_Mo_memory_36 : decode b_Mo_memory 36 = .ok (.iload_n 1, 1) := by decide +kernel
theorem d_Mo_memory_37 : decode b_Mo_memory 37 = .ok (.i2l, 1) := by decide +kernel
theorem d_Mo_memory_38 : decode b_Mo_memory 38 = .ok (.lcmp, 1) := by decide +kernel
theorem d_Mo_memory_39 : decode b_Mo_memory 39 = .ok (.ifCond .gt 7, 3) := by decide +kernel
theorem d_Mo_memory_42 : decode b_Mo_memory 42 = .ok (.iconst 1, 1) := by decide +kernel
theorem d_Mo_memory_43 : decode b_Mo_memory 43 = .ok (.goto 4, 3) := by decide +kernel
theorem d_Mo_memory_46 : decode b_Mo_memory 46 = .ok (.iconst 0, 1) := by decide +kernel
theorem d_Mo_memory_47 : decode b_Mo_memory 47 = .ok (.istore_n 2, 1) := by decide +kernel
theorem d_Mo_memory_48 : decode b_Mo_memory 48 = .ok (.iload_n 2, 1) := by decide +kernel
theorem d_Mo_memory_49 : decode b_Mo_memory 49 = .ok (.ifCond .eq 8, 3) := by decide +kernel
theorem d_Mo_memory_52 : decode b_Mo_memory 52 = .ok (.aload_n 0, 1) := by decide +kernel
theorem d_Mo_memory_53 : decode b_Mo_memory 53 = .ok (.iload_n 1, 1) := by decide +kernel
theorem d_Mo_memory_54 : decode b_Mo_memory 54 = .ok (.putfield 33, 3) := by decide +kernel
theorem d_Mo_memory_57 : decode b_Mo_memory 57 = .ok (.iload_n 2, 1) := by decide +kernel
theorem d_Mo_memory_58 : decode b_Mo_memory 58 = .ok (.ireturn, 1) := by decide +kernel
theorem d_Mo_every_0 : decode b_Mo_every 0 = .ok (.aload_n 0, 1) := by decide +kernel
theorem d_Mo_every_1 : decode b_Mo_every 1 = .ok (.iconst 0, 1) := by decide +kernel
theorem d_Mo_every_2 : decode b_Mo_every 2 = .ok (.putfield 59, 3) := by decide +kernel
theorem d_Mo_every_5 : decode b_Mo_every 5 = .ok (.aload_n 0, 1) := by decide +kernel
theorem d_Mo_every_6 : decode b_Mo_every 6 = .ok (.iload_n 1, 1) := by decide +kernel
theorem d_Mo_every_7 : decode b_Mo_every 7 = .ok (.ifCond .ge 7, 3) := by decide +kernel
theorem d_Mo_every_10 : decode b_Mo_every 10 = .ok (.iconst 1, 1) := by decide +kernel
theorem d_Mo_every_11 : decode b_Mo_every 11 = .ok (.goto 4, 3) := by decide +kernel
theorem d_Mo_every_14 : decode b_Mo_every 14 = .ok (.iconst 0, 1) := by decide +kernel
theorem d_Mo_every_15 : decode b_Mo_every 15 = .ok (.iconst 1, 1) := by decide +kernel
theorem d_Mo_every_16 : decode b_Mo_every 16 = .ok (.invokevirtual 96, 3) := by decide +kernel
theorem d_Mo_every_19 : decode b_Mo_every 19 = .ok (.pop, 1) := by decide +kernel
theorem d_Mo_every_20 : decode b_Mo_every 20 = .ok (.return_, 1) := by decide +kernel
theorem d_Mo_collect_0 : decode b_Mo_collect 0 = .ok (.aload_n 0, 1) := by decide +kernel
theorem d_Mo_collect_1 : decode b_Mo_collect 1 = .ok (.iconst 0, 1) := by decide +kernel
theorem d_Mo_collect_2 : decode b_Mo_collect 2 = .ok (.putfield 59, 3) := by decide +kernel
theorem d_Mo_collect_5 : decode b_Mo_collect 5 = .ok (.aload_n 0, 1) := by decide +kernel
theorem d_Mo_collect_6 : decode b_Mo_collect 6 = .ok (.invokevirtual 100, 3) := by decide +kernel
theorem d_Mo_collect_9 : decode b_Mo_collect 9 = .ok (.l2i, 1) := by decide +kernel
theorem d_Mo_collect_10 : decode b_Mo_collect 10 = .ok (.ireturn, 1) := by decide +kernel
