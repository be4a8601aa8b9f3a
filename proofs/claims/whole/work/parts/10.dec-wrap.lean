/-! decode rows, laid by program -/
theorem d_La_plain_0 : decode b_La_plain 0 = .ok (.aload_n 0, 1) := by decide +kernel
theorem d_La_plain_1 : decode b_La_plain 1 = .ok (.iload_n 1, 1) := by decide +kernel
theorem d_La_plain_2 : decode b_La_plain 2 = .ok (.iload_n 2, 1) := by decide +kernel
theorem d_La_plain_3 : decode b_La_plain 3 = .ok (.iload_n 3, 1) := by decide +kernel
theorem d_La_plain_4 : decode b_La_plain 4 = .ok (.invokevirtual 7, 3) := by decide +kernel
theorem d_La_plain_7 : decode b_La_plain 7 = .ok (.goto 7, 3) := by decide +kernel
theorem d_La_plain_10 : decode b_La_plain 10 = .ok (.astore 4, 2) := by decide +kernel
theorem d_La_plain_12 : decode b_La_plain 12 = .ok (.iconst 1, 1) := by decide +kernel
theorem d_La_plain_13 : decode b_La_plain 13 = .ok (.ireturn, 1) := by decide +kernel
theorem d_La_plain_14 : decode b_La_plain 14 = .ok (.iconst 0, 1) := by decide +kernel
theorem d_La_plain_15 : decode b_La_plain 15 = .ok (.ireturn, 1) := by decide +kernel
theorem d_La_row_0 : decode b_La_row 0 = .ok (.aload_n 0, 1) := by decide +kernel
theorem d_La_row_1 : decode b_La_row 1 = .ok (.iload_n 1, 1) := by decide +kernel
theorem d_La_row_2 : decode b_La_row 2 = .ok (.iload_n 2, 1) := by decide +kernel
theorem d_La_row_3 : decode b_La_row 3 = .ok (.invokevirtual 15, 3) := by decide +kernel
theorem d_La_row_6 : decode b_La_row 6 = .ok (.goto 6, 3) := by decide +kernel
theorem d_La_row_9 : decode b_La_row 9 = .ok (.astore_n 3, 1) := by decide +kernel
theorem d_La_row_10 : decode b_La_row 10 = .ok (.iconst 1, 1) := by decide +kernel
theorem d_La_row_11 : decode b_La_row 11 = .ok (.ireturn, 1) := by decide +kernel
theorem d_La_row_12 : decode b_La_row 12 = .ok (.iconst 0, 1) := by decide +kernel
theorem d_La_row_13 : decode b_La_row 13 = .ok (.ireturn, 1) := by decide +kernel
theorem d_La_make_0 : decode b_La_make 0 = .ok (.aload 4, 2) := by decide +kernel
theorem d_La_make_2 : decode b_La_make 2 = .ok (.iconst 0, 1) := by decide +kernel
theorem d_La_make_3 : decode b_La_make 3 = .ok (.aload_n 0, 1) := by decide +kernel
theorem d_La_make_4 : decode b_La_make 4 = .ok (.iload_n 1, 1) := by decide +kernel
theorem d_La_make_5 : decode b_La_make 5 = .ok (.iload_n 2, 1) := by decide +kernel
theorem d_La_make_6 : decode b_La_make 6 = .ok (.iload_n 3, 1) := by decide +kernel
theorem d_La_make_7 : decode b_La_make 7 = .ok (.invokevirtual 19, 3) := by decide +kernel
theorem d_La_make_10 : decode b_La_make 10 = .ok (.i2l, 1) := by decide +kernel
theorem d_La_make_11 : decode b_La_make 11 = .ok (.lastore, 1) := by decide +kernel
theorem d_La_make_12 : decode b_La_make 12 = .ok (.goto 15, 3) := by decide +kernel
theorem d_La_make_15 : decode b_La_make 15 = .ok (.astore 5, 2) := by decide +kernel
theorem d_La_make_17 : decode b_La_make 17 = .ok (.iconst 1, 1) := by decide +kernel
theorem d_La_make_18 : decode b_La_make 18 = .ok (.ireturn, 1) := by decide +kernel
theorem d_La_make_19 : decode b_La_make 19 = .ok (.astore 5, 2) := by decide +kernel
theorem d_La_make_21 : decode b_La_make 21 = .ok (.iconst 2, 1) := by decide +kernel
theorem d_La_make_22 : decode b_La_make 22 = .ok (.ireturn, 1) := by decide +kernel
theorem d_La_make_23 : decode b_La_make 23 = .ok (.astore 5, 2) := by decide +kernel
theorem d_La_make_25 : decode b_La_make 25 = .ok (.iconst 3, 1) := by decide +kernel
theorem d_La_make_26 : decode b_La_make 26 = .ok (.ireturn, 1) := by decide +kernel
theorem d_La_make_27 : decode b_La_make 27 = .ok (.iconst 0, 1) := by decide +kernel
theorem d_La_make_28 : decode b_La_make 28 = .ok (.ireturn, 1) := by decide +kernel
theorem d_La_copy_0 : decode b_La_copy 0 = .ok (.aload_n 3, 1) := by decide +kernel
theorem d_La_copy_1 : decode b_La_copy 1 = .ok (.iconst 0, 1) := by decide +kernel
theorem d_La_copy_2 : decode b_La_copy 2 = .ok (.aload_n 0, 1) := by decide +kernel
theorem d_La_copy_3 : decode b_La_copy 3 = .ok (.iload_n 1, 1) := by decide +kernel
theorem d_La_copy_4 : decode b_La_copy 4 = .ok (.iload_n 2, 1) := by decide +kernel
theorem d_La_copy_5 : decode b_La_copy 5 = .ok (.invokevirtual 27, 3) := by decide +kernel
theorem d_La_copy_8 : decode b_La_copy 8 = .ok (.ifCond .eq 7, 3) := by decide +kernel
theorem d_La_copy_11 : decode b_La_copy 11 = .ok (.lconst 1, 1) := by decide +kernel
theorem d_La_copy_12 : decode b_La_copy 12 = .ok (.goto 4, 3) := by decide +kernel
theorem d_La_copy_15 : decode b_La_copy 15 = .ok (.lconst 0, 1) := by decide +kernel
theorem d_La_copy_16 : decode b_La_copy 16 = .ok (.lastore, 1) := by decide +kernel
theorem d_La_copy_17 : decode b_La_copy 17 = .ok (.goto 7, 3) := by decide +kernel
theorem d_La_copy_20 : decode b_La_copy 20 = .ok (.astore 4, 2) := by decide +kernel
theorem d_La_copy_22 : decode b_La_copy 22 = .ok (.iconst 1, 1) := by decide +kernel
theorem d_La_copy_23 : decode b_La_copy 23 = .ok (.ireturn, 1) := by decide +kernel
theorem d_La_copy_24 : decode b_La_copy 24 = .ok (.iconst 0, 1) := by decide +kernel
theorem d_La_copy_25 : decode b_La_copy 25 = .ok (.ireturn, 1) := by decide +kernel
theorem d_La_drop_0 : decode b_La_drop 0 = .ok (.aload_n 2, 1) := by decide +kernel
theorem d_La_drop_1 : decode b_La_drop 1 = .ok (.iconst 0, 1) := by decide +kernel
theorem d_La_drop_2 : decode b_La_drop 2 = .ok (.aload_n 0, 1) := by decide +kernel
theorem d_La_drop_3 : decode b_La_drop 3 = .ok (.iload_n 1, 1) := by decide +kernel
theorem d_La_drop_4 : decode b_La_drop 4 = .ok (.invokevirtual 31, 3) := by decide +kernel
theorem d_La_drop_7 : decode b_La_drop 7 = .ok (.ifCond .eq 7, 3) := by decide +kernel
theorem d_La_drop_10 : decode b_La_drop 10 = .ok (.lconst 1, 1) := by decide +kernel
theorem d_La_drop_11 : decode b_La_drop 11 = .ok (.goto 4, 3) := by decide +kernel
theorem d_La_drop_14 : decode b_La_drop 14 = .ok (.lconst 0, 1) := by decide +kernel
theorem d_La_drop_15 : decode b_La_drop 15 = .ok (.lastore, 1) := by decide +kernel
theorem d_La_drop_16 : decode b_La_drop 16 = .ok (.goto 6, 3) := by decide +kernel
theorem d_La_drop_19 : decode b_La_drop 19 = .ok (.astore_n 3, 1) := by decide +kernel
theorem d_La_drop_20 : decode b_La_drop 20 = .ok (.iconst 1, 1) := by decide +kernel
theorem d_La_drop_21 : decode b_La_drop 21 = .ok (.ireturn, 1) := by decide +kernel
theorem d_La_drop_22 : decode b_La_drop 22 = .ok (.iconst 0, 1) := by decide +kernel
theorem d_La_drop_23 : decode b_La_drop 23 = .ok (.ireturn, 1) := by decide +kernel
theorem d_La_same_0 : decode b_La_same 0 = .ok (.aload_n 3, 1) := by decide +kernel
theorem d_La_same_1 : decode b_La_same 1 = .ok (.iconst 0, 1) := by decide +kernel
theorem d_La_same_2 : decode b_La_same 2 = .ok (.aload_n 0, 1) := by decide +kernel
theorem d_La_same_3 : decode b_La_same 3 = .ok (.iload_n 1, 1) := by decide +kernel
theorem d_La_same_4 : decode b_La_same 4 = .ok (.iload_n 2, 1) := by decide +kernel
theorem d_La_same_5 : decode b_La_same 5 = .ok (.invokevirtual 35, 3) := by decide +kernel
theorem d_La_same_8 : decode b_La_same 8 = .ok (.ifCond .eq 7, 3) := by decide +kernel
theorem d_La_same_11 : decode b_La_same 11 = .ok (.lconst 1, 1) := by decide +kernel
theorem d_La_same_12 : decode b_La_same 12 = .ok (.goto 4, 3) := by decide +kernel
theorem d_La_same_15 : decode b_La_same 15 = .ok (.lconst 0, 1) := by decide +kernel
theorem d_La_same_16 : decode b_La_same 16 = .ok (.lastore, 1) := by decide +kernel
theorem d_La_same_17 : decode b_La_same 17 = .ok (.goto 7, 3) := by decide +kernel
theorem d_La_same_20 : decode b_La_same 20 = .ok (.astore 4, 2) := by decide +kernel
theorem d_La_same_22 : decode b_La_same 22 = .ok (.iconst 1, 1) := by decide +kernel
theorem d_La_same_23 : decode b_La_same 23 = .ok (.ireturn, 1) := by decide +kernel
theorem d_La_same_24 : decode b_La_same 24 = .ok (.iconst 0, 1) := by decide +kernel
theorem d_La_same_25 : decode b_La_same 25 = .ok (.ireturn, 1) := by decide +kernel
theorem d_La_get_0 : decode b_La_get 0 = .ok (.aload_n 3, 1) := by decide +kernel
theorem d_La_get_1 : decode b_La_get 1 = .ok (.iconst 0, 1) := by decide +kernel
theorem d_La_get_2 : decode b_La_get 2 = .ok (.aload_n 0, 1) := by decide +kernel
theorem d_La_get_3 : decode b_La_get 3 = .ok (.iload_n 1, 1) := by decide +kernel
theorem d_La_get_4 : decode b_La_get 4 = .ok (.iload_n 2, 1) := by decide +kernel
theorem d_La_get_5 : decode b_La_get 5 = .ok (.invokevirtual 38, 3) := by decide +kernel
theorem d_La_get_8 : decode b_La_get 8 = .ok (.lastore, 1) := by decide +kernel
theorem d_La_get_9 : decode b_La_get 9 = .ok (.goto 19, 3) := by decide +kernel
theorem d_La_get_12 : decode b_La_get 12 = .ok (.astore 4, 2) := by decide +kernel
theorem d_La_get_14 : decode b_La_get 14 = .ok (.iconst 1, 1) := by decide +kernel
theorem d_La_get_15 : decode b_La_get 15 = .ok (.ireturn, 1) := by decide +kernel
theorem d_La_get_16 : decode b_La_get 16 = .ok (.astore 4, 2) := by decide +kernel
theorem d_La_get_18 : decode b_La_get 18 = .ok (.iconst 2, 1) := by decide +kernel
theorem d_La_get_19 : decode b_La_get 19 = .ok (.ireturn, 1) := by decide +kernel
theorem d_La_get_20 : decode b_La_get 20 = .ok (.astore 4, 2) := by decide +kernel
theorem d_La_get_22 : decode b_La_get 22 = .ok (.iconst 3, 1) := by decide +kernel
theorem d_La_get_23 : decode b_La_get 23 = .ok (.ireturn, 1) := by decide +kernel
theorem d_La_get_24 : decode b_La_get 24 = .ok (.astore 4, 2) := by decide +kernel
theorem d_La_get_26 : decode b_La_get 26 = .ok (.iconst 4, 1) := by decide +kernel
theorem d_La_get_27 : decode b_La_get 27 = .ok (.ireturn, 1) := by decide +kernel
theorem d_La_get_28 : decode b_La_get 28 = .ok (.iconst 0, 1) := by decide +kernel
theorem d_La_get_29 : decode b_La_get 29 = .ok (.ireturn, 1) := by decide +kernel
theorem d_La_put_0 : decode b_La_put 0 = .ok (.aload_n 0, 1) := by decide +kernel
theorem d_La_put_1 : decode b_La_put 1 = .ok (.iload_n 1, 1) := by decide +kernel
theorem d_La_put_2 : decode b_La_put 2 = .ok (.iload_n 2, 1) := by decide +kernel
theorem d_La_put_3 : decode b_La_put 3 = .ok (.lload_n 3, 1) := by decide +kernel
theorem d_La_put_4 : decode b_La_put 4 = .ok (.invokevirtual 44, 3) := by decide +kernel
theorem d_La_put_7 : decode b_La_put 7 = .ok (.goto 19, 3) := by decide +kernel
theorem d_La_put_10 : decode b_La_put 10 = .ok (.astore 5, 2) := by decide +kernel
theorem d_La_put_12 : decode b_La_put 12 = .ok (.iconst 1, 1) := by decide +kernel
theorem d_La_put_13 : decode b_La_put 13 = .ok (.ireturn, 1) := by decide +kernel
theorem d_La_put_14 : decode b_La_put 14 = .ok (.astore 5, 2) := by decide +kernel
theorem d_La_put_16 : decode b_La_put 16 = .ok (.iconst 2, 1) := by decide +kernel
theorem d_La_put_17 : decode b_La_put 17 = .ok (.ireturn, 1) := by decide +kernel
theorem d_La_put_18 : decode b_La_put 18 = .ok (.astore 5, 2) := by decide +kernel
theorem d_La_put_20 : decode b_La_put 20 = .ok (.iconst 3, 1) := by decide +kernel
theorem d_La_put_21 : decode b_La_put 21 = .ok (.ireturn, 1) := by decide +kernel
theorem d_La_put_22 : decode b_La_put 22 = .ok (.astore 5, 2) := by decide +kernel
theorem d_La_put_24 : decode b_La_put 24 = .ok (.iconst 4, 1) := by decide +kernel
theorem d_La_put_25 : decode b_La_put 25 = .ok (.ireturn, 1) := by decide +kernel
theorem d_La_put_26 : decode b_La_put 26 = .ok (.iconst 0, 1) := by decide +kernel
theorem d_La_put_27 : decode b_La_put 27 = .ok (.ireturn, 1) := by decide +kernel
theorem d_La_link_0 : decode b_La_link 0 = .ok (.aload 4, 2) := by decide +kernel
theorem d_La_link_2 : decode b_La_link 2 = .ok (.iconst 0, 1) := by decide +kernel
theorem d_La_link_3 : decode b_La_link 3 = .ok (.aload_n 0, 1) := by decide +kernel
theorem d_La_link_4 : decode b_La_link 4 = .ok (.iload_n 1, 1) := by decide +kernel
theorem d_La_link_5 : decode b_La_link 5 = .ok (.iload_n 2, 1) := by decide +kernel
theorem d_La_link_6 : decode b_La_link 6 = .ok (.iload_n 3, 1) := by decide +kernel
theorem d_La_link_7 : decode b_La_link 7 = .ok (.invokevirtual 48, 3) := by decide +kernel
theorem d_La_link_10 : decode b_La_link 10 = .ok (.ifCond .eq 7, 3) := by decide +kernel
theorem d_La_link_13 : decode b_La_link 13 = .ok (.lconst 1, 1) := by decide +kernel
theorem d_La_link_14 : decode b_La_link 14 = .ok (.goto 4, 3) := by decide +kernel
theorem d_La_link_17 : decode b_La_link 17 = .ok (.lconst 0, 1) := by decide +kernel
theorem d_La_link_18 : decode b_La_link 18 = .ok (.lastore, 1) := by decide +kernel
theorem d_La_link_19 : decode b_La_link 19 = .ok (.goto 19, 3) := by decide +kernel
theorem d_La_link_22 : decode b_La_link 22 = .ok (.astore 5, 2) := by decide +kernel
theorem d_La_link_24 : decode b_La_link 24 = .ok (.iconst 1, 1) := by decide +kernel
theorem d_La_link_25 : decode b_La_link 25 = .ok (.ireturn, 1) := by decide +kernel
theorem d_La_link_26 : decode b_La_link 26 = .ok (.astore 5, 2) := by decide +kernel
theorem d_La_link_28 : decode b_La_link 28 = .ok (.iconst 2, 1) := by decide +kernel
theorem d_La_link_29 : decode b_La_link 29 = .ok (.ireturn, 1) := by decide +kernel
theorem d_La_link_30 : decode b_La_link 30 = .ok (.astore 5, 2) := by decide +kernel
theorem d_La_link_32 : decode b_La_link 32 = .ok (.iconst 3, 1) := by decide +kernel
theorem d_La_link_33 : decode b_La_link 33 = .ok (.ireturn, 1) := by decide +kernel
theorem d_La_link_34 : decode b_La_link 34 = .ok (.astore 5, 2) := by decide +kernel
theorem d_La_link_36 : decode b_La_link 36 = .ok (.iconst 4, 1) := by decide +kernel
theorem d_La_link_37 : decode b_La_link 37 = .ok (.ireturn, 1) := by decide +kernel
theorem d_La_link_38 : decode b_La_link 38 = .ok (.iconst 0, 1) := by decide +kernel
theorem d_La_link_39 : decode b_La_link 39 = .ok (.ireturn, 1) := by decide +kernel
theorem d_La_follow_0 : decode b_La_follow 0 = .ok (.aload 4, 2) := by decide +kernel
theorem d_La_follow_2 : decode b_La_follow 2 = .ok (.iconst 0, 1) := by decide +kernel
theorem d_La_follow_3 : decode b_La_follow 3 = .ok (.aload_n 0, 1) := by decide +kernel
theorem d_La_follow_4 : decode b_La_follow 4 = .ok (.iload_n 1, 1) := by decide +kernel
theorem d_La_follow_5 : decode b_La_follow 5 = .ok (.iload_n 2, 1) := by decide +kernel
theorem d_La_follow_6 : decode b_La_follow 6 = .ok (.iload_n 3, 1) := by decide +kernel
theorem d_La_follow_7 : decode b_La_follow 7 = .ok (.invokevirtual 52, 3) := by decide +kernel
theorem d_La_follow_10 : decode b_La_follow 10 = .ok (.ifCond .eq 7, 3) := by decide +kernel
theorem d_La_follow_13 : decode b_La_follow 13 = .ok (.lconst 1, 1) := by decide +kernel
theorem d_La_follow_14 : decode b_La_follow 14 = .ok (.goto 4, 3) := by decide +kernel
theorem d_La_follow_17 : decode b_La_follow 17 = .ok (.lconst 0, 1) := by decide +kernel
theorem d_La_follow_18 : decode b_La_follow 18 = .ok (.lastore, 1) := by decide +kernel
theorem d_La_follow_19 : decode b_La_follow 19 = .ok (.goto 19, 3) := by decide +kernel
theorem d_La_follow_22 : decode b_La_follow 22 = .ok (.astore 5, 2) := by decide +kernel
theorem d_La_follow_24 : decode b_La_follow 24 = .ok (.iconst 1, 1) := by decide +kernel
theorem d_La_follow_25 : decode b_La_follow 25 = .ok (.ireturn, 1) := by decide +kernel
theorem d_La_follow_26 : decode b_La_follow 26 = .ok (.astore 5, 2) := by decide +kernel
theorem d_La_follow_28 : decode b_La_follow 28 = .ok (.iconst 2, 1) := by decide +kernel
theorem d_La_follow_29 : decode b_La_follow 29 = .ok (.ireturn, 1) := by decide +kernel
theorem d_La_follow_30 : decode b_La_follow 30 = .ok (.astore 5, 2) := by decide +kernel
theorem d_La_follow_32 : decode b_La_follow 32 = .ok (.iconst 3, 1) := by decide +kernel
theorem d_La_follow_33 : decode b_La_follow 33 = .ok (.ireturn, 1) := by decide +kernel
theorem d_La_follow_34 : decode b_La_follow 34 = .ok (.astore 5, 2) := by decide +kernel
theorem d_La_follow_36 : decode b_La_follow 36 = .ok (.iconst 4, 1) := by decide +kernel
theorem d_La_follow_37 : decode b_La_follow 37 = .ok (.ireturn, 1) := by decide +kernel
theorem d_La_follow_38 : decode b_La_follow 38 = .ok (.iconst 0, 1) := by decide +kernel
theorem d_La_follow_39 : decode b_La_follow 39 = .ok (.ireturn, 1) := by decide +kernel
theorem d_La_keep_0 : decode b_La_keep 0 = .ok (.aload_n 2, 1) := by decide +kernel
theorem d_La_keep_1 : decode b_La_keep 1 = .ok (.iconst 0, 1) := by decide +kernel
theorem d_La_keep_2 : decode b_La_keep 2 = .ok (.aload_n 0, 1) := by decide +kernel
theorem d_La_keep_3 : decode b_La_keep 3 = .ok (.iload_n 1, 1) := by decide +kernel
theorem d_La_keep_4 : decode b_La_keep 4 = .ok (.invokevirtual 55, 3) := by decide +kernel
theorem d_La_keep_7 : decode b_La_keep 7 = .ok (.i2l, 1) := by decide +kernel
theorem d_La_keep_8 : decode b_La_keep 8 = .ok (.lastore, 1) := by decide +kernel
theorem d_La_keep_9 : decode b_La_keep 9 = .ok (.goto 9, 3) := by decide +kernel
theorem d_La_keep_12 : decode b_La_keep 12 = .ok (.astore_n 3, 1) := by decide +kernel
theorem d_La_keep_13 : decode b_La_keep 13 = .ok (.iconst 1, 1) := by decide +kernel
theorem d_La_keep_14 : decode b_La_keep 14 = .ok (.ireturn, 1) := by decide +kernel
theorem d_La_keep_15 : decode b_La_keep 15 = .ok (.astore_n 3, 1) := by decide +kernel
theorem d_La_keep_16 : decode b_La_keep 16 = .ok (.iconst 2, 1) := by decide +kernel
theorem d_La_keep_17 : decode b_La_keep 17 = .ok (.ireturn, 1) := by decide +kernel
theorem d_La_keep_18 : decode b_La_keep 18 = .ok (.iconst 0, 1) := by decide +kernel
theorem d_La_keep_19 : decode b_La_keep 19 = .ok (.ireturn, 1) := by decide +kernel
theorem d_La_number_0 : decode b_La_number 0 = .ok (.aload_n 2, 1) := by decide +kernel
theorem d_La_number_1 : decode b_La_number 1 = .ok (.iconst 0, 1) := by decide +kernel
theorem d_La_number_2 : decode b_La_number 2 = .ok (.aload_n 0, 1) := by decide +kernel
theorem d_La_number_3 : decode b_La_number 3 = .ok (.iload_n 1, 1) := by decide +kernel
theorem d_La_number_4 : decode b_La_number 4 = .ok (.invokevirtual 59, 3) := by decide +kernel
theorem d_La_number_7 : decode b_La_number 7 = .ok (.i2l, 1) := by decide +kernel
theorem d_La_number_8 : decode b_La_number 8 = .ok (.lastore, 1) := by decide +kernel
theorem d_La_number_9 : decode b_La_number 9 = .ok (.goto 9, 3) := by decide +kernel
theorem d_La_number_12 : decode b_La_number 12 = .ok (.astore_n 3, 1) := by decide +kernel
theorem d_La_number_13 : decode b_La_number 13 = .ok (.iconst 1, 1) := by decide +kernel
theorem d_La_number_14 : decode b_La_number 14 = .ok (.ireturn, 1) := by decide +kernel
theorem d_La_number_15 : decode b_La_number 15 = .ok (.astore_n 3, 1) := by decide +kernel
theorem d_La_number_16 : decode b_La_number 16 = .ok (.iconst 2, 1) := by decide +kernel
theorem d_La_number_17 : decode b_La_number 17 = .ok (.ireturn, 1) := by decide +kernel
theorem d_La_number_18 : decode b_La_number 18 = .ok (.iconst 0, 1) := by decide +kernel
theorem d_La_number_19 : decode b_La_number 19 = .ok (.ireturn, 1) := by decide +kernel
theorem d_La_size_0 : decode b_La_size 0 = .ok (.aload_n 2, 1) := by decide +kernel
theorem d_La_size_1 : decode b_La_size 1 = .ok (.iconst 0, 1) := by decide +kernel
theorem d_La_size_2 : decode b_La_size 2 = .ok (.aload_n 0, 1) := by decide +kernel
theorem d_La_size_3 : decode b_La_size 3 = .ok (.iload_n 1, 1) := by decide +kernel
theorem d_La_size_4 : decode b_La_size 4 = .ok (.invokevirtual 62, 3) := by decide +kernel
theorem d_La_size_7 : decode b_La_size 7 = .ok (.i2l, 1) := by decide +kernel
theorem d_La_size_8 : decode b_La_size 8 = .ok (.lastore, 1) := by decide +kernel
theorem d_La_size_9 : decode b_La_size 9 = .ok (.goto 9, 3) := by decide +kernel
theorem d_La_size_12 : decode b_La_size 12 = .ok (.astore_n 3, 1) := by decide +kernel
theorem d_La_size_13 : decode b_La_size 13 = .ok (.iconst 1, 1) := by decide +kernel
theorem d_La_size_14 : decode b_La_size 14 = .ok (.ireturn, 1) := by decide +kernel
theorem d_La_size_15 : decode b_La_size 15 = .ok (.astore_n 3, 1) := by decide +kernel
theorem d_La_size_16 : decode b_La_size 16 = .ok (.iconst 2, 1) := by decide +kernel
theorem d_La_size_17 : decode b_La_size 17 = .ok (.ireturn, 1) := by decide +kernel
theorem d_La_size_18 : decode b_La_size 18 = .ok (.iconst 0, 1) := by decide +kernel
theorem d_La_size_19 : decode b_La_size 19 = .ok (.ireturn, 1) := by decide +kernel
theorem d_La_memory_0 : decode b_La_memory 0 = .ok (.aload_n 2, 1) := by decide +kernel
theorem d_La_memory_1 : decode b_La_memory 1 = .ok (.iconst 0, 1) := by decide +kernel
theorem d_La_memory_2 : decode b_La_memory 2 = .ok (.aload_n 0, 1) := by decide +kernel
theorem d_La_memory_3 : decode b_La_memory 3 = .ok (.iload_n 1, 1) := by decide +kernel
theorem d_La_memory_4 : decode b_La_memory 4 = .ok (.invokevirtual 65, 3) := by decide +kernel
theorem d_La_memory_7 : decode b_La_memory 7 = .ok (.ifCond .eq 7, 3) := by decide +kernel
theorem d_La_memory_10 : decode b_La_memory 10 = .ok (.lconst 1, 1) := by decide +kernel
theorem d_La_memory_11 : decode b_La_memory 11 = .ok (.goto 4, 3) := by decide +kernel
theorem d_La_memory_14 : decode b_La_memory 14 = .ok (.lconst 0, 1) := by decide +kernel
theorem d_La_memory_15 : decode b_La_memory 15 = .ok (.lastore, 1) := by decide +kernel
theorem d_La_memory_16 : decode b_La_memory 16 = .ok (.goto 6, 3) := by decide +kernel
theorem d_La_memory_19 : decode b_La_memory 19 = .ok (.astore_n 3, 1) := by decide +kernel
theorem d_La_memory_20 : decode b_La_memory 20 = .ok (.iconst 1, 1) := by decide +kernel
theorem d_La_memory_21 : decode b_La_memory 21 = .ok (.ireturn, 1) := by decide +kernel
theorem d_La_memory_22 : decode b_La_memory 22 = .ok (.iconst 0, 1) := by decide +kernel
theorem d_La_memory_23 : decode b_La_memory 23 = .ok (.ireturn, 1) := by decide +kernel
theorem d_La_every_0 : decode b_La_every 0 = .ok (.aload_n 0, 1) := by decide +kernel
theorem d_La_every_1 : decode b_La_every 1 = .ok (.iload_n 1, 1) := by decide +kernel
theorem d_La_every_2 : decode b_La_every 2 = .ok (.invokevirtual 68, 3) := by decide +kernel
theorem d_La_every_5 : decode b_La_every 5 = .ok (.goto 6, 3) := by decide +kernel
theorem d_La_every_8 : decode b_La_every 8 = .ok (.astore_n 2, 1) := by decide +kernel
theorem d_La_every_9 : decode b_La_every 9 = .ok (.iconst 1, 1) := by decide +kernel
theorem d_La_every_10 : decode b_La_every 10 = .ok (.ireturn, 1) := by decide +kernel
theorem d_La_every_11 : decode b_La_every 11 = .ok (.iconst 0, 1) := by decide +kernel
theorem d_La_every_12 : decode b_La_every 12 = .ok (.ireturn, 1) := by decide +kernel
