theorem dX11_state_0 : decode cX11_state 0 = .ok (.aload_n 0, 1) := by decide +kernel
theorem dX11_state_1 : decode cX11_state 1 = .ok (.getfield 10, 3) := by decide +kernel
theorem dX11_state_4 : decode cX11_state 4 = .ok (.getfield 51, 3) := by decide +kernel
theorem dX11_state_7 : decode cX11_state 7 = .ok (.istore_n 2, 1) := by decide +kernel
theorem dX11_state_8 : decode cX11_state 8 = .ok (.aload_n 0, 1) := by decide +kernel
theorem dX11_state_9 : decode cX11_state 9 = .ok (.getfield 10, 3) := by decide +kernel
theorem dX11_state_12 : decode cX11_state 12 = .ok (.iload_n 1, 1) := by decide +kernel
theorem dX11_state_13 : decode cX11_state 13 = .ok (.putfield 51, 3) := by decide +kernel
theorem dX11_state_16 : decode cX11_state 16 = .ok (.iload_n 2, 1) := by decide +kernel
theorem dX11_state_17 : decode cX11_state 17 = .ok (.ireturn, 1) := by decide +kernel
theorem dX11_within_0 : decode cX11_within 0 = .ok (.iload_n 0, 1) := by decide +kernel
theorem dX11_within_1 : decode cX11_within 1 = .ok (.iload_n 1, 1) := by decide +kernel
theorem dX11_within_2 : decode cX11_within 2 = .ok (.if_icmp .lt 12, 3) := by decide +kernel
theorem dX11_within_5 : decode cX11_within 5 = .ok (.iload_n 0, 1) := by decide +kernel
theorem dX11_within_6 : decode cX11_within 6 = .ok (.iload_n 2, 1) := by decide +kernel
theorem dX11_within_7 : decode cX11_within 7 = .ok (.if_icmp .gt 7, 3) := by decide +kernel
theorem dX11_within_10 : decode cX11_within 10 = .ok (.iconst 1, 1) := by decide +kernel
theorem dX11_within_11 : decode cX11_within 11 = .ok (.goto 4, 3) := by decide +kernel
theorem dX11_within_14 : decode cX11_within 14 = .ok (.iconst 0, 1) := by decide +kernel
theorem dX11_within_15 : decode cX11_within 15 = .ok (.ireturn, 1) := by decide +kernel
theorem dX10_forget_0 : decode cX10_forget 0 = .ok (.aload_n 0, 1) := by decide +kernel
theorem dX10_forget_1 : decode cX10_forget 1 = .ok (.iconst 0, 1) := by decide +kernel
theorem dX10_forget_2 : decode cX10_forget 2 = .ok (.putfield 23, 3) := by decide +kernel
theorem dX10_forget_5 : decode cX10_forget 5 = .ok (.return_, 1) := by decide +kernel
theorem dX6_become_0 : decode cX6_become 0 = .ok (.aload_n 0, 1) := by decide +kernel
theorem dX6_become_1 : decode cX6_become 1 = .ok (.iload_n 1, 1) := by decide +kernel
theorem dX6_become_2 : decode cX6_become 2 = .ok (.putfield 9, 3) := by decide +kernel
theorem dX6_become_5 : decode cX6_become 5 = .ok (.aload_n 0, 1) := by decide +kernel
theorem dX6_become_6 : decode cX6_become 6 = .ok (.iload_n 2, 1) := by decide +kernel
theorem dX6_become_7 : decode cX6_become 7 = .ok (.putfield 15, 3) := by decide +kernel
theorem dX6_become_10 : decode cX6_become 10 = .ok (.aload_n 0, 1) := by decide +kernel
theorem dX6_become_11 : decode cX6_become 11 = .ok (.iload_n 3, 1) := by decide +kernel
theorem dX6_become_12 : decode cX6_become 12 = .ok (.putfield 18, 3) := by decide +kernel
theorem dX6_become_15 : decode cX6_become 15 = .ok (.aload_n 0, 1) := by decide +kernel
theorem dX6_become_16 : decode cX6_become 16 = .ok (.iload 4, 2) := by decide +kernel
theorem dX6_become_18 : decode cX6_become 18 = .ok (.putfield 21, 3) := by decide +kernel
theorem dX6_become_21 : decode cX6_become 21 = .ok (.aload_n 0, 1) := by decide +kernel
theorem dX6_become_22 : decode cX6_become 22 = .ok (.iconst 0, 1) := by decide +kernel
theorem dX6_become_23 : decode cX6_become 23 = .ok (.putfield 24, 3) := by decide +kernel
theorem dX6_become_26 : decode cX6_become 26 = .ok (.return_, 1) := by decide +kernel
theorem dX11_reader_0 : decode cX11_reader 0 = .ok (.iload_n 1, 1) := by decide +kernel
theorem dX11_reader_1 : decode cX11_reader 1 = .ok (.ldc 55, 2) := by decide +kernel
theorem dX11_reader_3 : decode cX11_reader 3 = .ok (.sipush 9999, 3) := by decide +kernel
theorem dX11_reader_6 : decode cX11_reader 6 = .ok (.invokestatic 56, 3) := by decide +kernel
theorem dX11_reader_9 : decode cX11_reader 9 = .ok (.ifCond .eq 37, 3) := by decide +kernel
theorem dX11_reader_12 : decode cX11_reader 12 = .ok (.iload_n 2, 1) := by decide +kernel
theorem dX11_reader_13 : decode cX11_reader 13 = .ok (.iconst (-1), 1) := by decide +kernel
theorem dX11_reader_14 : decode cX11_reader 14 = .ok (.sipush 9999, 3) := by decide +kernel
theorem dX11_reader_17 : decode cX11_reader 17 = .ok (.invokestatic 56, 3) := by decide +kernel
theorem dX11_reader_20 : decode cX11_reader 20 = .ok (.ifCond .eq 26, 3) := by decide +kernel
theorem dX11_reader_23 : decode cX11_reader 23 = .ok (.iload_n 3, 1) := by decide +kernel
theorem dX11_reader_24 : decode cX11_reader 24 = .ok (.iconst 0, 1) := by decide +kernel
theorem dX11_reader_25 : decode cX11_reader 25 = .ok (.iconst 1, 1) := by decide +kernel
theorem dX11_reader_26 : decode cX11_reader 26 = .ok (.invokestatic 56, 3) := by decide +kernel
theorem dX11_reader_29 : decode cX11_reader 29 = .ok (.ifCond .eq 17, 3) := by decide +kernel
theorem dX11_reader_32 : decode cX11_reader 32 = .ok (.iload 4, 2) := by decide +kernel
theorem dX11_reader_34 : decode cX11_reader 34 = .ok (.iconst 0, 1) := by decide +kernel
theorem dX11_reader_35 : decode cX11_reader 35 = .ok (.iconst 3, 1) := by decide +kernel
theorem dX11_reader_36 : decode cX11_reader 36 = .ok (.invokestatic 56, 3) := by decide +kernel
theorem dX11_reader_39 : decode cX11_reader 39 = .ok (.ifCond .eq 7, 3) := by decide +kernel
theorem dX11_reader_42 : decode cX11_reader 42 = .ok (.iconst 1, 1) := by decide +kernel
theorem dX11_reader_43 : decode cX11_reader 43 = .ok (.goto 4, 3) := by decide +kernel
theorem dX11_reader_46 : decode cX11_reader 46 = .ok (.iconst 0, 1) := by decide +kernel
theorem dX11_reader_47 : decode cX11_reader 47 = .ok (.istore 5, 2) := by decide +kernel
theorem dX11_reader_49 : decode cX11_reader 49 = .ok (.iload 5, 2) := by decide +kernel
theorem dX11_reader_51 : decode cX11_reader 51 = .ok (.ifCond .eq 15, 3) := by decide +kernel
theorem dX11_reader_54 : decode cX11_reader 54 = .ok (.aload_n 0, 1) := by decide +kernel
theorem dX11_reader_55 : decode cX11_reader 55 = .ok (.getfield 10, 3) := by decide +kernel
theorem dX11_reader_58 : decode cX11_reader 58 = .ok (.getfield 60, 3) := by decide +kernel
theorem dX11_reader_61 : decode cX11_reader 61 = .ok (.bipush 12, 2) := by decide +kernel
theorem dX11_reader_63 : decode cX11_reader 63 = .ok (.if_icmp .lt 5, 3) := by decide +kernel
theorem dX11_reader_66 : decode cX11_reader 66 = .ok (.iconst (-1), 1) := by decide +kernel
theorem dX11_reader_67 : decode cX11_reader 67 = .ok (.ireturn, 1) := by decide +kernel
theorem dX11_reader_68 : decode cX11_reader 68 = .ok (.aload_n 0, 1) := by decide +kernel
theorem dX11_reader_69 : decode cX11_reader 69 = .ok (.getfield 40, 3) := by decide +kernel
theorem dX11_reader_72 : decode cX11_reader 72 = .ok (.invokevirtual 63, 3) := by decide +kernel
theorem dX11_reader_75 : decode cX11_reader 75 = .ok (.aload_n 0, 1) := by decide +kernel
theorem dX11_reader_76 : decode cX11_reader 76 = .ok (.getfield 10, 3) := by decide +kernel
theorem dX11_reader_79 : decode cX11_reader 79 = .ok (.getfield 60, 3) := by decide +kernel
theorem dX11_reader_82 : decode cX11_reader 82 = .ok (.istore 6, 2) := by decide +kernel
theorem dX11_reader_84 : decode cX11_reader 84 = .ok (.aload_n 0, 1) := by decide +kernel
theorem dX11_reader_85 : decode cX11_reader 85 = .ok (.getfield 10, 3) := by decide +kernel
theorem dX11_reader_88 : decode cX11_reader 88 = .ok (.getfield 66, 3) := by decide +kernel
theorem dX11_reader_91 : decode cX11_reader 91 = .ok (.iload 6, 2) := by decide +kernel
theorem dX11_reader_93 : decode cX11_reader 93 = .ok (.aaload, 1) := by decide +kernel
theorem dX11_reader_94 : decode cX11_reader 94 = .ok (.iload_n 1, 1) := by decide +kernel
theorem dX11_reader_95 : decode cX11_reader 95 = .ok (.iload_n 2, 1) := by decide +kernel
theorem dX11_reader_96 : decode cX11_reader 96 = .ok (.iload_n 3, 1) := by decide +kernel
theorem dX11_reader_97 : decode cX11_reader 97 = .ok (.iload 4, 2) := by decide +kernel
theorem dX11_reader_99 : decode cX11_reader 99 = .ok (.invokevirtual 70, 3) := by decide +kernel
theorem dX11_reader_102 : decode cX11_reader 102 = .ok (.aload_n 0, 1) := by decide +kernel
theorem dX11_reader_103 : decode cX11_reader 103 = .ok (.getfield 10, 3) := by decide +kernel
theorem dX11_reader_106 : decode cX11_reader 106 = .ok (.iload 6, 2) := by decide +kernel
theorem dX11_reader_108 : decode cX11_reader 108 = .ok (.iconst 1, 1) := by decide +kernel
theorem dX11_reader_109 : decode cX11_reader 109 = .ok (.iadd, 1) := by decide +kernel
theorem dX11_reader_110 : decode cX11_reader 110 = .ok (.putfield 60, 3) := by decide +kernel
theorem dX11_reader_113 : decode cX11_reader 113 = .ok (.iload 6, 2) := by decide +kernel
theorem dX11_reader_115 : decode cX11_reader 115 = .ok (.ireturn, 1) := by decide +kernel
theorem dX0_readerAt_0 : decode cX0_readerAt 0 = .ok (.iload_n 1, 1) := by decide +kernel
theorem dX0_readerAt_1 : decode cX0_readerAt 1 = .ok (.iconst 0, 1) := by decide +kernel
theorem dX0_readerAt_2 : decode cX0_readerAt 2 = .ok (.aload_n 0, 1) := by decide +kernel
theorem dX0_readerAt_3 : decode cX0_readerAt 3 = .ok (.getfield 50, 3) := by decide +kernel
theorem dX0_readerAt_6 : decode cX0_readerAt 6 = .ok (.iconst 1, 1) := by decide +kernel
theorem dX0_readerAt_7 : decode cX0_readerAt 7 = .ok (.isub, 1) := by decide +kernel
theorem dX0_readerAt_8 : decode cX0_readerAt 8 = .ok (.invokestatic 68, 3) := by decide +kernel
theorem dX0_readerAt_11 : decode cX0_readerAt 11 = .ok (.ifCond .eq 12, 3) := by decide +kernel
theorem dX0_readerAt_14 : decode cX0_readerAt 14 = .ok (.aload_n 0, 1) := by decide +kernel
theorem dX0_readerAt_15 : decode cX0_readerAt 15 = .ok (.getfield 11, 3) := by decide +kernel
theorem dX0_readerAt_18 : decode cX0_readerAt 18 = .ok (.iload_n 1, 1) := by decide +kernel
theorem dX0_readerAt_19 : decode cX0_readerAt 19 = .ok (.aaload, 1) := by decide +kernel
theorem dX0_readerAt_20 : decode cX0_readerAt 20 = .ok (.goto 4, 3) := by decide +kernel
theorem dX0_readerAt_23 : decode cX0_readerAt 23 = .ok (.aconst_null, 1) := by decide +kernel
theorem dX0_readerAt_24 : decode cX0_readerAt 24 = .ok (.areturn, 1) := by decide +kernel
theorem dX6_tell_0 : decode cX6_tell 0 = .ok (.iload_n 1, 1) := by decide +kernel
theorem dX6_tell_1 : decode cX6_tell 1 = .ok (.ifCond .ne 26, 3) := by decide +kernel
theorem dX6_tell_4 : decode cX6_tell 4 = .ok (.iload_n 2, 1) := by decide +kernel
theorem dX6_tell_5 : decode cX6_tell 5 = .ok (.iconst (-1), 1) := by decide +kernel
theorem dX6_tell_6 : decode cX6_tell 6 = .ok (.if_icmp .eq 14, 3) := by decide +kernel
theorem dX6_tell_9 : decode cX6_tell 9 = .ok (.iload_n 2, 1) := by decide +kernel
theorem dX6_tell_10 : decode cX6_tell 10 = .ok (.iload_n 3, 1) := by decide +kernel
theorem dX6_tell_11 : decode cX6_tell 11 = .ok (.sipush 9999, 3) := by decide +kernel
theorem dX6_tell_14 : decode cX6_tell 14 = .ok (.invokestatic 27, 3) := by decide +kernel
theorem dX6_tell_17 : decode cX6_tell 17 = .ok (.ifCond .eq 10, 3) := by decide +kernel
theorem dX6_tell_20 : decode cX6_tell 20 = .ok (.aload_n 0, 1) := by decide +kernel
theorem dX6_tell_21 : decode cX6_tell 21 = .ok (.iload_n 2, 1) := by decide +kernel
theorem dX6_tell_22 : decode cX6_tell 22 = .ok (.putfield 15, 3) := by decide +kernel
theorem dX6_tell_25 : decode cX6_tell 25 = .ok (.iconst 1, 1) := by decide +kernel
theorem dX6_tell_26 : decode cX6_tell 26 = .ok (.ireturn, 1) := by decide +kernel
theorem dX6_tell_27 : decode cX6_tell 27 = .ok (.iload_n 1, 1) := by decide +kernel
theorem dX6_tell_28 : decode cX6_tell 28 = .ok (.iconst 1, 1) := by decide +kernel
theorem dX6_tell_29 : decode cX6_tell 29 = .ok (.if_icmp .ne 19, 3) := by decide +kernel
theorem dX6_tell_32 : decode cX6_tell 32 = .ok (.iload_n 2, 1) := by decide +kernel
theorem dX6_tell_33 : decode cX6_tell 33 = .ok (.iconst 0, 1) := by decide +kernel
theorem dX6_tell_34 : decode cX6_tell 34 = .ok (.iconst 1, 1) := by decide +kernel
theorem dX6_tell_35 : decode cX6_tell 35 = .ok (.invokestatic 27, 3) := by decide +kernel
theorem dX6_tell_38 : decode cX6_tell 38 = .ok (.ifCond .eq 10, 3) := by decide +kernel
theorem dX6_tell_41 : decode cX6_tell 41 = .ok (.aload_n 0, 1) := by decide +kernel
theorem dX6_tell_42 : decode cX6_tell 42 = .ok (.iload_n 2, 1) := by decide +kernel
theorem dX6_tell_43 : decode cX6_tell 43 = .ok (.putfield 18, 3) := by decide +kernel
theorem dX6_tell_46 : decode cX6_tell 46 = .ok (.iconst 1, 1) := by decide +kernel
theorem dX6_tell_47 : decode cX6_tell 47 = .ok (.ireturn, 1) := by decide +kernel
theorem dX6_tell_48 : decode cX6_tell 48 = .ok (.iload_n 1, 1) := by decide +kernel
theorem dX6_tell_49 : decode cX6_tell 49 = .ok (.iconst 2, 1) := by decide +kernel
theorem dX6_tell_50 : decode cX6_tell 50 = .ok (.if_icmp .ne 21, 3) := by decide +kernel
theorem dX6_tell_53 : decode cX6_tell 53 = .ok (.iload_n 2, 1) := by decide +kernel
theorem dX6_tell_54 : decode cX6_tell 54 = .ok (.iconst 0, 1) := by decide +kernel
theorem dX6_tell_55 : decode cX6_tell 55 = .ok (.sipush 9999, 3) := by decide +kernel
theorem dX6_tell_58 : decode cX6_tell 58 = .ok (.invokestatic 27, 3) := by decide +kernel
theorem dX6_tell_61 : decode cX6_tell 61 = .ok (.ifCond .eq 10, 3) := by decide +kernel
theorem dX6_tell_64 : decode cX6_tell 64 = .ok (.aload_n 0, 1) := by decide +kernel
theorem dX6_tell_65 : decode cX6_tell 65 = .ok (.iload_n 2, 1) := by decide +kernel
theorem dX6_tell_66 : decode cX6_tell 66 = .ok (.putfield 24, 3) := by decide +kernel
theorem dX6_tell_69 : decode cX6_tell 69 = .ok (.iconst 1, 1) := by decide +kernel
theorem dX6_tell_70 : decode cX6_tell 70 = .ok (.ireturn, 1) := by decide +kernel
theorem dX6_tell_71 : decode cX6_tell 71 = .ok (.iconst 0, 1) := by decide +kernel
theorem dX6_tell_72 : decode cX6_tell 72 = .ok (.ireturn, 1) := by decide +kernel
theorem dX11_set_0 : decode cX11_set 0 = .ok (.aload_n 0, 1) := by decide +kernel
theorem dX11_set_1 : decode cX11_set 1 = .ok (.getfield 10, 3) := by decide +kernel
theorem dX11_set_4 : decode cX11_set 4 = .ok (.iload_n 1, 1) := by decide +kernel
theorem dX11_set_5 : decode cX11_set 5 = .ok (.invokevirtual 76, 3) := by decide +kernel
theorem dX11_set_8 : decode cX11_set 8 = .ok (.astore 4, 2) := by decide +kernel
theorem dX11_set_10 : decode cX11_set 10 = .ok (.aload 4, 2) := by decide +kernel
theorem dX11_set_12 : decode cX11_set 12 = .ok (.ifnonnull 5, 3) := by decide +kernel
theorem dX11_set_15 : decode cX11_set 15 = .ok (.iconst 0, 1) := by decide +kernel
theorem dX11_set_16 : decode cX11_set 16 = .ok (.ireturn, 1) := by decide +kernel
theorem dX11_set_17 : decode cX11_set 17 = .ok (.aload 4, 2) := by decide +kernel
theorem dX11_set_19 : decode cX11_set 19 = .ok (.iload_n 2, 1) := by decide +kernel
theorem dX11_set_20 : decode cX11_set 20 = .ok (.iload_n 3, 1) := by decide +kernel
theorem dX11_set_21 : decode cX11_set 21 = .ok (.aload_n 0, 1) := by decide +kernel
theorem dX11_set_22 : decode cX11_set 22 = .ok (.getfield 10, 3) := by decide +kernel
theorem dX11_set_25 : decode cX11_set 25 = .ok (.getfield 80, 3) := by decide +kernel
theorem dX11_set_28 : decode cX11_set 28 = .ok (.invokevirtual 83, 3) := by decide +kernel
theorem dX11_set_31 : decode cX11_set 31 = .ok (.istore 5, 2) := by decide +kernel
theorem dX11_set_33 : decode cX11_set 33 = .ok (.iload 5, 2) := by decide +kernel
theorem dX11_set_35 : decode cX11_set 35 = .ok (.ifCond .eq 10, 3) := by decide +kernel
theorem dX11_set_38 : decode cX11_set 38 = .ok (.aload_n 0, 1) := by decide +kernel
theorem dX11_set_39 : decode cX11_set 39 = .ok (.getfield 40, 3) := by decide +kernel
theorem dX11_set_42 : decode cX11_set 42 = .ok (.invokevirtual 63, 3) := by decide +kernel
theorem dX11_set_45 : decode cX11_set 45 = .ok (.iload 5, 2) := by decide +kernel
theorem dX11_set_47 : decode cX11_set 47 = .ok (.ireturn, 1) := by decide +kernel
theorem dX11_isShelf_0 : decode cX11_isShelf 0 = .ok (.iload_n 0, 1) := by decide +kernel
theorem dX11_isShelf_1 : decode cX11_isShelf 1 = .ok (.iconst 0, 1) := by decide +kernel
theorem dX11_isShelf_2 : decode cX11_isShelf 2 = .ok (.iconst 4, 1) := by decide +kernel
theorem dX11_isShelf_3 : decode cX11_isShelf 3 = .ok (.invokestatic 56, 3) := by decide +kernel
theorem dX11_isShelf_6 : decode cX11_isShelf 6 = .ok (.ireturn, 1) := by decide +kernel
theorem dX5_becomeUnread_0 : decode cX5_becomeUnread 0 = .ok (.aload_n 0, 1) := by decide +kernel
theorem dX5_becomeUnread_1 : decode cX5_becomeUnread 1 = .ok (.iconst (-1), 1) := by decide +kernel
theorem dX5_becomeUnread_2 : decode cX5_becomeUnread 2 = .ok (.putfield 28, 3) := by decide +kernel
theorem dX5_becomeUnread_5 : decode cX5_becomeUnread 5 = .ok (.aload_n 0, 1) := by decide +kernel
theorem dX5_becomeUnread_6 : decode cX5_becomeUnread 6 = .ok (.iconst 0, 1) := by decide +kernel
theorem dX5_becomeUnread_7 : decode cX5_becomeUnread 7 = .ok (.putfield 31, 3) := by decide +kernel
theorem dX5_becomeUnread_10 : decode cX5_becomeUnread 10 = .ok (.aload_n 0, 1) := by decide +kernel
theorem dX5_becomeUnread_11 : decode cX5_becomeUnread 11 = .ok (.iconst 0, 1) := by decide +kernel
theorem dX5_becomeUnread_12 : decode cX5_becomeUnread 12 = .ok (.putfield 34, 3) := by decide +kernel
theorem dX5_becomeUnread_15 : decode cX5_becomeUnread 15 = .ok (.aload_n 0, 1) := by decide +kernel
theorem dX5_becomeUnread_16 : decode cX5_becomeUnread 16 = .ok (.iload_n 1, 1) := by decide +kernel
theorem dX5_becomeUnread_17 : decode cX5_becomeUnread 17 = .ok (.putfield 37, 3) := by decide +kernel
theorem dX5_becomeUnread_20 : decode cX5_becomeUnread 20 = .ok (.return_, 1) := by decide +kernel
theorem dX5_become_0 : decode cX5_become 0 = .ok (.aload_n 0, 1) := by decide +kernel
theorem dX5_become_1 : decode cX5_become 1 = .ok (.iload_n 1, 1) := by decide +kernel
theorem dX5_become_2 : decode cX5_become 2 = .ok (.putfield 9, 3) := by decide +kernel
theorem dX5_become_5 : decode cX5_become 5 = .ok (.aload_n 0, 1) := by decide +kernel
theorem dX5_become_6 : decode cX5_become 6 = .ok (.iload_n 2, 1) := by decide +kernel
theorem dX5_become_7 : decode cX5_become 7 = .ok (.putfield 15, 3) := by decide +kernel
theorem dX5_become_10 : decode cX5_become 10 = .ok (.aload_n 0, 1) := by decide +kernel
theorem dX5_become_11 : decode cX5_become 11 = .ok (.iload_n 3, 1) := by decide +kernel
theorem dX5_become_12 : decode cX5_become 12 = .ok (.putfield 18, 3) := by decide +kernel
theorem dX5_become_15 : decode cX5_become 15 = .ok (.aload_n 0, 1) := by decide +kernel
theorem dX5_become_16 : decode cX5_become 16 = .ok (.iconst (-1), 1) := by decide +kernel
theorem dX5_become_17 : decode cX5_become 17 = .ok (.putfield 21, 3) := by decide +kernel
theorem dX5_become_20 : decode cX5_become 20 = .ok (.aload_n 0, 1) := by decide +kernel
theorem dX5_become_21 : decode cX5_become 21 = .ok (.iload_n 3, 1) := by decide +kernel
theorem dX5_become_22 : decode cX5_become 22 = .ok (.invokevirtual 24, 3) := by decide +kernel
theorem dX5_become_25 : decode cX5_become 25 = .ok (.return_, 1) := by decide +kernel
theorem dX11_paper_0 : decode cX11_paper 0 = .ok (.iload_n 1, 1) := by decide +kernel
theorem dX11_paper_1 : decode cX11_paper 1 = .ok (.invokestatic 86, 3) := by decide +kernel
theorem dX11_paper_4 : decode cX11_paper 4 = .ok (.ifCond .eq 15, 3) := by decide +kernel
theorem dX11_paper_7 : decode cX11_paper 7 = .ok (.aload_n 0, 1) := by decide +kernel
theorem dX11_paper_8 : decode cX11_paper 8 = .ok (.getfield 10, 3) := by decide +kernel
theorem dX11_paper_11 : decode cX11_paper 11 = .ok (.getfield 90, 3) := by decide +kernel
theorem dX11_paper_14 : decode cX11_paper 14 = .ok (.bipush 12, 2) := by decide +kernel
theorem dX11_paper_16 : decode cX11_paper 16 = .ok (.if_icmp .lt 5, 3) := by decide +kernel
theorem dX11_paper_19 : decode cX11_paper 19 = .ok (.iconst (-1), 1) := by decide +kernel
theorem dX11_paper_20 : decode cX11_paper 20 = .ok (.ireturn, 1) := by decide +kernel
theorem dX11_paper_21 : decode cX11_paper 21 = .ok (.aload_n 0, 1) := by decide +kernel
theorem dX11_paper_22 : decode cX11_paper 22 = .ok (.getfield 40, 3) := by decide +kernel
theorem dX11_paper_25 : decode cX11_paper 25 = .ok (.invokevirtual 63, 3) := by decide +kernel
theorem dX11_paper_28 : decode cX11_paper 28 = .ok (.aload_n 0, 1) := by decide +kernel
theorem dX11_paper_29 : decode cX11_paper 29 = .ok (.getfield 10, 3) := by decide +kernel
theorem dX11_paper_32 : decode cX11_paper 32 = .ok (.getfield 90, 3) := by decide +kernel
theorem dX11_paper_35 : decode cX11_paper 35 = .ok (.istore_n 2, 1) := by decide +kernel
theorem dX11_paper_36 : decode cX11_paper 36 = .ok (.aload_n 0, 1) := by decide +kernel
theorem dX11_paper_37 : decode cX11_paper 37 = .ok (.getfield 10, 3) := by decide +kernel
theorem dX11_paper_40 : decode cX11_paper 40 = .ok (.getfield 93, 3) := by decide +kernel
theorem dX11_paper_43 : decode cX11_paper 43 = .ok (.iload_n 2, 1) := by decide +kernel
theorem dX11_paper_44 : decode cX11_paper 44 = .ok (.aaload, 1) := by decide +kernel
theorem dX11_paper_45 : decode cX11_paper 45 = .ok (.iload_n 2, 1) := by decide +kernel
theorem dX11_paper_46 : decode cX11_paper 46 = .ok (.iload_n 1, 1) := by decide +kernel
theorem dX11_paper_47 : decode cX11_paper 47 = .ok (.aload_n 0, 1) := by decide +kernel
theorem dX11_paper_48 : decode cX11_paper 48 = .ok (.getfield 10, 3) := by decide +kernel
theorem dX11_paper_51 : decode cX11_paper 51 = .ok (.getfield 80, 3) := by decide +kernel
theorem dX11_paper_54 : decode cX11_paper 54 = .ok (.invokevirtual 97, 3) := by decide +kernel
theorem dX11_paper_57 : decode cX11_paper 57 = .ok (.aload_n 0, 1) := by decide +kernel
theorem dX11_paper_58 : decode cX11_paper 58 = .ok (.getfield 10, 3) := by decide +kernel
theorem dX11_paper_61 : decode cX11_paper 61 = .ok (.iload_n 2, 1) := by decide +kernel
theorem dX11_paper_62 : decode cX11_paper 62 = .ok (.iconst 1, 1) := by decide +kernel
theorem dX11_paper_63 : decode cX11_paper 63 = .ok (.iadd, 1) := by decide +kernel
theorem dX11_paper_64 : decode cX11_paper 64 = .ok (.putfield 90, 3) := by decide +kernel
theorem dX11_paper_67 : decode cX11_paper 67 = .ok (.iload_n 2, 1) := by decide +kernel
theorem dX11_paper_68 : decode cX11_paper 68 = .ok (.ireturn, 1) := by decide +kernel
theorem dX0_paperAt_0 : decode cX0_paperAt 0 = .ok (.iload_n 1, 1) := by decide +kernel
theorem dX0_paperAt_1 : decode cX0_paperAt 1 = .ok (.iconst 0, 1) := by decide +kernel
theorem dX0_paperAt_2 : decode cX0_paperAt 2 = .ok (.aload_n 0, 1) := by decide +kernel
theorem dX0_paperAt_3 : decode cX0_paperAt 3 = .ok (.getfield 54, 3) := by decide +kernel
theorem dX0_paperAt_6 : decode cX0_paperAt 6 = .ok (.iconst 1, 1) := by decide +kernel
theorem dX0_paperAt_7 : decode cX0_paperAt 7 = .ok (.isub, 1) := by decide +kernel
theorem dX0_paperAt_8 : decode cX0_paperAt 8 = .ok (.invokestatic 68, 3) := by decide +kernel
theorem dX0_paperAt_11 : decode cX0_paperAt 11 = .ok (.ifCond .eq 12, 3) := by decide +kernel
theorem dX0_paperAt_14 : decode cX0_paperAt 14 = .ok (.aload_n 0, 1) := by decide +kernel
theorem dX0_paperAt_15 : decode cX0_paperAt 15 = .ok (.getfield 19, 3) := by decide +kernel
theorem dX0_paperAt_18 : decode cX0_paperAt 18 = .ok (.iload_n 1, 1) := by decide +kernel
theorem dX0_paperAt_19 : decode cX0_paperAt 19 = .ok (.aaload, 1) := by decide +kernel
theorem dX0_paperAt_20 : decode cX0_paperAt 20 = .ok (.goto 4, 3) := by decide +kernel
theorem dX0_paperAt_23 : decode cX0_paperAt 23 = .ok (.aconst_null, 1) := by decide +kernel
theorem dX0_paperAt_24 : decode cX0_paperAt 24 = .ok (.areturn, 1) := by decide +kernel
theorem dX11_move_0 : decode cX11_move 0 = .ok (.aload_n 0, 1) := by decide +kernel
theorem dX11_move_1 : decode cX11_move 1 = .ok (.getfield 10, 3) := by decide +kernel
theorem dX11_move_4 : decode cX11_move 4 = .ok (.iload_n 1, 1) := by decide +kernel
theorem dX11_move_5 : decode cX11_move 5 = .ok (.invokevirtual 102, 3) := by decide +kernel
theorem dX11_move_8 : decode cX11_move 8 = .ok (.astore_n 3, 1) := by decide +kernel
theorem dX11_move_9 : decode cX11_move 9 = .ok (.aload_n 3, 1) := by decide +kernel
theorem dX11_move_10 : decode cX11_move 10 = .ok (.ifnull 10, 3) := by decide +kernel
theorem dX11_move_13 : decode cX11_move 13 = .ok (.iload_n 2, 1) := by decide +kernel
theorem dX11_move_14 : decode cX11_move 14 = .ok (.invokestatic 86, 3) := by decide +kernel
theorem dX11_move_17 : decode cX11_move 17 = .ok (.ifCond .ne 5, 3) := by decide +kernel
theorem dX11_move_20 : decode cX11_move 20 = .ok (.iconst 0, 1) := by decide +kernel
theorem dX11_move_21 : decode cX11_move 21 = .ok (.ireturn, 1) := by decide +kernel
theorem dX11_move_22 : decode cX11_move 22 = .ok (.aload_n 0, 1) := by decide +kernel
theorem dX11_move_23 : decode cX11_move 23 = .ok (.getfield 40, 3) := by decide +kernel
theorem dX11_move_26 : decode cX11_move 26 = .ok (.invokevirtual 63, 3) := by decide +kernel
theorem dX11_move_29 : decode cX11_move 29 = .ok (.aload_n 3, 1) := by decide +kernel
theorem dX11_move_30 : decode cX11_move 30 = .ok (.iload_n 2, 1) := by decide +kernel
theorem dX11_move_31 : decode cX11_move 31 = .ok (.putfield 106, 3) := by decide +kernel
theorem dX11_move_34 : decode cX11_move 34 = .ok (.iconst 1, 1) := by decide +kernel
theorem dX11_move_35 : decode cX11_move 35 = .ok (.ireturn, 1) := by decide +kernel
theorem dX0_changeShelves_0 : decode cX0_changeShelves 0 = .ok (.iconst 0, 1) := by decide +kernel
theorem dX0_changeShelves_1 : decode cX0_changeShelves 1 = .ok (.istore_n 3, 1) := by decide +kernel
theorem dX0_changeShelves_2 : decode cX0_changeShelves 2 = .ok (.iload_n 3, 1) := by decide +kernel
theorem dX0_changeShelves_3 : decode cX0_changeShelves 3 = .ok (.aload_n 0, 1) := by decide +kernel
theorem dX0_changeShelves_4 : decode cX0_changeShelves 4 = .ok (.getfield 54, 3) := by decide +kernel
theorem dX0_changeShelves_7 : decode cX0_changeShelves 7 = .ok (.if_icmp .ge 58, 3) := by decide +kernel
theorem dX0_changeShelves_10 : decode cX0_changeShelves 10 = .ok (.aload_n 0, 1) := by decide +kernel
theorem dX0_changeShelves_11 : decode cX0_changeShelves 11 = .ok (.getfield 19, 3) := by decide +kernel
theorem dX0_changeShelves_14 : decode cX0_changeShelves 14 = .ok (.iload_n 3, 1) := by decide +kernel
theorem dX0_changeShelves_15 : decode cX0_changeShelves 15 = .ok (.aaload, 1) := by decide +kernel
theorem dX0_changeShelves_16 : decode cX0_changeShelves 16 = .ok (.getfield 95, 3) := by decide +kernel
theorem dX0_changeShelves_19 : decode cX0_changeShelves 19 = .ok (.iload_n 1, 1) := by decide +kernel
theorem dX0_changeShelves_20 : decode cX0_changeShelves 20 = .ok (.if_icmp .ne 16, 3) := by decide +kernel
theorem dX0_changeShelves_23 : decode cX0_changeShelves 23 = .ok (.aload_n 0, 1) := by decide +kernel
theorem dX0_changeShelves_24 : decode cX0_changeShelves 24 = .ok (.getfield 19, 3) := by decide +kernel
theorem dX0_changeShelves_27 : decode cX0_changeShelves 27 = .ok (.iload_n 3, 1) := by decide +kernel
theorem dX0_changeShelves_28 : decode cX0_changeShelves 28 = .ok (.aaload, 1) := by decide +kernel
theorem dX0_changeShelves_29 : decode cX0_changeShelves 29 = .ok (.iload_n 2, 1) := by decide +kernel
theorem dX0_changeShelves_30 : decode cX0_changeShelves 30 = .ok (.putfield 95, 3) := by decide +kernel
theorem dX0_changeShelves_33 : decode cX0_changeShelves 33 = .ok (.goto 26, 3) := by decide +kernel
theorem dX0_changeShelves_36 : decode cX0_changeShelves 36 = .ok (.aload_n 0, 1) := by decide +kernel
theorem dX0_changeShelves_37 : decode cX0_changeShelves 37 = .ok (.getfield 19, 3) := by decide +kernel
theorem dX0_changeShelves_40 : decode cX0_changeShelves 40 = .ok (.iload_n 3, 1) := by decide +kernel
theorem dX0_changeShelves_41 : decode cX0_changeShelves 41 = .ok (.aaload, 1) := by decide +kernel
theorem dX0_changeShelves_42 : decode cX0_changeShelves 42 = .ok (.getfield 95, 3) := by decide +kernel
theorem dX0_changeShelves_45 : decode cX0_changeShelves 45 = .ok (.iload_n 2, 1) := by decide +kernel
theorem dX0_changeShelves_46 : decode cX0_changeShelves 46 = .ok (.if_icmp .ne 13, 3) := by decide +kernel
theorem dX0_changeShelves_49 : decode cX0_changeShelves 49 = .ok (.aload_n 0, 1) := by decide +kernel
theorem dX0_changeShelves_50 : decode cX0_changeShelves 50 = .ok (.getfield 19, 3) := by decide +kernel
theorem dX0_changeShelves_53 : decode cX0_changeShelves 53 = .ok (.iload_n 3, 1) := by decide +kernel
theorem dX0_changeShelves_54 : decode cX0_changeShelves 54 = .ok (.aaload, 1) := by decide +kernel
theorem dX0_changeShelves_55 : decode cX0_changeShelves 55 = .ok (.iload_n 1, 1) := by decide +kernel
theorem dX0_changeShelves_56 : decode cX0_changeShelves 56 = .ok (.putfield 95, 3) := by decide +kernel
theorem dX0_changeShelves_59 : decode cX0_changeShelves 59 = .ok (.iinc 3 1, 3) := by decide +kernel
theorem dX0_changeShelves_62 : decode cX0_changeShelves 62 = .ok (.goto (-60), 3) := by decide +kernel
theorem dX0_changeShelves_65 : decode cX0_changeShelves 65 = .ok (.return_, 1) := by decide +kernel
theorem dX11_swap_0 : decode cX11_swap 0 = .ok (.iload_n 1, 1) := by decide +kernel
theorem dX11_swap_1 : decode cX11_swap 1 = .ok (.invokestatic 86, 3) := by decide +kernel
theorem dX11_swap_4 : decode cX11_swap 4 = .ok (.ifCond .eq 15, 3) := by decide +kernel
theorem dX11_swap_7 : decode cX11_swap 7 = .ok (.iload_n 2, 1) := by decide +kernel
theorem dX11_swap_8 : decode cX11_swap 8 = .ok (.invokestatic 86, 3) := by decide +kernel
theorem dX11_swap_11 : decode cX11_swap 11 = .ok (.ifCond .eq 8, 3) := by decide +kernel
theorem dX11_swap_14 : decode cX11_swap 14 = .ok (.iload_n 1, 1) := by decide +kernel
theorem dX11_swap_15 : decode cX11_swap 15 = .ok (.iload_n 2, 1) := by decide +kernel
theorem dX11_swap_16 : decode cX11_swap 16 = .ok (.if_icmp .ne 5, 3) := by decide +kernel
theorem dX11_swap_19 : decode cX11_swap 19 = .ok (.iconst 0, 1) := by decide +kernel
theorem dX11_swap_20 : decode cX11_swap 20 = .ok (.ireturn, 1) := by decide +kernel
theorem dX11_swap_21 : decode cX11_swap 21 = .ok (.aload_n 0, 1) := by decide +kernel
theorem dX11_swap_22 : decode cX11_swap 22 = .ok (.getfield 40, 3) := by decide +kernel
theorem dX11_swap_25 : decode cX11_swap 25 = .ok (.invokevirtual 63, 3) := by decide +kernel
theorem dX11_swap_28 : decode cX11_swap 28 = .ok (.aload_n 0, 1) := by decide +kernel
theorem dX11_swap_29 : decode cX11_swap 29 = .ok (.getfield 10, 3) := by decide +kernel
theorem dX11_swap_32 : decode cX11_swap 32 = .ok (.iload_n 1, 1) := by decide +kernel
theorem dX11_swap_33 : decode cX11_swap 33 = .ok (.iload_n 2, 1) := by decide +kernel
theorem dX11_swap_34 : decode cX11_swap 34 = .ok (.invokevirtual 109, 3) := by decide +kernel
theorem dX11_swap_37 : decode cX11_swap 37 = .ok (.iconst 1, 1) := by decide +kernel
theorem dX11_swap_38 : decode cX11_swap 38 = .ok (.ireturn, 1) := by decide +kernel
theorem dX0_papersOn_0 : decode cX0_papersOn 0 = .ok (.iconst 0, 1) := by decide +kernel
theorem dX0_papersOn_1 : decode cX0_papersOn 1 = .ok (.istore_n 2, 1) := by decide +kernel
theorem dX0_papersOn_2 : decode cX0_papersOn 2 = .ok (.iconst 0, 1) := by decide +kernel
theorem dX0_papersOn_3 : decode cX0_papersOn 3 = .ok (.istore_n 3, 1) := by decide +kernel
theorem dX0_papersOn_4 : decode cX0_papersOn 4 = .ok (.iload_n 3, 1) := by decide +kernel
theorem dX0_papersOn_5 : decode cX0_papersOn 5 = .ok (.aload_n 0, 1) := by decide +kernel
theorem dX0_papersOn_6 : decode cX0_papersOn 6 = .ok (.getfield 54, 3) := by decide +kernel
theorem dX0_papersOn_9 : decode cX0_papersOn 9 = .ok (.if_icmp .ge 25, 3) := by decide +kernel
theorem dX0_papersOn_12 : decode cX0_papersOn 12 = .ok (.aload_n 0, 1) := by decide +kernel
theorem dX0_papersOn_13 : decode cX0_papersOn 13 = .ok (.getfield 19, 3) := by decide +kernel
theorem dX0_papersOn_16 : decode cX0_papersOn 16 = .ok (.iload_n 3, 1) := by decide +kernel
theorem dX0_papersOn_17 : decode cX0_papersOn 17 = .ok (.aaload, 1) := by decide +kernel
theorem dX0_papersOn_18 : decode cX0_papersOn 18 = .ok (.getfield 95, 3) := by decide +kernel
theorem dX0_papersOn_21 : decode cX0_papersOn 21 = .ok (.iload_n 1, 1) := by decide +kernel
theorem dX0_papersOn_22 : decode cX0_papersOn 22 = .ok (.if_icmp .ne 6, 3) := by decide +kernel
theorem dX0_papersOn_25 : decode cX0_papersOn 25 = .ok (.iinc 2 1, 3) := by decide +kernel
theorem dX0_papersOn_28 : decode cX0_papersOn 28 = .ok (.iinc 3 1, 3) := by decide +kernel
theorem dX0_papersOn_31 : decode cX0_papersOn 31 = .ok (.goto (-27), 3) := by decide +kernel
theorem dX0_papersOn_34 : decode cX0_papersOn 34 = .ok (.iload_n 2, 1) := by decide +kernel
theorem dX0_papersOn_35 : decode cX0_papersOn 35 = .ok (.ireturn, 1) := by decide +kernel
theorem dX0_burn_0 : decode cX0_burn 0 = .ok (.iconst 0, 1) := by decide +kernel
theorem dX0_burn_1 : decode cX0_burn 1 = .ok (.istore_n 2, 1) := by decide +kernel
theorem dX0_burn_2 : decode cX0_burn 2 = .ok (.iload_n 2, 1) := by decide +kernel
theorem dX0_burn_3 : decode cX0_burn 3 = .ok (.aload_n 0, 1) := by decide +kernel
theorem dX0_burn_4 : decode cX0_burn 4 = .ok (.getfield 54, 3) := by decide +kernel
theorem dX0_burn_7 : decode cX0_burn 7 = .ok (.if_icmp .ge 35, 3) := by decide +kernel
theorem dX0_burn_10 : decode cX0_burn 10 = .ok (.aload_n 0, 1) := by decide +kernel
theorem dX0_burn_11 : decode cX0_burn 11 = .ok (.getfield 19, 3) := by decide +kernel
theorem dX0_burn_14 : decode cX0_burn 14 = .ok (.iload_n 2, 1) := by decide +kernel
theorem dX0_burn_15 : decode cX0_burn 15 = .ok (.aaload, 1) := by decide +kernel
theorem dX0_burn_16 : decode cX0_burn 16 = .ok (.getfield 95, 3) := by decide +kernel
theorem dX0_burn_19 : decode cX0_burn 19 = .ok (.iload_n 1, 1) := by decide +kernel
theorem dX0_burn_20 : decode cX0_burn 20 = .ok (.if_icmp .ne 16, 3) := by decide +kernel
theorem dX0_burn_23 : decode cX0_burn 23 = .ok (.aload_n 0, 1) := by decide +kernel
theorem dX0_burn_24 : decode cX0_burn 24 = .ok (.getfield 19, 3) := by decide +kernel
theorem dX0_burn_27 : decode cX0_burn 27 = .ok (.iload_n 2, 1) := by decide +kernel
theorem dX0_burn_28 : decode cX0_burn 28 = .ok (.aaload, 1) := by decide +kernel
theorem dX0_burn_29 : decode cX0_burn 29 = .ok (.aload_n 0, 1) := by decide +kernel
theorem dX0_burn_30 : decode cX0_burn 30 = .ok (.getfield 57, 3) := by decide +kernel
theorem dX0_burn_33 : decode cX0_burn 33 = .ok (.invokevirtual 116, 3) := by decide +kernel
theorem dX0_burn_36 : decode cX0_burn 36 = .ok (.iinc 2 1, 3) := by decide +kernel
theorem dX0_burn_39 : decode cX0_burn 39 = .ok (.goto (-37), 3) := by decide +kernel
theorem dX0_burn_42 : decode cX0_burn 42 = .ok (.aload_n 0, 1) := by decide +kernel
theorem dX0_burn_43 : decode cX0_burn 43 = .ok (.iload_n 1, 1) := by decide +kernel
theorem dX0_burn_44 : decode cX0_burn 44 = .ok (.invokevirtual 120, 3) := by decide +kernel
theorem dX0_burn_47 : decode cX0_burn 47 = .ok (.ireturn, 1) := by decide +kernel
theorem dX11_fire_0 : decode cX11_fire 0 = .ok (.iload_n 1, 1) := by decide +kernel
theorem dX11_fire_1 : decode cX11_fire 1 = .ok (.invokestatic 86, 3) := by decide +kernel
theorem dX11_fire_4 : decode cX11_fire 4 = .ok (.ifCond .ne 5, 3) := by decide +kernel
theorem dX11_fire_7 : decode cX11_fire 7 = .ok (.iconst (-1), 1) := by decide +kernel
theorem dX11_fire_8 : decode cX11_fire 8 = .ok (.ireturn, 1) := by decide +kernel
theorem dX11_fire_9 : decode cX11_fire 9 = .ok (.aload_n 0, 1) := by decide +kernel
theorem dX11_fire_10 : decode cX11_fire 10 = .ok (.getfield 40, 3) := by decide +kernel
theorem dX11_fire_13 : decode cX11_fire 13 = .ok (.invokevirtual 63, 3) := by decide +kernel
theorem dX11_fire_16 : decode cX11_fire 16 = .ok (.aload_n 0, 1) := by decide +kernel
theorem dX11_fire_17 : decode cX11_fire 17 = .ok (.getfield 10, 3) := by decide +kernel
theorem dX11_fire_20 : decode cX11_fire 20 = .ok (.iload_n 1, 1) := by decide +kernel
theorem dX11_fire_21 : decode cX11_fire 21 = .ok (.invokevirtual 113, 3) := by decide +kernel
theorem dX11_fire_24 : decode cX11_fire 24 = .ok (.ireturn, 1) := by decide +kernel
theorem dX6_livesOn_0 : decode cX6_livesOn 0 = .ok (.iload_n 1, 1) := by decide +kernel
theorem dX6_livesOn_1 : decode cX6_livesOn 1 = .ok (.aload_n 0, 1) := by decide +kernel
theorem dX6_livesOn_2 : decode cX6_livesOn 2 = .ok (.getfield 9, 3) := by decide +kernel
theorem dX6_livesOn_5 : decode cX6_livesOn 5 = .ok (.if_icmp .lt 23, 3) := by decide +kernel
theorem dX6_livesOn_8 : decode cX6_livesOn 8 = .ok (.aload_n 0, 1) := by decide +kernel
theorem dX6_livesOn_9 : decode cX6_livesOn 9 = .ok (.getfield 15, 3) := by decide +kernel
theorem dX6_livesOn_12 : decode cX6_livesOn 12 = .ok (.iconst (-1), 1) := by decide +kernel
theorem dX6_livesOn_13 : decode cX6_livesOn 13 = .ok (.if_icmp .eq 11, 3) := by decide +kernel
theorem dX6_livesOn_16 : decode cX6_livesOn 16 = .ok (.iload_n 1, 1) := by decide +kernel
theorem dX6_livesOn_17 : decode cX6_livesOn 17 = .ok (.aload_n 0, 1) := by decide +kernel
theorem dX6_livesOn_18 : decode cX6_livesOn 18 = .ok (.getfield 15, 3) := by decide +kernel
theorem dX6_livesOn_21 : decode cX6_livesOn 21 = .ok (.if_icmp .ge 7, 3) := by decide +kernel
theorem dX6_livesOn_24 : decode cX6_livesOn 24 = .ok (.iconst 1, 1) := by decide +kernel
theorem dX6_livesOn_25 : decode cX6_livesOn 25 = .ok (.goto 4, 3) := by decide +kernel
theorem dX6_livesOn_28 : decode cX6_livesOn 28 = .ok (.iconst 0, 1) := by decide +kernel
theorem dX6_livesOn_29 : decode cX6_livesOn 29 = .ok (.ireturn, 1) := by decide +kernel
theorem dX3_held_0 : decode cX3_held 0 = .ok (.iconst 0, 1) := by decide +kernel
theorem dX3_held_1 : decode cX3_held 1 = .ok (.sipush 999, 3) := by decide +kernel
theorem dX3_held_4 : decode cX3_held 4 = .ok (.iload_n 0, 1) := by decide +kernel
theorem dX3_held_5 : decode cX3_held 5 = .ok (.invokestatic 54, 3) := by decide +kernel
theorem dX3_held_8 : decode cX3_held 8 = .ok (.invokestatic 60, 3) := by decide +kernel
theorem dX3_held_11 : decode cX3_held 11 = .ok (.ireturn, 1) := by decide +kernel
theorem dX3_joined_0 : decode cX3_joined 0 = .ok (.iload_n 0, 1) := by decide +kernel
theorem dX3_joined_1 : decode cX3_joined 1 = .ok (.tableswitch 160 6 26 #[156, 160, 160, 160, 160, 160, 160, 160, 160, 160, 160, 160, 99, 103, 107, 111, 160, 160, 123, 134, 145], 99) := by decide +kernel
theorem dX3_joined_100 : decode cX3_joined 100 = .ok (.iload_n 1, 1) := by decide +kernel
theorem dX3_joined_101 : decode cX3_joined 101 = .ok (.iload_n 2, 1) := by decide +kernel
theorem dX3_joined_102 : decode cX3_joined 102 = .ok (.iadd, 1) := by decide +kernel
theorem dX3_joined_103 : decode cX3_joined 103 = .ok (.ireturn, 1) := by decide +kernel
theorem dX3_joined_104 : decode cX3_joined 104 = .ok (.iload_n 1, 1) := by decide +kernel
theorem dX3_joined_105 : decode cX3_joined 105 = .ok (.iload_n 2, 1) := by decide +kernel
theorem dX3_joined_106 : decode cX3_joined 106 = .ok (.isub, 1) := by decide +kernel
theorem dX3_joined_107 : decode cX3_joined 107 = .ok (.ireturn, 1) := by decide +kernel
theorem dX3_joined_108 : decode cX3_joined 108 = .ok (.iload_n 1, 1) := by decide +kernel
theorem dX3_joined_109 : decode cX3_joined 109 = .ok (.iload_n 2, 1) := by decide +kernel
theorem dX3_joined_110 : decode cX3_joined 110 = .ok (.imul, 1) := by decide +kernel
theorem dX3_joined_111 : decode cX3_joined 111 = .ok (.ireturn, 1) := by decide +kernel
theorem dX3_joined_112 : decode cX3_joined 112 = .ok (.iload_n 2, 1) := by decide +kernel
theorem dX3_joined_113 : decode cX3_joined 113 = .ok (.ifCond .ne 7, 3) := by decide +kernel
theorem dX3_joined_116 : decode cX3_joined 116 = .ok (.iconst 0, 1) := by decide +kernel
theorem dX3_joined_117 : decode cX3_joined 117 = .ok (.goto 6, 3) := by decide +kernel
theorem dX3_joined_120 : decode cX3_joined 120 = .ok (.iload_n 1, 1) := by decide +kernel
theorem dX3_joined_121 : decode cX3_joined 121 = .ok (.iload_n 2, 1) := by decide +kernel
theorem dX3_joined_122 : decode cX3_joined 122 = .ok (.idiv, 1) := by decide +kernel
theorem dX3_joined_123 : decode cX3_joined 123 = .ok (.ireturn, 1) := by decide +kernel
theorem dX3_joined_124 : decode cX3_joined 124 = .ok (.iload_n 1, 1) := by decide +kernel
theorem dX3_joined_125 : decode cX3_joined 125 = .ok (.iload_n 2, 1) := by decide +kernel
theorem dX3_joined_126 : decode cX3_joined 126 = .ok (.if_icmp .ge 7, 3) := by decide +kernel
theorem dX3_joined_129 : decode cX3_joined 129 = .ok (.iconst 1, 1) := by decide +kernel
theorem dX3_joined_130 : decode cX3_joined 130 = .ok (.goto 4, 3) := by decide +kernel
theorem dX3_joined_133 : decode cX3_joined 133 = .ok (.iconst 0, 1) := by decide +kernel
theorem dX3_joined_134 : decode cX3_joined 134 = .ok (.ireturn, 1) := by decide +kernel
theorem dX3_joined_135 : decode cX3_joined 135 = .ok (.iload_n 1, 1) := by decide +kernel
theorem dX3_joined_136 : decode cX3_joined 136 = .ok (.iload_n 2, 1) := by decide +kernel
theorem dX3_joined_137 : decode cX3_joined 137 = .ok (.if_icmp .ne 7, 3) := by decide +kernel
theorem dX3_joined_140 : decode cX3_joined 140 = .ok (.iconst 1, 1) := by decide +kernel
theorem dX3_joined_141 : decode cX3_joined 141 = .ok (.goto 4, 3) := by decide +kernel
theorem dX3_joined_144 : decode cX3_joined 144 = .ok (.iconst 0, 1) := by decide +kernel
theorem dX3_joined_145 : decode cX3_joined 145 = .ok (.ireturn, 1) := by decide +kernel
theorem dX3_joined_146 : decode cX3_joined 146 = .ok (.iload_n 1, 1) := by decide +kernel
theorem dX3_joined_147 : decode cX3_joined 147 = .ok (.iload_n 2, 1) := by decide +kernel
theorem dX3_joined_148 : decode cX3_joined 148 = .ok (.if_icmp .le 7, 3) := by decide +kernel
theorem dX3_joined_151 : decode cX3_joined 151 = .ok (.iconst 1, 1) := by decide +kernel
theorem dX3_joined_152 : decode cX3_joined 152 = .ok (.goto 4, 3) := by decide +kernel
theorem dX3_joined_155 : decode cX3_joined 155 = .ok (.iconst 0, 1) := by decide +kernel
theorem dX3_joined_156 : decode cX3_joined 156 = .ok (.ireturn, 1) := by decide +kernel
theorem dX3_joined_157 : decode cX3_joined 157 = .ok (.iload_n 1, 1) := by decide +kernel
theorem dX3_joined_158 : decode cX3_joined 158 = .ok (.iload_n 2, 1) := by decide +kernel
theorem dX3_joined_159 : decode cX3_joined 159 = .ok (.iand, 1) := by decide +kernel
theorem dX3_joined_160 : decode cX3_joined 160 = .ok (.ireturn, 1) := by decide +kernel
theorem dX3_joined_161 : decode cX3_joined 161 = .ok (.iload_n 1, 1) := by decide +kernel
theorem dX3_joined_162 : decode cX3_joined 162 = .ok (.iload_n 2, 1) := by decide +kernel
theorem dX3_joined_163 : decode cX3_joined 163 = .ok (.ior, 1) := by decide +kernel
theorem dX3_joined_164 : decode cX3_joined 164 = .ok (.ireturn, 1) := by decide +kernel
theorem dX3_operand_0 : decode cX3_operand 0 = .ok (.iload_n 0, 1) := by decide +kernel
theorem dX3_operand_1 : decode cX3_operand 1 = .ok (.sipush 10000, 3) := by decide +kernel
theorem dX3_operand_4 : decode cX3_operand 4 = .ok (.isub, 1) := by decide +kernel
theorem dX3_operand_5 : decode cX3_operand 5 = .ok (.istore_n 2, 1) := by decide +kernel
theorem dX3_operand_6 : decode cX3_operand 6 = .ok (.iload_n 2, 1) := by decide +kernel
theorem dX3_operand_7 : decode cX3_operand 7 = .ok (.ifCond .ge 5, 3) := by decide +kernel
theorem dX3_operand_10 : decode cX3_operand 10 = .ok (.iload_n 0, 1) := by decide +kernel
theorem dX3_operand_11 : decode cX3_operand 11 = .ok (.ireturn, 1) := by decide +kernel
theorem dX3_operand_12 : decode cX3_operand 12 = .ok (.iload_n 2, 1) := by decide +kernel
theorem dX3_operand_13 : decode cX3_operand 13 = .ok (.aload_n 1, 1) := by decide +kernel
theorem dX3_operand_14 : decode cX3_operand 14 = .ok (.arraylength, 1) := by decide +kernel
theorem dX3_operand_15 : decode cX3_operand 15 = .ok (.if_icmp .ge 9, 3) := by decide +kernel
theorem dX3_operand_18 : decode cX3_operand 18 = .ok (.aload_n 1, 1) := by decide +kernel
theorem dX3_operand_19 : decode cX3_operand 19 = .ok (.iload_n 2, 1) := by decide +kernel
theorem dX3_operand_20 : decode cX3_operand 20 = .ok (.iaload, 1) := by decide +kernel
theorem dX3_operand_21 : decode cX3_operand 21 = .ok (.goto 4, 3) := by decide +kernel
theorem dX3_operand_24 : decode cX3_operand 24 = .ok (.iconst 0, 1) := by decide +kernel
theorem dX3_operand_25 : decode cX3_operand 25 = .ok (.ireturn, 1) := by decide +kernel
theorem dX3_work_0 : decode cX3_work 0 = .ok (.iconst 0, 1) := by decide +kernel
theorem dX3_work_1 : decode cX3_work 1 = .ok (.istore 4, 2) := by decide +kernel
theorem dX3_work_3 : decode cX3_work 3 = .ok (.iload_n 1, 1) := by decide +kernel
theorem dX3_work_4 : decode cX3_work 4 = .ok (.istore 5, 2) := by decide +kernel
theorem dX3_work_6 : decode cX3_work 6 = .ok (.iload 5, 2) := by decide +kernel
theorem dX3_work_8 : decode cX3_work 8 = .ok (.iload_n 2, 1) := by decide +kernel
theorem dX3_work_9 : decode cX3_work 9 = .ok (.if_icmp .ge 130, 3) := by decide +kernel
theorem dX3_work_12 : decode cX3_work 12 = .ok (.aload_n 0, 1) := by decide +kernel
theorem dX3_work_13 : decode cX3_work 13 = .ok (.getfield 11, 3) := by decide +kernel
theorem dX3_work_16 : decode cX3_work 16 = .ok (.iload 5, 2) := by decide +kernel
theorem dX3_work_18 : decode cX3_work 18 = .ok (.iaload, 1) := by decide +kernel
theorem dX3_work_19 : decode cX3_work 19 = .ok (.istore 6, 2) := by decide +kernel
theorem dX3_work_21 : decode cX3_work 21 = .ok (.iload 6, 2) := by decide +kernel
theorem dX3_work_23 : decode cX3_work 23 = .ok (.ifCond .lt 29, 3) := by decide +kernel
theorem dX3_work_26 : decode cX3_work 26 = .ok (.iload 4, 2) := by decide +kernel
theorem dX3_work_28 : decode cX3_work 28 = .ok (.bipush 40, 2) := by decide +kernel
theorem dX3_work_30 : decode cX3_work 30 = .ok (.if_icmp .ge 22, 3) := by decide +kernel
theorem dX3_work_33 : decode cX3_work 33 = .ok (.aload_n 0, 1) := by decide +kernel
theorem dX3_work_34 : decode cX3_work 34 = .ok (.getfield 26, 3) := by decide +kernel
theorem dX3_work_37 : decode cX3_work 37 = .ok (.iload 4, 2) := by decide +kernel
theorem dX3_work_39 : decode cX3_work 39 = .ok (.iload 6, 2) := by decide +kernel
theorem dX3_work_41 : decode cX3_work 41 = .ok (.aload_n 3, 1) := by decide +kernel
theorem dX3_work_42 : decode cX3_work 42 = .ok (.invokestatic 63, 3) := by decide +kernel
theorem dX3_work_45 : decode cX3_work 45 = .ok (.iastore, 1) := by decide +kernel
theorem dX3_work_46 : decode cX3_work 46 = .ok (.iinc 4 1, 3) := by decide +kernel
theorem dX3_work_49 : decode cX3_work 49 = .ok (.goto 84, 3) := by decide +kernel
theorem dX3_work_52 : decode cX3_work 52 = .ok (.iload 6, 2) := by decide +kernel
theorem dX3_work_54 : decode cX3_work 54 = .ok (.bipush (-7), 2) := by decide +kernel
theorem dX3_work_56 : decode cX3_work 56 = .ok (.if_icmp .ne 32, 3) := by decide +kernel
theorem dX3_work_59 : decode cX3_work 59 = .ok (.iload 4, 2) := by decide +kernel
theorem dX3_work_61 : decode cX3_work 61 = .ok (.iconst 1, 1) := by decide +kernel
theorem dX3_work_62 : decode cX3_work 62 = .ok (.if_icmp .lt 26, 3) := by decide +kernel
theorem dX3_work_65 : decode cX3_work 65 = .ok (.aload_n 0, 1) := by decide +kernel
theorem dX3_work_66 : decode cX3_work 66 = .ok (.getfield 26, 3) := by decide +kernel
theorem dX3_work_69 : decode cX3_work 69 = .ok (.iload 4, 2) := by decide +kernel
theorem dX3_work_71 : decode cX3_work 71 = .ok (.iconst 1, 1) := by decide +kernel
theorem dX3_work_72 : decode cX3_work 72 = .ok (.isub, 1) := by decide +kernel
theorem dX3_work_73 : decode cX3_work 73 = .ok (.iconst 1, 1) := by decide +kernel
theorem dX3_work_74 : decode cX3_work 74 = .ok (.aload_n 0, 1) := by decide +kernel
theorem dX3_work_75 : decode cX3_work 75 = .ok (.getfield 26, 3) := by decide +kernel
theorem dX3_work_78 : decode cX3_work 78 = .ok (.iload 4, 2) := by decide +kernel
theorem dX3_work_80 : decode cX3_work 80 = .ok (.iconst 1, 1) := by decide +kernel
theorem dX3_work_81 : decode cX3_work 81 = .ok (.isub, 1) := by decide +kernel
theorem dX3_work_82 : decode cX3_work 82 = .ok (.iaload, 1) := by decide +kernel
theorem dX3_work_83 : decode cX3_work 83 = .ok (.isub, 1) := by decide +kernel
theorem dX3_work_84 : decode cX3_work 84 = .ok (.iastore, 1) := by decide +kernel
theorem dX3_work_85 : decode cX3_work 85 = .ok (.goto 48, 3) := by decide +kernel
theorem dX3_work_88 : decode cX3_work 88 = .ok (.iload 6, 2) := by decide +kernel
theorem dX3_work_90 : decode cX3_work 90 = .ok (.ifCond .ge 43, 3) := by decide +kernel
theorem dX3_work_93 : decode cX3_work 93 = .ok (.iload 4, 2) := by decide +kernel
theorem dX3_work_95 : decode cX3_work 95 = .ok (.iconst 2, 1) := by decide +kernel
theorem dX3_work_96 : decode cX3_work 96 = .ok (.if_icmp .lt 37, 3) := by decide +kernel
theorem dX3_work_99 : decode cX3_work 99 = .ok (.iinc 4 (-1), 3) := by decide +kernel
theorem dX3_work_102 : decode cX3_work 102 = .ok (.aload_n 0, 1) := by decide +kernel
theorem dX3_work_103 : decode cX3_work 103 = .ok (.getfield 26, 3) := by decide +kernel
theorem dX3_work_106 : decode cX3_work 106 = .ok (.iload 4, 2) := by decide +kernel
theorem dX3_work_108 : decode cX3_work 108 = .ok (.iconst 1, 1) := by decide +kernel
theorem dX3_work_109 : decode cX3_work 109 = .ok (.isub, 1) := by decide +kernel
theorem dX3_work_110 : decode cX3_work 110 = .ok (.iload 6, 2) := by decide +kernel
theorem dX3_work_112 : decode cX3_work 112 = .ok (.ineg, 1) := by decide +kernel
theorem dX3_work_113 : decode cX3_work 113 = .ok (.aload_n 0, 1) := by decide +kernel
theorem dX3_work_114 : decode cX3_work 114 = .ok (.getfield 26, 3) := by decide +kernel
theorem dX3_work_117 : decode cX3_work 117 = .ok (.iload 4, 2) := by decide +kernel
theorem dX3_work_119 : decode cX3_work 119 = .ok (.iconst 1, 1) := by decide +kernel
theorem dX3_work_120 : decode cX3_work 120 = .ok (.isub, 1) := by decide +kernel
theorem dX3_work_121 : decode cX3_work 121 = .ok (.iaload, 1) := by decide +kernel
theorem dX3_work_122 : decode cX3_work 122 = .ok (.aload_n 0, 1) := by decide +kernel
theorem dX3_work_123 : decode cX3_work 123 = .ok (.getfield 26, 3) := by decide +kernel
theorem dX3_work_126 : decode cX3_work 126 = .ok (.iload 4, 2) := by decide +kernel
theorem dX3_work_128 : decode cX3_work 128 = .ok (.iaload, 1) := by decide +kernel
theorem dX3_work_129 : decode cX3_work 129 = .ok (.invokestatic 67, 3) := by decide +kernel
theorem dX3_work_132 : decode cX3_work 132 = .ok (.iastore, 1) := by decide +kernel
theorem dX3_work_133 : decode cX3_work 133 = .ok (.iinc 5 1, 3) := by decide +kernel
theorem dX3_work_136 : decode cX3_work 136 = .ok (.goto (-130), 3) := by decide +kernel
theorem dX3_work_139 : decode cX3_work 139 = .ok (.iload 4, 2) := by decide +kernel
theorem dX3_work_141 : decode cX3_work 141 = .ok (.ifCond .le 12, 3) := by decide +kernel
theorem dX3_work_144 : decode cX3_work 144 = .ok (.aload_n 0, 1) := by decide +kernel
theorem dX3_work_145 : decode cX3_work 145 = .ok (.getfield 26, 3) := by decide +kernel
theorem dX3_work_148 : decode cX3_work 148 = .ok (.iconst 0, 1) := by decide +kernel
theorem dX3_work_149 : decode cX3_work 149 = .ok (.iaload, 1) := by decide +kernel
theorem dX3_work_150 : decode cX3_work 150 = .ok (.goto 4, 3) := by decide +kernel
theorem dX3_work_153 : decode cX3_work 153 = .ok (.iconst 0, 1) := by decide +kernel
theorem dX3_work_154 : decode cX3_work 154 = .ok (.ireturn, 1) := by decide +kernel
theorem dX3_ageBy_0 : decode cX3_ageBy 0 = .ok (.iconst 0, 1) := by decide +kernel
theorem dX3_ageBy_1 : decode cX3_ageBy 1 = .ok (.istore_n 2, 1) := by decide +kernel
theorem dX3_ageBy_2 : decode cX3_ageBy 2 = .ok (.iload_n 2, 1) := by decide +kernel
theorem dX3_ageBy_3 : decode cX3_ageBy 3 = .ok (.aload_n 0, 1) := by decide +kernel
theorem dX3_ageBy_4 : decode cX3_ageBy 4 = .ok (.getfield 33, 3) := by decide +kernel
theorem dX3_ageBy_7 : decode cX3_ageBy 7 = .ok (.if_icmp .ge 75, 3) := by decide +kernel
theorem dX3_ageBy_10 : decode cX3_ageBy 10 = .ok (.aload_n 0, 1) := by decide +kernel
theorem dX3_ageBy_11 : decode cX3_ageBy 11 = .ok (.getfield 20, 3) := by decide +kernel
theorem dX3_ageBy_14 : decode cX3_ageBy 14 = .ok (.iload_n 2, 1) := by decide +kernel
theorem dX3_ageBy_15 : decode cX3_ageBy 15 = .ok (.iaload, 1) := by decide +kernel
theorem dX3_ageBy_16 : decode cX3_ageBy 16 = .ok (.aload_n 0, 1) := by decide +kernel
theorem dX3_ageBy_17 : decode cX3_ageBy 17 = .ok (.getfield 23, 3) := by decide +kernel
theorem dX3_ageBy_20 : decode cX3_ageBy 20 = .ok (.iload_n 2, 1) := by decide +kernel
theorem dX3_ageBy_21 : decode cX3_ageBy 21 = .ok (.iaload, 1) := by decide +kernel
theorem dX3_ageBy_22 : decode cX3_ageBy 22 = .ok (.if_icmp .ne 7, 3) := by decide +kernel
theorem dX3_ageBy_25 : decode cX3_ageBy 25 = .ok (.iconst 1, 1) := by decide +kernel
theorem dX3_ageBy_26 : decode cX3_ageBy 26 = .ok (.goto 4, 3) := by decide +kernel
theorem dX3_ageBy_29 : decode cX3_ageBy 29 = .ok (.iconst 0, 1) := by decide +kernel
theorem dX3_ageBy_30 : decode cX3_ageBy 30 = .ok (.istore_n 3, 1) := by decide +kernel
theorem dX3_ageBy_31 : decode cX3_ageBy 31 = .ok (.iload_n 3, 1) := by decide +kernel
theorem dX3_ageBy_32 : decode cX3_ageBy 32 = .ok (.ifCond .ne 23, 3) := by decide +kernel
theorem dX3_ageBy_35 : decode cX3_ageBy 35 = .ok (.aload_n 0, 1) := by decide +kernel
theorem dX3_ageBy_36 : decode cX3_ageBy 36 = .ok (.aload_n 0, 1) := by decide +kernel
theorem dX3_ageBy_37 : decode cX3_ageBy 37 = .ok (.getfield 20, 3) := by decide +kernel
theorem dX3_ageBy_40 : decode cX3_ageBy 40 = .ok (.iload_n 2, 1) := by decide +kernel
theorem dX3_ageBy_41 : decode cX3_ageBy 41 = .ok (.iaload, 1) := by decide +kernel
theorem dX3_ageBy_42 : decode cX3_ageBy 42 = .ok (.aload_n 0, 1) := by decide +kernel
theorem dX3_ageBy_43 : decode cX3_ageBy 43 = .ok (.getfield 23, 3) := by decide +kernel
theorem dX3_ageBy_46 : decode cX3_ageBy 46 = .ok (.iload_n 2, 1) := by decide +kernel
theorem dX3_ageBy_47 : decode cX3_ageBy 47 = .ok (.iaload, 1) := by decide +kernel
theorem dX3_ageBy_48 : decode cX3_ageBy 48 = .ok (.aload_n 1, 1) := by decide +kernel
theorem dX3_ageBy_49 : decode cX3_ageBy 49 = .ok (.invokevirtual 46, 3) := by decide +kernel
theorem dX3_ageBy_52 : decode cX3_ageBy 52 = .ok (.ifCond .eq 24, 3) := by decide +kernel
theorem dX3_ageBy_55 : decode cX3_ageBy 55 = .ok (.aload_n 0, 1) := by decide +kernel
theorem dX3_ageBy_56 : decode cX3_ageBy 56 = .ok (.aload_n 0, 1) := by decide +kernel
theorem dX3_ageBy_57 : decode cX3_ageBy 57 = .ok (.getfield 17, 3) := by decide +kernel
theorem dX3_ageBy_60 : decode cX3_ageBy 60 = .ok (.iload_n 2, 1) := by decide +kernel
theorem dX3_ageBy_61 : decode cX3_ageBy 61 = .ok (.iaload, 1) := by decide +kernel
theorem dX3_ageBy_62 : decode cX3_ageBy 62 = .ok (.aload_n 0, 1) := by decide +kernel
theorem dX3_ageBy_63 : decode cX3_ageBy 63 = .ok (.getfield 20, 3) := by decide +kernel
theorem dX3_ageBy_66 : decode cX3_ageBy 66 = .ok (.iload_n 2, 1) := by decide +kernel
theorem dX3_ageBy_67 : decode cX3_ageBy 67 = .ok (.iaload, 1) := by decide +kernel
theorem dX3_ageBy_68 : decode cX3_ageBy 68 = .ok (.aload_n 1, 1) := by decide +kernel
theorem dX3_ageBy_69 : decode cX3_ageBy 69 = .ok (.invokevirtual 46, 3) := by decide +kernel
theorem dX3_ageBy_72 : decode cX3_ageBy 72 = .ok (.invokestatic 50, 3) := by decide +kernel
theorem dX3_ageBy_75 : decode cX3_ageBy 75 = .ok (.ireturn, 1) := by decide +kernel
theorem dX3_ageBy_76 : decode cX3_ageBy 76 = .ok (.iinc 2 1, 3) := by decide +kernel
theorem dX3_ageBy_79 : decode cX3_ageBy 79 = .ok (.goto (-77), 3) := by decide +kernel
theorem dX3_ageBy_82 : decode cX3_ageBy 82 = .ok (.aload_n 1, 1) := by decide +kernel
theorem dX3_ageBy_83 : decode cX3_ageBy 83 = .ok (.iconst 0, 1) := by decide +kernel
theorem dX3_ageBy_84 : decode cX3_ageBy 84 = .ok (.iaload, 1) := by decide +kernel
theorem dX3_ageBy_85 : decode cX3_ageBy 85 = .ok (.invokestatic 50, 3) := by decide +kernel
theorem dX3_ageBy_88 : decode cX3_ageBy 88 = .ok (.ireturn, 1) := by decide +kernel
theorem dX6_yearsOn_0 : decode cX6_yearsOn 0 = .ok (.iconst 0, 1) := by decide +kernel
theorem dX6_yearsOn_1 : decode cX6_yearsOn 1 = .ok (.iload_n 1, 1) := by decide +kernel
theorem dX6_yearsOn_2 : decode cX6_yearsOn 2 = .ok (.aload_n 0, 1) := by decide +kernel
theorem dX6_yearsOn_3 : decode cX6_yearsOn 3 = .ok (.getfield 9, 3) := by decide +kernel
theorem dX6_yearsOn_6 : decode cX6_yearsOn 6 = .ok (.isub, 1) := by decide +kernel
theorem dX6_yearsOn_7 : decode cX6_yearsOn 7 = .ok (.invokestatic 31, 3) := by decide +kernel
theorem dX6_yearsOn_10 : decode cX6_yearsOn 10 = .ok (.sipush 365, 3) := by decide +kernel
theorem dX6_yearsOn_13 : decode cX6_yearsOn 13 = .ok (.idiv, 1) := by decide +kernel
theorem dX6_yearsOn_14 : decode cX6_yearsOn 14 = .ok (.bipush 10, 2) := by decide +kernel
theorem dX6_yearsOn_16 : decode cX6_yearsOn 16 = .ok (.aload_n 0, 1) := by decide +kernel
theorem dX6_yearsOn_17 : decode cX6_yearsOn 17 = .ok (.getfield 18, 3) := by decide +kernel
theorem dX6_yearsOn_20 : decode cX6_yearsOn 20 = .ok (.imul, 1) := by decide +kernel
theorem dX6_yearsOn_21 : decode cX6_yearsOn 21 = .ok (.iadd, 1) := by decide +kernel
theorem dX6_yearsOn_22 : decode cX6_yearsOn 22 = .ok (.ireturn, 1) := by decide +kernel
theorem dX0_ageOf_0 : decode cX0_ageOf 0 = .ok (.aload_n 0, 1) := by decide +kernel
theorem dX0_ageOf_1 : decode cX0_ageOf 1 = .ok (.aload_n 1, 1) := by decide +kernel
theorem dX0_ageOf_2 : decode cX0_ageOf 2 = .ok (.getfield 72, 3) := by decide +kernel
theorem dX0_ageOf_5 : decode cX0_ageOf 5 = .ok (.invokevirtual 75, 3) := by decide +kernel
theorem dX0_ageOf_8 : decode cX0_ageOf 8 = .ok (.astore_n 3, 1) := by decide +kernel
theorem dX0_ageOf_9 : decode cX0_ageOf 9 = .ok (.aload_n 0, 1) := by decide +kernel
theorem dX0_ageOf_10 : decode cX0_ageOf 10 = .ok (.getfield 46, 3) := by decide +kernel
theorem dX0_ageOf_13 : decode cX0_ageOf 13 = .ok (.iconst 0, 1) := by decide +kernel
theorem dX0_ageOf_14 : decode cX0_ageOf 14 = .ok (.aload_n 1, 1) := by decide +kernel
theorem dX0_ageOf_15 : decode cX0_ageOf 15 = .ok (.getfield 79, 3) := by decide +kernel
theorem dX0_ageOf_18 : decode cX0_ageOf 18 = .ok (.iastore, 1) := by decide +kernel
theorem dX0_ageOf_19 : decode cX0_ageOf 19 = .ok (.aload_n 0, 1) := by decide +kernel
theorem dX0_ageOf_20 : decode cX0_ageOf 20 = .ok (.getfield 46, 3) := by decide +kernel
theorem dX0_ageOf_23 : decode cX0_ageOf 23 = .ok (.iconst 1, 1) := by decide +kernel
theorem dX0_ageOf_24 : decode cX0_ageOf 24 = .ok (.aload_n 3, 1) := by decide +kernel
theorem dX0_ageOf_25 : decode cX0_ageOf 25 = .ok (.ifnonnull 7, 3) := by decide +kernel
theorem dX0_ageOf_28 : decode cX0_ageOf 28 = .ok (.iconst 0, 1) := by decide +kernel
theorem dX0_ageOf_29 : decode cX0_ageOf 29 = .ok (.goto 8, 3) := by decide +kernel
theorem dX0_ageOf_32 : decode cX0_ageOf 32 = .ok (.aload_n 3, 1) := by decide +kernel
theorem dX0_ageOf_33 : decode cX0_ageOf 33 = .ok (.iload_n 2, 1) := by decide +kernel
theorem dX0_ageOf_34 : decode cX0_ageOf 34 = .ok (.invokevirtual 82, 3) := by decide +kernel
theorem dX0_ageOf_37 : decode cX0_ageOf 37 = .ok (.iastore, 1) := by decide +kernel
theorem dX0_ageOf_38 : decode cX0_ageOf 38 = .ok (.aload_n 0, 1) := by decide +kernel
theorem dX0_ageOf_39 : decode cX0_ageOf 39 = .ok (.getfield 46, 3) := by decide +kernel
theorem dX0_ageOf_42 : decode cX0_ageOf 42 = .ok (.iconst 2, 1) := by decide +kernel
theorem dX0_ageOf_43 : decode cX0_ageOf 43 = .ok (.iload_n 2, 1) := by decide +kernel
theorem dX0_ageOf_44 : decode cX0_ageOf 44 = .ok (.aload_n 1, 1) := by decide +kernel
theorem dX0_ageOf_45 : decode cX0_ageOf 45 = .ok (.getfield 86, 3) := by decide +kernel
theorem dX0_ageOf_48 : decode cX0_ageOf 48 = .ok (.isub, 1) := by decide +kernel
theorem dX0_ageOf_49 : decode cX0_ageOf 49 = .ok (.iastore, 1) := by decide +kernel
theorem dX0_ageOf_50 : decode cX0_ageOf 50 = .ok (.aload_n 0, 1) := by decide +kernel
theorem dX0_ageOf_51 : decode cX0_ageOf 51 = .ok (.getfield 46, 3) := by decide +kernel
theorem dX0_ageOf_54 : decode cX0_ageOf 54 = .ok (.iconst 3, 1) := by decide +kernel
theorem dX0_ageOf_55 : decode cX0_ageOf 55 = .ok (.iload_n 2, 1) := by decide +kernel
theorem dX0_ageOf_56 : decode cX0_ageOf 56 = .ok (.aload_n 1, 1) := by decide +kernel
theorem dX0_ageOf_57 : decode cX0_ageOf 57 = .ok (.getfield 89, 3) := by decide +kernel
theorem dX0_ageOf_60 : decode cX0_ageOf 60 = .ok (.isub, 1) := by decide +kernel
theorem dX0_ageOf_61 : decode cX0_ageOf 61 = .ok (.sipush 365, 3) := by decide +kernel
theorem dX0_ageOf_64 : decode cX0_ageOf 64 = .ok (.idiv, 1) := by decide +kernel
theorem dX0_ageOf_65 : decode cX0_ageOf 65 = .ok (.iastore, 1) := by decide +kernel
theorem dX0_ageOf_66 : decode cX0_ageOf 66 = .ok (.aload_n 0, 1) := by decide +kernel
theorem dX0_ageOf_67 : decode cX0_ageOf 67 = .ok (.getfield 46, 3) := by decide +kernel
theorem dX0_ageOf_70 : decode cX0_ageOf 70 = .ok (.iconst 4, 1) := by decide +kernel
theorem dX0_ageOf_71 : decode cX0_ageOf 71 = .ok (.aload_n 1, 1) := by decide +kernel
theorem dX0_ageOf_72 : decode cX0_ageOf 72 = .ok (.getfield 92, 3) := by decide +kernel
theorem dX0_ageOf_75 : decode cX0_ageOf 75 = .ok (.iastore, 1) := by decide +kernel
theorem dX0_ageOf_76 : decode cX0_ageOf 76 = .ok (.aload_n 0, 1) := by decide +kernel
theorem dX0_ageOf_77 : decode cX0_ageOf 77 = .ok (.getfield 46, 3) := by decide +kernel
theorem dX0_ageOf_80 : decode cX0_ageOf 80 = .ok (.iconst 5, 1) := by decide +kernel
theorem dX0_ageOf_81 : decode cX0_ageOf 81 = .ok (.aload_n 1, 1) := by decide +kernel
theorem dX0_ageOf_82 : decode cX0_ageOf 82 = .ok (.getfield 95, 3) := by decide +kernel
theorem dX0_ageOf_85 : decode cX0_ageOf 85 = .ok (.iastore, 1) := by decide +kernel
theorem dX0_ageOf_86 : decode cX0_ageOf 86 = .ok (.aload_n 0, 1) := by decide +kernel
theorem dX0_ageOf_87 : decode cX0_ageOf 87 = .ok (.getfield 46, 3) := by decide +kernel
theorem dX0_ageOf_90 : decode cX0_ageOf 90 = .ok (.bipush 6, 2) := by decide +kernel
theorem dX0_ageOf_92 : decode cX0_ageOf 92 = .ok (.aload_n 3, 1) := by decide +kernel
theorem dX0_ageOf_93 : decode cX0_ageOf 93 = .ok (.ifnonnull 8, 3) := by decide +kernel
theorem dX0_ageOf_96 : decode cX0_ageOf 96 = .ok (.bipush 9, 2) := by decide +kernel
theorem dX0_ageOf_98 : decode cX0_ageOf 98 = .ok (.goto 7, 3) := by decide +kernel
theorem dX0_ageOf_101 : decode cX0_ageOf 101 = .ok (.aload_n 3, 1) := by decide +kernel
theorem dX0_ageOf_102 : decode cX0_ageOf 102 = .ok (.getfield 98, 3) := by decide +kernel
theorem dX0_ageOf_105 : decode cX0_ageOf 105 = .ok (.iastore, 1) := by decide +kernel
theorem dX0_ageOf_106 : decode cX0_ageOf 106 = .ok (.aload_n 0, 1) := by decide +kernel
theorem dX0_ageOf_107 : decode cX0_ageOf 107 = .ok (.getfield 46, 3) := by decide +kernel
theorem dX0_ageOf_110 : decode cX0_ageOf 110 = .ok (.bipush 7, 2) := by decide +kernel
theorem dX0_ageOf_112 : decode cX0_ageOf 112 = .ok (.aload_n 3, 1) := by decide +kernel
theorem dX0_ageOf_113 : decode cX0_ageOf 113 = .ok (.ifnull 15, 3) := by decide +kernel
theorem dX0_ageOf_116 : decode cX0_ageOf 116 = .ok (.aload_n 3, 1) := by decide +kernel
theorem dX0_ageOf_117 : decode cX0_ageOf 117 = .ok (.iload_n 2, 1) := by decide +kernel
theorem dX0_ageOf_118 : decode cX0_ageOf 118 = .ok (.invokevirtual 101, 3) := by decide +kernel
theorem dX0_ageOf_121 : decode cX0_ageOf 121 = .ok (.ifCond .eq 7, 3) := by decide +kernel
theorem dX0_ageOf_124 : decode cX0_ageOf 124 = .ok (.iconst 1, 1) := by decide +kernel
theorem dX0_ageOf_125 : decode cX0_ageOf 125 = .ok (.goto 4, 3) := by decide +kernel
theorem dX0_ageOf_128 : decode cX0_ageOf 128 = .ok (.iconst 0, 1) := by decide +kernel
theorem dX0_ageOf_129 : decode cX0_ageOf 129 = .ok (.iastore, 1) := by decide +kernel
theorem dX0_ageOf_130 : decode cX0_ageOf 130 = .ok (.aload_n 0, 1) := by decide +kernel
theorem dX0_ageOf_131 : decode cX0_ageOf 131 = .ok (.getfield 46, 3) := by decide +kernel
theorem dX0_ageOf_134 : decode cX0_ageOf 134 = .ok (.bipush 8, 2) := by decide +kernel
theorem dX0_ageOf_136 : decode cX0_ageOf 136 = .ok (.aload_n 1, 1) := by decide +kernel
theorem dX0_ageOf_137 : decode cX0_ageOf 137 = .ok (.getfield 105, 3) := by decide +kernel
theorem dX0_ageOf_140 : decode cX0_ageOf 140 = .ok (.iastore, 1) := by decide +kernel
theorem dX0_ageOf_141 : decode cX0_ageOf 141 = .ok (.aload_n 0, 1) := by decide +kernel
theorem dX0_ageOf_142 : decode cX0_ageOf 142 = .ok (.getfield 40, 3) := by decide +kernel
theorem dX0_ageOf_145 : decode cX0_ageOf 145 = .ok (.aload_n 0, 1) := by decide +kernel
theorem dX0_ageOf_146 : decode cX0_ageOf 146 = .ok (.getfield 46, 3) := by decide +kernel
theorem dX0_ageOf_149 : decode cX0_ageOf 149 = .ok (.invokevirtual 108, 3) := by decide +kernel
theorem dX0_ageOf_152 : decode cX0_ageOf 152 = .ok (.ireturn, 1) := by decide +kernel
theorem dX1_hasRoom_0 : decode cX1_hasRoom 0 = .ok (.aload_n 0, 1) := by decide +kernel
theorem dX1_hasRoom_1 : decode cX1_hasRoom 1 = .ok (.getfield 15, 3) := by decide +kernel
theorem dX1_hasRoom_4 : decode cX1_hasRoom 4 = .ok (.bipush 120, 2) := by decide +kernel
theorem dX1_hasRoom_6 : decode cX1_hasRoom 6 = .ok (.if_icmp .ge 7, 3) := by decide +kernel
theorem dX1_hasRoom_9 : decode cX1_hasRoom 9 = .ok (.iconst 1, 1) := by decide +kernel
theorem dX1_hasRoom_10 : decode cX1_hasRoom 10 = .ok (.goto 4, 3) := by decide +kernel
theorem dX1_hasRoom_13 : decode cX1_hasRoom 13 = .ok (.iconst 0, 1) := by decide +kernel
theorem dX1_hasRoom_14 : decode cX1_hasRoom 14 = .ok (.ireturn, 1) := by decide +kernel
theorem dX5_copyFrom_0 : decode cX5_copyFrom 0 = .ok (.aload_n 0, 1) := by decide +kernel
theorem dX5_copyFrom_1 : decode cX5_copyFrom 1 = .ok (.aload_n 1, 1) := by decide +kernel
theorem dX5_copyFrom_2 : decode cX5_copyFrom 2 = .ok (.getfield 9, 3) := by decide +kernel
theorem dX5_copyFrom_5 : decode cX5_copyFrom 5 = .ok (.putfield 9, 3) := by decide +kernel
theorem dX5_copyFrom_8 : decode cX5_copyFrom 8 = .ok (.aload_n 0, 1) := by decide +kernel
theorem dX5_copyFrom_9 : decode cX5_copyFrom 9 = .ok (.aload_n 1, 1) := by decide +kernel
theorem dX5_copyFrom_10 : decode cX5_copyFrom 10 = .ok (.getfield 15, 3) := by decide +kernel
theorem dX5_copyFrom_13 : decode cX5_copyFrom 13 = .ok (.putfield 15, 3) := by decide +kernel
theorem dX5_copyFrom_16 : decode cX5_copyFrom 16 = .ok (.aload_n 0, 1) := by decide +kernel
theorem dX5_copyFrom_17 : decode cX5_copyFrom 17 = .ok (.aload_n 1, 1) := by decide +kernel
theorem dX5_copyFrom_18 : decode cX5_copyFrom 18 = .ok (.getfield 18, 3) := by decide +kernel
theorem dX5_copyFrom_21 : decode cX5_copyFrom 21 = .ok (.putfield 18, 3) := by decide +kernel
theorem dX5_copyFrom_24 : decode cX5_copyFrom 24 = .ok (.aload_n 0, 1) := by decide +kernel
theorem dX5_copyFrom_25 : decode cX5_copyFrom 25 = .ok (.aload_n 1, 1) := by decide +kernel
theorem dX5_copyFrom_26 : decode cX5_copyFrom 26 = .ok (.getfield 28, 3) := by decide +kernel
theorem dX5_copyFrom_29 : decode cX5_copyFrom 29 = .ok (.putfield 28, 3) := by decide +kernel
theorem dX5_copyFrom_32 : decode cX5_copyFrom 32 = .ok (.aload_n 0, 1) := by decide +kernel
theorem dX5_copyFrom_33 : decode cX5_copyFrom 33 = .ok (.aload_n 1, 1) := by decide +kernel
theorem dX5_copyFrom_34 : decode cX5_copyFrom 34 = .ok (.getfield 31, 3) := by decide +kernel
theorem dX5_copyFrom_37 : decode cX5_copyFrom 37 = .ok (.putfield 31, 3) := by decide +kernel
theorem dX5_copyFrom_40 : decode cX5_copyFrom 40 = .ok (.aload_n 0, 1) := by decide +kernel
theorem dX5_copyFrom_41 : decode cX5_copyFrom 41 = .ok (.aload_n 1, 1) := by decide +kernel
theorem dX5_copyFrom_42 : decode cX5_copyFrom 42 = .ok (.getfield 34, 3) := by decide +kernel
theorem dX5_copyFrom_45 : decode cX5_copyFrom 45 = .ok (.putfield 34, 3) := by decide +kernel
theorem dX5_copyFrom_48 : decode cX5_copyFrom 48 = .ok (.aload_n 0, 1) := by decide +kernel
theorem dX5_copyFrom_49 : decode cX5_copyFrom 49 = .ok (.aload_n 1, 1) := by decide +kernel
theorem dX5_copyFrom_50 : decode cX5_copyFrom 50 = .ok (.getfield 37, 3) := by decide +kernel
theorem dX5_copyFrom_53 : decode cX5_copyFrom 53 = .ok (.putfield 37, 3) := by decide +kernel
theorem dX5_copyFrom_56 : decode cX5_copyFrom 56 = .ok (.aload_n 0, 1) := by decide +kernel
theorem dX5_copyFrom_57 : decode cX5_copyFrom 57 = .ok (.aload_n 1, 1) := by decide +kernel
theorem dX5_copyFrom_58 : decode cX5_copyFrom 58 = .ok (.getfield 21, 3) := by decide +kernel
theorem dX5_copyFrom_61 : decode cX5_copyFrom 61 = .ok (.putfield 21, 3) := by decide +kernel
theorem dX5_copyFrom_64 : decode cX5_copyFrom 64 = .ok (.return_, 1) := by decide +kernel
theorem dX10_keep_0 : decode cX10_keep 0 = .ok (.aload_n 0, 1) := by decide +kernel
theorem dX10_keep_1 : decode cX10_keep 1 = .ok (.aload_n 0, 1) := by decide +kernel
theorem dX10_keep_2 : decode cX10_keep 2 = .ok (.getfield 19, 3) := by decide +kernel
theorem dX10_keep_5 : decode cX10_keep 5 = .ok (.iconst 1, 1) := by decide +kernel
theorem dX10_keep_6 : decode cX10_keep 6 = .ok (.iadd, 1) := by decide +kernel
theorem dX10_keep_7 : decode cX10_keep 7 = .ok (.bipush 10, 2) := by decide +kernel
theorem dX10_keep_9 : decode cX10_keep 9 = .ok (.irem, 1) := by decide +kernel
theorem dX10_keep_10 : decode cX10_keep 10 = .ok (.putfield 19, 3) := by decide +kernel
theorem dX10_keep_13 : decode cX10_keep 13 = .ok (.aload_n 0, 1) := by decide +kernel
theorem dX10_keep_14 : decode cX10_keep 14 = .ok (.getfield 11, 3) := by decide +kernel
theorem dX10_keep_17 : decode cX10_keep 17 = .ok (.aload_n 0, 1) := by decide +kernel
theorem dX10_keep_18 : decode cX10_keep 18 = .ok (.getfield 19, 3) := by decide +kernel
theorem dX10_keep_21 : decode cX10_keep 21 = .ok (.aaload, 1) := by decide +kernel
theorem dX10_keep_22 : decode cX10_keep 22 = .ok (.aload_n 1, 1) := by decide +kernel
theorem dX10_keep_23 : decode cX10_keep 23 = .ok (.invokevirtual 27, 3) := by decide +kernel
theorem dX10_keep_26 : decode cX10_keep 26 = .ok (.aload_n 0, 1) := by decide +kernel
theorem dX10_keep_27 : decode cX10_keep 27 = .ok (.getfield 15, 3) := by decide +kernel
theorem dX10_keep_30 : decode cX10_keep 30 = .ok (.aload_n 0, 1) := by decide +kernel
theorem dX10_keep_31 : decode cX10_keep 31 = .ok (.getfield 19, 3) := by decide +kernel
theorem dX10_keep_34 : decode cX10_keep 34 = .ok (.iload_n 2, 1) := by decide +kernel
theorem dX10_keep_35 : decode cX10_keep 35 = .ok (.bastore, 1) := by decide +kernel
theorem dX10_keep_36 : decode cX10_keep 36 = .ok (.aload_n 0, 1) := by decide +kernel
theorem dX10_keep_37 : decode cX10_keep 37 = .ok (.bipush 10, 2) := by decide +kernel
theorem dX10_keep_39 : decode cX10_keep 39 = .ok (.aload_n 0, 1) := by decide +kernel
theorem dX10_keep_40 : decode cX10_keep 40 = .ok (.getfield 23, 3) := by decide +kernel
theorem dX10_keep_43 : decode cX10_keep 43 = .ok (.iconst 1, 1) := by decide +kernel
theorem dX10_keep_44 : decode cX10_keep 44 = .ok (.iadd, 1) := by decide +kernel
theorem dX10_keep_45 : decode cX10_keep 45 = .ok (.invokestatic 31, 3) := by decide +kernel
theorem dX10_keep_48 : decode cX10_keep 48 = .ok (.putfield 23, 3) := by decide +kernel
theorem dX10_keep_51 : decode cX10_keep 51 = .ok (.return_, 1) := by decide +kernel
theorem dX5_takeReading_0 : decode cX5_takeReading 0 = .ok (.aload_n 0, 1) := by decide +kernel
theorem dX5_takeReading_1 : decode cX5_takeReading 1 = .ok (.iload_n 1, 1) := by decide +kernel
theorem dX5_takeReading_2 : decode cX5_takeReading 2 = .ok (.putfield 28, 3) := by decide +kernel
theorem dX5_takeReading_5 : decode cX5_takeReading 5 = .ok (.aload_n 0, 1) := by decide +kernel
theorem dX5_takeReading_6 : decode cX5_takeReading 6 = .ok (.iload_n 2, 1) := by decide +kernel
theorem dX5_takeReading_7 : decode cX5_takeReading 7 = .ok (.putfield 31, 3) := by decide +kernel
theorem dX5_takeReading_10 : decode cX5_takeReading 10 = .ok (.aload_n 0, 1) := by decide +kernel
theorem dX5_takeReading_11 : decode cX5_takeReading 11 = .ok (.dup, 1) := by decide +kernel
theorem dX5_takeReading_12 : decode cX5_takeReading 12 = .ok (.getfield 34, 3) := by decide +kernel
theorem dX5_takeReading_15 : decode cX5_takeReading 15 = .ok (.iconst 1, 1) := by decide +kernel
theorem dX5_takeReading_16 : decode cX5_takeReading 16 = .ok (.iadd, 1) := by decide +kernel
theorem dX5_takeReading_17 : decode cX5_takeReading 17 = .ok (.putfield 34, 3) := by decide +kernel
theorem dX5_takeReading_20 : decode cX5_takeReading 20 = .ok (.aload_n 0, 1) := by decide +kernel
theorem dX5_takeReading_21 : decode cX5_takeReading 21 = .ok (.iload_n 3, 1) := by decide +kernel
theorem dX5_takeReading_22 : decode cX5_takeReading 22 = .ok (.putfield 37, 3) := by decide +kernel
theorem dX5_takeReading_25 : decode cX5_takeReading 25 = .ok (.return_, 1) := by decide +kernel
theorem dX1_write_0 : decode cX1_write 0 = .ok (.aload_n 0, 1) := by decide +kernel
theorem dX1_write_1 : decode cX1_write 1 = .ok (.invokevirtual 19, 3) := by decide +kernel
theorem dX1_write_4 : decode cX1_write 4 = .ok (.ifCond .ne 4, 3) := by decide +kernel
theorem dX1_write_7 : decode cX1_write 7 = .ok (.return_, 1) := by decide +kernel
theorem dX1_write_8 : decode cX1_write 8 = .ok (.aload_n 0, 1) := by decide +kernel
theorem dX1_write_9 : decode cX1_write 9 = .ok (.getfield 15, 3) := by decide +kernel
theorem dX1_write_12 : decode cX1_write 12 = .ok (.iconst 5, 1) := by decide +kernel
theorem dX1_write_13 : decode cX1_write 13 = .ok (.imul, 1) := by decide +kernel
theorem dX1_write_14 : decode cX1_write 14 = .ok (.istore 6, 2) := by decide +kernel
theorem dX1_write_16 : decode cX1_write 16 = .ok (.aload_n 0, 1) := by decide +kernel
theorem dX1_write_17 : decode cX1_write 17 = .ok (.getfield 11, 3) := by decide +kernel
theorem dX1_write_20 : decode cX1_write 20 = .ok (.iload 6, 2) := by decide +kernel
theorem dX1_write_22 : decode cX1_write 22 = .ok (.iload_n 1, 1) := by decide +kernel
theorem dX1_write_23 : decode cX1_write 23 = .ok (.iastore, 1) := by decide +kernel
theorem dX1_write_24 : decode cX1_write 24 = .ok (.aload_n 0, 1) := by decide +kernel
theorem dX1_write_25 : decode cX1_write 25 = .ok (.getfield 11, 3) := by decide +kernel
theorem dX1_write_28 : decode cX1_write 28 = .ok (.iload 6, 2) := by decide +kernel
theorem dX1_write_30 : decode cX1_write 30 = .ok (.iconst 1, 1) := by decide +kernel
theorem dX1_write_31 : decode cX1_write 31 = .ok (.iadd, 1) := by decide +kernel
theorem dX1_write_32 : decode cX1_write 32 = .ok (.iload_n 2, 1) := by decide +kernel
theorem dX1_write_33 : decode cX1_write 33 = .ok (.iastore, 1) := by decide +kernel
theorem dX1_write_34 : decode cX1_write 34 = .ok (.aload_n 0, 1) := by decide +kernel
theorem dX1_write_35 : decode cX1_write 35 = .ok (.getfield 11, 3) := by decide +kernel
theorem dX1_write_38 : decode cX1_write 38 = .ok (.iload 6, 2) := by decide +kernel
theorem dX1_write_40 : decode cX1_write 40 = .ok (.iconst 2, 1) := by decide +kernel
theorem dX1_write_41 : decode cX1_write 41 = .ok (.iadd, 1) := by decide +kernel
theorem dX1_write_42 : decode cX1_write 42 = .ok (.iload_n 3, 1) := by decide +kernel
theorem dX1_write_43 : decode cX1_write 43 = .ok (.iastore, 1) := by decide +kernel
theorem dX1_write_44 : decode cX1_write 44 = .ok (.aload_n 0, 1) := by decide +kernel
theorem dX1_write_45 : decode cX1_write 45 = .ok (.getfield 11, 3) := by decide +kernel
theorem dX1_write_48 : decode cX1_write 48 = .ok (.iload 6, 2) := by decide +kernel
theorem dX1_write_50 : decode cX1_write 50 = .ok (.iconst 3, 1) := by decide +kernel
theorem dX1_write_51 : decode cX1_write 51 = .ok (.iadd, 1) := by decide +kernel
theorem dX1_write_52 : decode cX1_write 52 = .ok (.iload 4, 2) := by decide +kernel
theorem dX1_write_54 : decode cX1_write 54 = .ok (.iastore, 1) := by decide +kernel
theorem dX1_write_55 : decode cX1_write 55 = .ok (.aload_n 0, 1) := by decide +kernel
theorem dX1_write_56 : decode cX1_write 56 = .ok (.getfield 11, 3) := by decide +kernel
theorem dX1_write_59 : decode cX1_write 59 = .ok (.iload 6, 2) := by decide +kernel
theorem dX1_write_61 : decode cX1_write 61 = .ok (.iconst 4, 1) := by decide +kernel
theorem dX1_write_62 : decode cX1_write 62 = .ok (.iadd, 1) := by decide +kernel
theorem dX1_write_63 : decode cX1_write 63 = .ok (.iload 5, 2) := by decide +kernel
theorem dX1_write_65 : decode cX1_write 65 = .ok (.iastore, 1) := by decide +kernel
theorem dX1_write_66 : decode cX1_write 66 = .ok (.aload_n 0, 1) := by decide +kernel
theorem dX1_write_67 : decode cX1_write 67 = .ok (.dup, 1) := by decide +kernel
theorem dX1_write_68 : decode cX1_write 68 = .ok (.getfield 15, 3) := by decide +kernel
theorem dX1_write_71 : decode cX1_write 71 = .ok (.iconst 1, 1) := by decide +kernel
theorem dX1_write_72 : decode cX1_write 72 = .ok (.iadd, 1) := by decide +kernel
theorem dX1_write_73 : decode cX1_write 73 = .ok (.putfield 15, 3) := by decide +kernel
theorem dX1_write_76 : decode cX1_write 76 = .ok (.return_, 1) := by decide +kernel
theorem dX11_read_0 : decode cX11_read 0 = .ok (.aload_n 0, 1) := by decide +kernel
theorem dX11_read_1 : decode cX11_read 1 = .ok (.getfield 10, 3) := by decide +kernel
theorem dX11_read_4 : decode cX11_read 4 = .ok (.iload_n 1, 1) := by decide +kernel
theorem dX11_read_5 : decode cX11_read 5 = .ok (.invokevirtual 102, 3) := by decide +kernel
theorem dX11_read_8 : decode cX11_read 8 = .ok (.astore_n 3, 1) := by decide +kernel
theorem dX11_read_9 : decode cX11_read 9 = .ok (.aload_n 0, 1) := by decide +kernel
theorem dX11_read_10 : decode cX11_read 10 = .ok (.getfield 10, 3) := by decide +kernel
theorem dX11_read_13 : decode cX11_read 13 = .ok (.iload_n 2, 1) := by decide +kernel
theorem dX11_read_14 : decode cX11_read 14 = .ok (.invokevirtual 76, 3) := by decide +kernel
theorem dX11_read_17 : decode cX11_read 17 = .ok (.astore 4, 2) := by decide +kernel
theorem dX11_read_19 : decode cX11_read 19 = .ok (.aload_n 0, 1) := by decide +kernel
theorem dX11_read_20 : decode cX11_read 20 = .ok (.getfield 10, 3) := by decide +kernel
theorem dX11_read_23 : decode cX11_read 23 = .ok (.getfield 80, 3) := by decide +kernel
theorem dX11_read_26 : decode cX11_read 26 = .ok (.istore 5, 2) := by decide +kernel
theorem dX11_read_28 : decode cX11_read 28 = .ok (.aload_n 3, 1) := by decide +kernel
theorem dX11_read_29 : decode cX11_read 29 = .ok (.ifnull 18, 3) := by decide +kernel
theorem dX11_read_32 : decode cX11_read 32 = .ok (.aload 4, 2) := by decide +kernel
theorem dX11_read_34 : decode cX11_read 34 = .ok (.ifnull 13, 3) := by decide +kernel
theorem dX11_read_37 : decode cX11_read 37 = .ok (.aload 4, 2) := by decide +kernel
theorem dX11_read_39 : decode cX11_read 39 = .ok (.iload 5, 2) := by decide +kernel
theorem dX11_read_41 : decode cX11_read 41 = .ok (.invokevirtual 117, 3) := by decide +kernel
theorem dX11_read_44 : decode cX11_read 44 = .ok (.ifCond .ne 5, 3) := by decide +kernel
theorem dX11_read_47 : decode cX11_read 47 = .ok (.iconst (-1), 1) := by decide +kernel
theorem dX11_read_48 : decode cX11_read 48 = .ok (.ireturn, 1) := by decide +kernel
theorem dX11_read_49 : decode cX11_read 49 = .ok (.aload_n 0, 1) := by decide +kernel
theorem dX11_read_50 : decode cX11_read 50 = .ok (.getfield 10, 3) := by decide +kernel
theorem dX11_read_53 : decode cX11_read 53 = .ok (.aload_n 3, 1) := by decide +kernel
theorem dX11_read_54 : decode cX11_read 54 = .ok (.iload 5, 2) := by decide +kernel
theorem dX11_read_56 : decode cX11_read 56 = .ok (.invokevirtual 120, 3) := by decide +kernel
theorem dX11_read_59 : decode cX11_read 59 = .ok (.istore 6, 2) := by decide +kernel
theorem dX11_read_61 : decode cX11_read 61 = .ok (.aload_n 0, 1) := by decide +kernel
theorem dX11_read_62 : decode cX11_read 62 = .ok (.getfield 40, 3) := by decide +kernel
theorem dX11_read_65 : decode cX11_read 65 = .ok (.aload_n 3, 1) := by decide +kernel
theorem dX11_read_66 : decode cX11_read 66 = .ok (.aload_n 0, 1) := by decide +kernel
theorem dX11_read_67 : decode cX11_read 67 = .ok (.getfield 10, 3) := by decide +kernel
theorem dX11_read_70 : decode cX11_read 70 = .ok (.getfield 124, 3) := by decide +kernel
theorem dX11_read_73 : decode cX11_read 73 = .ok (.invokevirtual 128, 3) := by decide +kernel
theorem dX11_read_76 : decode cX11_read 76 = .ok (.invokevirtual 134, 3) := by decide +kernel
theorem dX11_read_79 : decode cX11_read 79 = .ok (.aload_n 3, 1) := by decide +kernel
theorem dX11_read_80 : decode cX11_read 80 = .ok (.iload_n 2, 1) := by decide +kernel
theorem dX11_read_81 : decode cX11_read 81 = .ok (.aload 4, 2) := by decide +kernel
theorem dX11_read_83 : decode cX11_read 83 = .ok (.iload 5, 2) := by decide +kernel
theorem dX11_read_85 : decode cX11_read 85 = .ok (.invokevirtual 138, 3) := by decide +kernel
theorem dX11_read_88 : decode cX11_read 88 = .ok (.iload 5, 2) := by decide +kernel
theorem dX11_read_90 : decode cX11_read 90 = .ok (.invokevirtual 141, 3) := by decide +kernel
theorem dX11_read_93 : decode cX11_read 93 = .ok (.aload_n 0, 1) := by decide +kernel
theorem dX11_read_94 : decode cX11_read 94 = .ok (.getfield 10, 3) := by decide +kernel
theorem dX11_read_97 : decode cX11_read 97 = .ok (.aload_n 3, 1) := by decide +kernel
theorem dX11_read_98 : decode cX11_read 98 = .ok (.iload 5, 2) := by decide +kernel
theorem dX11_read_100 : decode cX11_read 100 = .ok (.invokevirtual 120, 3) := by decide +kernel
theorem dX11_read_103 : decode cX11_read 103 = .ok (.istore 7, 2) := by decide +kernel
theorem dX11_read_105 : decode cX11_read 105 = .ok (.aload_n 0, 1) := by decide +kernel
theorem dX11_read_106 : decode cX11_read 106 = .ok (.getfield 10, 3) := by decide +kernel
theorem dX11_read_109 : decode cX11_read 109 = .ok (.getfield 124, 3) := by decide +kernel
theorem dX11_read_112 : decode cX11_read 112 = .ok (.iload_n 1, 1) := by decide +kernel
theorem dX11_read_113 : decode cX11_read 113 = .ok (.iload_n 2, 1) := by decide +kernel
theorem dX11_read_114 : decode cX11_read 114 = .ok (.iload 5, 2) := by decide +kernel
theorem dX11_read_116 : decode cX11_read 116 = .ok (.iload 6, 2) := by decide +kernel
theorem dX11_read_118 : decode cX11_read 118 = .ok (.iload 7, 2) := by decide +kernel
theorem dX11_read_120 : decode cX11_read 120 = .ok (.invokevirtual 144, 3) := by decide +kernel
theorem dX11_read_123 : decode cX11_read 123 = .ok (.iload 7, 2) := by decide +kernel
theorem dX11_read_125 : decode cX11_read 125 = .ok (.ireturn, 1) := by decide +kernel
theorem dX11_lease_0 : decode cX11_lease 0 = .ok (.aload_n 0, 1) := by decide +kernel
theorem dX11_lease_1 : decode cX11_lease 1 = .ok (.getfield 10, 3) := by decide +kernel
theorem dX11_lease_4 : decode cX11_lease 4 = .ok (.iload_n 1, 1) := by decide +kernel
theorem dX11_lease_5 : decode cX11_lease 5 = .ok (.invokevirtual 102, 3) := by decide +kernel
theorem dX11_lease_8 : decode cX11_lease 8 = .ok (.astore_n 3, 1) := by decide +kernel
theorem dX11_lease_9 : decode cX11_lease 9 = .ok (.aload_n 0, 1) := by decide +kernel
theorem dX11_lease_10 : decode cX11_lease 10 = .ok (.getfield 10, 3) := by decide +kernel
theorem dX11_lease_13 : decode cX11_lease 13 = .ok (.iload_n 2, 1) := by decide +kernel
theorem dX11_lease_14 : decode cX11_lease 14 = .ok (.invokevirtual 76, 3) := by decide +kernel
theorem dX11_lease_17 : decode cX11_lease 17 = .ok (.astore 4, 2) := by decide +kernel
theorem dX11_lease_19 : decode cX11_lease 19 = .ok (.iload_n 2, 1) := by decide +kernel
theorem dX11_lease_20 : decode cX11_lease 20 = .ok (.iconst (-1), 1) := by decide +kernel
theorem dX11_lease_21 : decode cX11_lease 21 = .ok (.if_icmp .eq 23, 3) := by decide +kernel
theorem dX11_lease_24 : decode cX11_lease 24 = .ok (.aload 4, 2) := by decide +kernel
theorem dX11_lease_26 : decode cX11_lease 26 = .ok (.ifnull 22, 3) := by decide +kernel
theorem dX11_lease_29 : decode cX11_lease 29 = .ok (.aload 4, 2) := by decide +kernel
theorem dX11_lease_31 : decode cX11_lease 31 = .ok (.aload_n 0, 1) := by decide +kernel
theorem dX11_lease_32 : decode cX11_lease 32 = .ok (.getfield 10, 3) := by decide +kernel
theorem dX11_lease_35 : decode cX11_lease 35 = .ok (.getfield 80, 3) := by decide +kernel
theorem dX11_lease_38 : decode cX11_lease 38 = .ok (.invokevirtual 117, 3) := by decide +kernel
theorem dX11_lease_41 : decode cX11_lease 41 = .ok (.ifCond .eq 7, 3) := by decide +kernel
theorem dX11_lease_44 : decode cX11_lease 44 = .ok (.iconst 1, 1) := by decide +kernel
theorem dX11_lease_45 : decode cX11_lease 45 = .ok (.goto 4, 3) := by decide +kernel
theorem dX11_lease_48 : decode cX11_lease 48 = .ok (.iconst 0, 1) := by decide +kernel
theorem dX11_lease_49 : decode cX11_lease 49 = .ok (.istore 5, 2) := by decide +kernel
theorem dX11_lease_51 : decode cX11_lease 51 = .ok (.aload_n 3, 1) := by decide +kernel
theorem dX11_lease_52 : decode cX11_lease 52 = .ok (.ifnull 8, 3) := by decide +kernel
theorem dX11_lease_55 : decode cX11_lease 55 = .ok (.iload 5, 2) := by decide +kernel
theorem dX11_lease_57 : decode cX11_lease 57 = .ok (.ifCond .ne 5, 3) := by decide +kernel
theorem dX11_lease_60 : decode cX11_lease 60 = .ok (.iconst 0, 1) := by decide +kernel
theorem dX11_lease_61 : decode cX11_lease 61 = .ok (.ireturn, 1) := by decide +kernel
theorem dX11_lease_62 : decode cX11_lease 62 = .ok (.aload_n 0, 1) := by decide +kernel
theorem dX11_lease_63 : decode cX11_lease 63 = .ok (.getfield 40, 3) := by decide +kernel
theorem dX11_lease_66 : decode cX11_lease 66 = .ok (.invokevirtual 63, 3) := by decide +kernel
theorem dX11_lease_69 : decode cX11_lease 69 = .ok (.aload_n 3, 1) := by decide +kernel
theorem dX11_lease_70 : decode cX11_lease 70 = .ok (.iload_n 2, 1) := by decide +kernel
theorem dX11_lease_71 : decode cX11_lease 71 = .ok (.putfield 148, 3) := by decide +kernel
theorem dX11_lease_74 : decode cX11_lease 74 = .ok (.iconst 1, 1) := by decide +kernel
theorem dX11_lease_75 : decode cX11_lease 75 = .ok (.ireturn, 1) := by decide +kernel
theorem dX0_drawTenThousandth_0 : decode cX0_drawTenThousandth 0 = .ok (.aload_n 0, 1) := by decide +kernel
theorem dX0_drawTenThousandth_1 : decode cX0_drawTenThousandth 1 = .ok (.ldc 139, 2) := by decide +kernel
theorem dX0_drawTenThousandth_3 : decode cX0_drawTenThousandth 3 = .ok (.aload_n 0, 1) := by decide +kernel
theorem dX0_drawTenThousandth_4 : decode cX0_drawTenThousandth 4 = .ok (.getfield 60, 3) := by decide +kernel
theorem dX0_drawTenThousandth_7 : decode cX0_drawTenThousandth 7 = .ok (.imul, 1) := by decide +kernel
theorem dX0_drawTenThousandth_8 : decode cX0_drawTenThousandth 8 = .ok (.ldc 140, 2) := by decide +kernel
theorem dX0_drawTenThousandth_10 : decode cX0_drawTenThousandth 10 = .ok (.iadd, 1) := by decide +kernel
theorem dX0_drawTenThousandth_11 : decode cX0_drawTenThousandth 11 = .ok (.putfield 60, 3) := by decide +kernel
theorem dX0_drawTenThousandth_14 : decode cX0_drawTenThousandth 14 = .ok (.aload_n 0, 1) := by decide +kernel
theorem dX0_drawTenThousandth_15 : decode cX0_drawTenThousandth 15 = .ok (.getfield 60, 3) := by decide +kernel
theorem dX0_drawTenThousandth_18 : decode cX0_drawTenThousandth 18 = .ok (.bipush 8, 2) := by decide +kernel
theorem dX0_drawTenThousandth_20 : decode cX0_drawTenThousandth 20 = .ok (.iushr, 1) := by decide +kernel
theorem dX0_drawTenThousandth_21 : decode cX0_drawTenThousandth 21 = .ok (.sipush 10000, 3) := by decide +kernel
theorem dX0_drawTenThousandth_24 : decode cX0_drawTenThousandth 24 = .ok (.irem, 1) := by decide +kernel
theorem dX0_drawTenThousandth_25 : decode cX0_drawTenThousandth 25 = .ok (.ireturn, 1) := by decide +kernel
theorem dX0_drawDeaths_0 : decode cX0_drawDeaths 0 = .ok (.iconst 0, 1) := by decide +kernel
theorem dX0_drawDeaths_1 : decode cX0_drawDeaths 1 = .ok (.istore_n 1, 1) := by decide +kernel
theorem dX0_drawDeaths_2 : decode cX0_drawDeaths 2 = .ok (.iconst 0, 1) := by decide +kernel
theorem dX0_drawDeaths_3 : decode cX0_drawDeaths 3 = .ok (.istore_n 2, 1) := by decide +kernel
theorem dX0_drawDeaths_4 : decode cX0_drawDeaths 4 = .ok (.iload_n 2, 1) := by decide +kernel
theorem dX0_drawDeaths_5 : decode cX0_drawDeaths 5 = .ok (.aload_n 0, 1) := by decide +kernel
theorem dX0_drawDeaths_6 : decode cX0_drawDeaths 6 = .ok (.getfield 50, 3) := by decide +kernel
theorem dX0_drawDeaths_9 : decode cX0_drawDeaths 9 = .ok (.if_icmp .ge 56, 3) := by decide +kernel
theorem dX0_drawDeaths_12 : decode cX0_drawDeaths 12 = .ok (.aload_n 0, 1) := by decide +kernel
theorem dX0_drawDeaths_13 : decode cX0_drawDeaths 13 = .ok (.getfield 11, 3) := by decide +kernel
theorem dX0_drawDeaths_16 : decode cX0_drawDeaths 16 = .ok (.iload_n 2, 1) := by decide +kernel
theorem dX0_drawDeaths_17 : decode cX0_drawDeaths 17 = .ok (.aaload, 1) := by decide +kernel
theorem dX0_drawDeaths_18 : decode cX0_drawDeaths 18 = .ok (.astore_n 3, 1) := by decide +kernel
theorem dX0_drawDeaths_19 : decode cX0_drawDeaths 19 = .ok (.aload_n 3, 1) := by decide +kernel
theorem dX0_drawDeaths_20 : decode cX0_drawDeaths 20 = .ok (.aload_n 0, 1) := by decide +kernel
theorem dX0_drawDeaths_21 : decode cX0_drawDeaths 21 = .ok (.getfield 57, 3) := by decide +kernel
theorem dX0_drawDeaths_24 : decode cX0_drawDeaths 24 = .ok (.invokevirtual 101, 3) := by decide +kernel
theorem dX0_drawDeaths_27 : decode cX0_drawDeaths 27 = .ok (.ifCond .eq 32, 3) := by decide +kernel
theorem dX0_drawDeaths_30 : decode cX0_drawDeaths 30 = .ok (.aload_n 3, 1) := by decide +kernel
theorem dX0_drawDeaths_31 : decode cX0_drawDeaths 31 = .ok (.getfield 130, 3) := by decide +kernel
theorem dX0_drawDeaths_34 : decode cX0_drawDeaths 34 = .ok (.ifCond .le 25, 3) := by decide +kernel
theorem dX0_drawDeaths_37 : decode cX0_drawDeaths 37 = .ok (.aload_n 0, 1) := by decide +kernel
theorem dX0_drawDeaths_38 : decode cX0_drawDeaths 38 = .ok (.invokevirtual 133, 3) := by decide +kernel
theorem dX0_drawDeaths_41 : decode cX0_drawDeaths 41 = .ok (.aload_n 3, 1) := by decide +kernel
theorem dX0_drawDeaths_42 : decode cX0_drawDeaths 42 = .ok (.getfield 130, 3) := by decide +kernel
theorem dX0_drawDeaths_45 : decode cX0_drawDeaths 45 = .ok (.if_icmp .ge 14, 3) := by decide +kernel
theorem dX0_drawDeaths_48 : decode cX0_drawDeaths 48 = .ok (.aload_n 3, 1) := by decide +kernel
theorem dX0_drawDeaths_49 : decode cX0_drawDeaths 49 = .ok (.aload_n 0, 1) := by decide +kernel
theorem dX0_drawDeaths_50 : decode cX0_drawDeaths 50 = .ok (.getfield 57, 3) := by decide +kernel
theorem dX0_drawDeaths_53 : decode cX0_drawDeaths 53 = .ok (.putfield 136, 3) := by decide +kernel
theorem dX0_drawDeaths_56 : decode cX0_drawDeaths 56 = .ok (.iinc 1 1, 3) := by decide +kernel
theorem dX0_drawDeaths_59 : decode cX0_drawDeaths 59 = .ok (.iinc 2 1, 3) := by decide +kernel
theorem dX0_drawDeaths_62 : decode cX0_drawDeaths 62 = .ok (.goto (-58), 3) := by decide +kernel
theorem dX0_drawDeaths_65 : decode cX0_drawDeaths 65 = .ok (.iload_n 1, 1) := by decide +kernel
theorem dX0_drawDeaths_66 : decode cX0_drawDeaths 66 = .ok (.ireturn, 1) := by decide +kernel
theorem dX0_leasesOf_0 : decode cX0_leasesOf 0 = .ok (.iconst 0, 1) := by decide +kernel
theorem dX0_leasesOf_1 : decode cX0_leasesOf 1 = .ok (.istore_n 2, 1) := by decide +kernel
theorem dX0_leasesOf_2 : decode cX0_leasesOf 2 = .ok (.iconst 0, 1) := by decide +kernel
theorem dX0_leasesOf_3 : decode cX0_leasesOf 3 = .ok (.istore_n 3, 1) := by decide +kernel
theorem dX0_leasesOf_4 : decode cX0_leasesOf 4 = .ok (.iload_n 3, 1) := by decide +kernel
theorem dX0_leasesOf_5 : decode cX0_leasesOf 5 = .ok (.aload_n 0, 1) := by decide +kernel
theorem dX0_leasesOf_6 : decode cX0_leasesOf 6 = .ok (.getfield 54, 3) := by decide +kernel
theorem dX0_leasesOf_9 : decode cX0_leasesOf 9 = .ok (.if_icmp .ge 25, 3) := by decide +kernel
theorem dX0_leasesOf_12 : decode cX0_leasesOf 12 = .ok (.aload_n 0, 1) := by decide +kernel
theorem dX0_leasesOf_13 : decode cX0_leasesOf 13 = .ok (.getfield 19, 3) := by decide +kernel
theorem dX0_leasesOf_16 : decode cX0_leasesOf 16 = .ok (.iload_n 3, 1) := by decide +kernel
theorem dX0_leasesOf_17 : decode cX0_leasesOf 17 = .ok (.aaload, 1) := by decide +kernel
theorem dX0_leasesOf_18 : decode cX0_leasesOf 18 = .ok (.getfield 141, 3) := by decide +kernel
theorem dX0_leasesOf_21 : decode cX0_leasesOf 21 = .ok (.iload_n 1, 1) := by decide +kernel
theorem dX0_leasesOf_22 : decode cX0_leasesOf 22 = .ok (.if_icmp .ne 6, 3) := by decide +kernel
theorem dX0_leasesOf_25 : decode cX0_leasesOf 25 = .ok (.iinc 2 1, 3) := by decide +kernel
theorem dX0_leasesOf_28 : decode cX0_leasesOf 28 = .ok (.iinc 3 1, 3) := by decide +kernel
theorem dX0_leasesOf_31 : decode cX0_leasesOf 31 = .ok (.goto (-27), 3) := by decide +kernel
theorem dX0_leasesOf_34 : decode cX0_leasesOf 34 = .ok (.iload_n 2, 1) := by decide +kernel
theorem dX0_leasesOf_35 : decode cX0_leasesOf 35 = .ok (.ireturn, 1) := by decide +kernel
theorem dX0_nextForLease_0 : decode cX0_nextForLease 0 = .ok (.iconst (-1), 1) := by decide +kernel
theorem dX0_nextForLease_1 : decode cX0_nextForLease 1 = .ok (.istore_n 1, 1) := by decide +kernel
theorem dX0_nextForLease_2 : decode cX0_nextForLease 2 = .ok (.iconst (-1), 1) := by decide +kernel
theorem dX0_nextForLease_3 : decode cX0_nextForLease 3 = .ok (.istore_n 2, 1) := by decide +kernel
theorem dX0_nextForLease_4 : decode cX0_nextForLease 4 = .ok (.iconst 0, 1) := by decide +kernel
theorem dX0_nextForLease_5 : decode cX0_nextForLease 5 = .ok (.istore_n 3, 1) := by decide +kernel
theorem dX0_nextForLease_6 : decode cX0_nextForLease 6 = .ok (.iload_n 3, 1) := by decide +kernel
theorem dX0_nextForLease_7 : decode cX0_nextForLease 7 = .ok (.aload_n 0, 1) := by decide +kernel
theorem dX0_nextForLease_8 : decode cX0_nextForLease 8 = .ok (.getfield 50, 3) := by decide +kernel
theorem dX0_nextForLease_11 : decode cX0_nextForLease 11 = .ok (.if_icmp .ge 62, 3) := by decide +kernel
theorem dX0_nextForLease_14 : decode cX0_nextForLease 14 = .ok (.aload_n 0, 1) := by decide +kernel
theorem dX0_nextForLease_15 : decode cX0_nextForLease 15 = .ok (.getfield 11, 3) := by decide +kernel
theorem dX0_nextForLease_18 : decode cX0_nextForLease 18 = .ok (.iload_n 3, 1) := by decide +kernel
theorem dX0_nextForLease_19 : decode cX0_nextForLease 19 = .ok (.aaload, 1) := by decide +kernel
theorem dX0_nextForLease_20 : decode cX0_nextForLease 20 = .ok (.astore 4, 2) := by decide +kernel
theorem dX0_nextForLease_22 : decode cX0_nextForLease 22 = .ok (.aload 4, 2) := by decide +kernel
theorem dX0_nextForLease_24 : decode cX0_nextForLease 24 = .ok (.aload_n 0, 1) := by decide +kernel
theorem dX0_nextForLease_25 : decode cX0_nextForLease 25 = .ok (.getfield 57, 3) := by decide +kernel
theorem dX0_nextForLease_28 : decode cX0_nextForLease 28 = .ok (.invokevirtual 101, 3) := by decide +kernel
theorem dX0_nextForLease_31 : decode cX0_nextForLease 31 = .ok (.ifCond .eq 36, 3) := by decide +kernel
theorem dX0_nextForLease_34 : decode cX0_nextForLease 34 = .ok (.aload 4, 2) := by decide +kernel
theorem dX0_nextForLease_36 : decode cX0_nextForLease 36 = .ok (.aload_n 0, 1) := by decide +kernel
theorem dX0_nextForLease_37 : decode cX0_nextForLease 37 = .ok (.getfield 57, 3) := by decide +kernel
theorem dX0_nextForLease_40 : decode cX0_nextForLease 40 = .ok (.invokevirtual 82, 3) := by decide +kernel
theorem dX0_nextForLease_43 : decode cX0_nextForLease 43 = .ok (.iload_n 2, 1) := by decide +kernel
theorem dX0_nextForLease_44 : decode cX0_nextForLease 44 = .ok (.if_icmp .le 23, 3) := by decide +kernel
theorem dX0_nextForLease_47 : decode cX0_nextForLease 47 = .ok (.aload_n 0, 1) := by decide +kernel
theorem dX0_nextForLease_48 : decode cX0_nextForLease 48 = .ok (.iload_n 3, 1) := by decide +kernel
theorem dX0_nextForLease_49 : decode cX0_nextForLease 49 = .ok (.invokevirtual 147, 3) := by decide +kernel
theorem dX0_nextForLease_52 : decode cX0_nextForLease 52 = .ok (.ifCond .ne 15, 3) := by decide +kernel
theorem dX0_nextForLease_55 : decode cX0_nextForLease 55 = .ok (.aload 4, 2) := by decide +kernel
theorem dX0_nextForLease_57 : decode cX0_nextForLease 57 = .ok (.aload_n 0, 1) := by decide +kernel
theorem dX0_nextForLease_58 : decode cX0_nextForLease 58 = .ok (.getfield 57, 3) := by decide +kernel
theorem dX0_nextForLease_61 : decode cX0_nextForLease 61 = .ok (.invokevirtual 82, 3) := by decide +kernel
theorem dX0_nextForLease_64 : decode cX0_nextForLease 64 = .ok (.istore_n 2, 1) := by decide +kernel
theorem dX0_nextForLease_65 : decode cX0_nextForLease 65 = .ok (.iload_n 3, 1) := by decide +kernel
theorem dX0_nextForLease_66 : decode cX0_nextForLease 66 = .ok (.istore_n 1, 1) := by decide +kernel
theorem dX0_nextForLease_67 : decode cX0_nextForLease 67 = .ok (.iinc 3 1, 3) := by decide +kernel
theorem dX0_nextForLease_70 : decode cX0_nextForLease 70 = .ok (.goto (-64), 3) := by decide +kernel
theorem dX0_nextForLease_73 : decode cX0_nextForLease 73 = .ok (.iload_n 1, 1) := by decide +kernel
theorem dX0_nextForLease_74 : decode cX0_nextForLease 74 = .ok (.ireturn, 1) := by decide +kernel
theorem dX0_passLeases_0 : decode cX0_passLeases 0 = .ok (.iconst 0, 1) := by decide +kernel
theorem dX0_passLeases_1 : decode cX0_passLeases 1 = .ok (.istore_n 1, 1) := by decide +kernel
theorem dX0_passLeases_2 : decode cX0_passLeases 2 = .ok (.iload_n 1, 1) := by decide +kernel
theorem dX0_passLeases_3 : decode cX0_passLeases 3 = .ok (.aload_n 0, 1) := by decide +kernel
theorem dX0_passLeases_4 : decode cX0_passLeases 4 = .ok (.getfield 54, 3) := by decide +kernel
theorem dX0_passLeases_7 : decode cX0_passLeases 7 = .ok (.if_icmp .ge 51, 3) := by decide +kernel
theorem dX0_passLeases_10 : decode cX0_passLeases 10 = .ok (.aload_n 0, 1) := by decide +kernel
theorem dX0_passLeases_11 : decode cX0_passLeases 11 = .ok (.aload_n 0, 1) := by decide +kernel
theorem dX0_passLeases_12 : decode cX0_passLeases 12 = .ok (.getfield 19, 3) := by decide +kernel
theorem dX0_passLeases_15 : decode cX0_passLeases 15 = .ok (.iload_n 1, 1) := by decide +kernel
theorem dX0_passLeases_16 : decode cX0_passLeases 16 = .ok (.aaload, 1) := by decide +kernel
theorem dX0_passLeases_17 : decode cX0_passLeases 17 = .ok (.getfield 141, 3) := by decide +kernel
theorem dX0_passLeases_20 : decode cX0_passLeases 20 = .ok (.invokevirtual 75, 3) := by decide +kernel
theorem dX0_passLeases_23 : decode cX0_passLeases 23 = .ok (.astore_n 2, 1) := by decide +kernel
theorem dX0_passLeases_24 : decode cX0_passLeases 24 = .ok (.aload_n 2, 1) := by decide +kernel
theorem dX0_passLeases_25 : decode cX0_passLeases 25 = .ok (.ifnull 27, 3) := by decide +kernel
theorem dX0_passLeases_28 : decode cX0_passLeases 28 = .ok (.aload_n 2, 1) := by decide +kernel
theorem dX0_passLeases_29 : decode cX0_passLeases 29 = .ok (.aload_n 0, 1) := by decide +kernel
theorem dX0_passLeases_30 : decode cX0_passLeases 30 = .ok (.getfield 57, 3) := by decide +kernel
theorem dX0_passLeases_33 : decode cX0_passLeases 33 = .ok (.invokevirtual 101, 3) := by decide +kernel
theorem dX0_passLeases_36 : decode cX0_passLeases 36 = .ok (.ifCond .ne 16, 3) := by decide +kernel
theorem dX0_passLeases_39 : decode cX0_passLeases 39 = .ok (.aload_n 0, 1) := by decide +kernel
theorem dX0_passLeases_40 : decode cX0_passLeases 40 = .ok (.getfield 19, 3) := by decide +kernel
theorem dX0_passLeases_43 : decode cX0_passLeases 43 = .ok (.iload_n 1, 1) := by decide +kernel
theorem dX0_passLeases_44 : decode cX0_passLeases 44 = .ok (.aaload, 1) := by decide +kernel
theorem dX0_passLeases_45 : decode cX0_passLeases 45 = .ok (.aload_n 0, 1) := by decide +kernel
theorem dX0_passLeases_46 : decode cX0_passLeases 46 = .ok (.invokevirtual 144, 3) := by decide +kernel
theorem dX0_passLeases_49 : decode cX0_passLeases 49 = .ok (.putfield 141, 3) := by decide +kernel
theorem dX0_passLeases_52 : decode cX0_passLeases 52 = .ok (.iinc 1 1, 3) := by decide +kernel
theorem dX0_passLeases_55 : decode cX0_passLeases 55 = .ok (.goto (-53), 3) := by decide +kernel
theorem dX0_passLeases_58 : decode cX0_passLeases 58 = .ok (.return_, 1) := by decide +kernel
theorem dX0_endDay_0 : decode cX0_endDay 0 = .ok (.aload_n 0, 1) := by decide +kernel
theorem dX0_endDay_1 : decode cX0_endDay 1 = .ok (.dup, 1) := by decide +kernel
theorem dX0_endDay_2 : decode cX0_endDay 2 = .ok (.getfield 57, 3) := by decide +kernel
theorem dX0_endDay_5 : decode cX0_endDay 5 = .ok (.iconst 1, 1) := by decide +kernel
theorem dX0_endDay_6 : decode cX0_endDay 6 = .ok (.iadd, 1) := by decide +kernel
theorem dX0_endDay_7 : decode cX0_endDay 7 = .ok (.putfield 57, 3) := by decide +kernel
theorem dX0_endDay_10 : decode cX0_endDay 10 = .ok (.aload_n 0, 1) := by decide +kernel
theorem dX0_endDay_11 : decode cX0_endDay 11 = .ok (.invokevirtual 123, 3) := by decide +kernel
theorem dX0_endDay_14 : decode cX0_endDay 14 = .ok (.istore_n 1, 1) := by decide +kernel
theorem dX0_endDay_15 : decode cX0_endDay 15 = .ok (.aload_n 0, 1) := by decide +kernel
theorem dX0_endDay_16 : decode cX0_endDay 16 = .ok (.dup, 1) := by decide +kernel
theorem dX0_endDay_17 : decode cX0_endDay 17 = .ok (.getfield 63, 3) := by decide +kernel
theorem dX0_endDay_20 : decode cX0_endDay 20 = .ok (.iload_n 1, 1) := by decide +kernel
theorem dX0_endDay_21 : decode cX0_endDay 21 = .ok (.iadd, 1) := by decide +kernel
theorem dX0_endDay_22 : decode cX0_endDay 22 = .ok (.putfield 63, 3) := by decide +kernel
theorem dX0_endDay_25 : decode cX0_endDay 25 = .ok (.aload_n 0, 1) := by decide +kernel
theorem dX0_endDay_26 : decode cX0_endDay 26 = .ok (.invokevirtual 127, 3) := by decide +kernel
theorem dX0_endDay_29 : decode cX0_endDay 29 = .ok (.iload_n 1, 1) := by decide +kernel
theorem dX0_endDay_30 : decode cX0_endDay 30 = .ok (.ireturn, 1) := by decide +kernel
theorem dX11_days_0 : decode cX11_days 0 = .ok (.iload_n 1, 1) := by decide +kernel
theorem dX11_days_1 : decode cX11_days 1 = .ok (.iconst 1, 1) := by decide +kernel
theorem dX11_days_2 : decode cX11_days 2 = .ok (.sipush 400, 3) := by decide +kernel
theorem dX11_days_5 : decode cX11_days 5 = .ok (.invokestatic 56, 3) := by decide +kernel
theorem dX11_days_8 : decode cX11_days 8 = .ok (.ifCond .eq 18, 3) := by decide +kernel
theorem dX11_days_11 : decode cX11_days 11 = .ok (.aload_n 0, 1) := by decide +kernel
theorem dX11_days_12 : decode cX11_days 12 = .ok (.getfield 10, 3) := by decide +kernel
theorem dX11_days_15 : decode cX11_days 15 = .ok (.getfield 80, 3) := by decide +kernel
theorem dX11_days_18 : decode cX11_days 18 = .ok (.iload_n 1, 1) := by decide +kernel
theorem dX11_days_19 : decode cX11_days 19 = .ok (.iadd, 1) := by decide +kernel
theorem dX11_days_20 : decode cX11_days 20 = .ok (.sipush 9999, 3) := by decide +kernel
theorem dX11_days_23 : decode cX11_days 23 = .ok (.if_icmp .le 5, 3) := by decide +kernel
theorem dX11_days_26 : decode cX11_days 26 = .ok (.iconst (-1), 1) := by decide +kernel
theorem dX11_days_27 : decode cX11_days 27 = .ok (.ireturn, 1) := by decide +kernel
theorem dX11_days_28 : decode cX11_days 28 = .ok (.aload_n 0, 1) := by decide +kernel
theorem dX11_days_29 : decode cX11_days 29 = .ok (.getfield 40, 3) := by decide +kernel
theorem dX11_days_32 : decode cX11_days 32 = .ok (.invokevirtual 63, 3) := by decide +kernel
theorem dX11_days_35 : decode cX11_days 35 = .ok (.iconst 0, 1) := by decide +kernel
theorem dX11_days_36 : decode cX11_days 36 = .ok (.istore_n 2, 1) := by decide +kernel
theorem dX11_days_37 : decode cX11_days 37 = .ok (.iconst 0, 1) := by decide +kernel
theorem dX11_days_38 : decode cX11_days 38 = .ok (.istore_n 3, 1) := by decide +kernel
theorem dX11_days_39 : decode cX11_days 39 = .ok (.iload_n 3, 1) := by decide +kernel
theorem dX11_days_40 : decode cX11_days 40 = .ok (.iload_n 1, 1) := by decide +kernel
theorem dX11_days_41 : decode cX11_days 41 = .ok (.if_icmp .ge 19, 3) := by decide +kernel
theorem dX11_days_44 : decode cX11_days 44 = .ok (.iload_n 2, 1) := by decide +kernel
theorem dX11_days_45 : decode cX11_days 45 = .ok (.aload_n 0, 1) := by decide +kernel
theorem dX11_days_46 : decode cX11_days 46 = .ok (.getfield 10, 3) := by decide +kernel
theorem dX11_days_49 : decode cX11_days 49 = .ok (.invokevirtual 151, 3) := by decide +kernel
theorem dX11_days_52 : decode cX11_days 52 = .ok (.iadd, 1) := by decide +kernel
theorem dX11_days_53 : decode cX11_days 53 = .ok (.istore_n 2, 1) := by decide +kernel
theorem dX11_days_54 : decode cX11_days 54 = .ok (.iinc 3 1, 3) := by decide +kernel
theorem dX11_days_57 : decode cX11_days 57 = .ok (.goto (-18), 3) := by decide +kernel
theorem dX11_days_60 : decode cX11_days 60 = .ok (.iload_n 2, 1) := by decide +kernel
theorem dX11_days_61 : decode cX11_days 61 = .ok (.ireturn, 1) := by decide +kernel
theorem dX7_hasRoom_0 : decode cX7_hasRoom 0 = .ok (.aload_n 0, 1) := by decide +kernel
theorem dX7_hasRoom_1 : decode cX7_hasRoom 1 = .ok (.getfield 15, 3) := by decide +kernel
theorem dX7_hasRoom_4 : decode cX7_hasRoom 4 = .ok (.iload_n 1, 1) := by decide +kernel
theorem dX7_hasRoom_5 : decode cX7_hasRoom 5 = .ok (.iadd, 1) := by decide +kernel
theorem dX7_hasRoom_6 : decode cX7_hasRoom 6 = .ok (.sipush 400, 3) := by decide +kernel
theorem dX7_hasRoom_9 : decode cX7_hasRoom 9 = .ok (.if_icmp .gt 7, 3) := by decide +kernel
theorem dX7_hasRoom_12 : decode cX7_hasRoom 12 = .ok (.iconst 1, 1) := by decide +kernel
theorem dX7_hasRoom_13 : decode cX7_hasRoom 13 = .ok (.goto 4, 3) := by decide +kernel
theorem dX7_hasRoom_16 : decode cX7_hasRoom 16 = .ok (.iconst 0, 1) := by decide +kernel
theorem dX7_hasRoom_17 : decode cX7_hasRoom 17 = .ok (.ireturn, 1) := by decide +kernel
theorem dX7_put_0 : decode cX7_put 0 = .ok (.aload_n 0, 1) := by decide +kernel
theorem dX7_put_1 : decode cX7_put 1 = .ok (.iconst 4, 1) := by decide +kernel
theorem dX7_put_2 : decode cX7_put 2 = .ok (.invokevirtual 19, 3) := by decide +kernel
theorem dX7_put_5 : decode cX7_put 5 = .ok (.ifCond .ne 4, 3) := by decide +kernel
theorem dX7_put_8 : decode cX7_put 8 = .ok (.return_, 1) := by decide +kernel
theorem dX7_put_9 : decode cX7_put 9 = .ok (.aload_n 0, 1) := by decide +kernel
theorem dX7_put_10 : decode cX7_put 10 = .ok (.getfield 11, 3) := by decide +kernel
theorem dX7_put_13 : decode cX7_put 13 = .ok (.aload_n 0, 1) := by decide +kernel
theorem dX7_put_14 : decode cX7_put 14 = .ok (.getfield 15, 3) := by decide +kernel
theorem dX7_put_17 : decode cX7_put 17 = .ok (.iload_n 1, 1) := by decide +kernel
theorem dX7_put_18 : decode cX7_put 18 = .ok (.bipush 24, 2) := by decide +kernel
theorem dX7_put_20 : decode cX7_put 20 = .ok (.ishr, 1) := by decide +kernel
theorem dX7_put_21 : decode cX7_put 21 = .ok (.i2b, 1) := by decide +kernel
theorem dX7_put_22 : decode cX7_put 22 = .ok (.bastore, 1) := by decide +kernel
theorem dX7_put_23 : decode cX7_put 23 = .ok (.aload_n 0, 1) := by decide +kernel
theorem dX7_put_24 : decode cX7_put 24 = .ok (.getfield 11, 3) := by decide +kernel
theorem dX7_put_27 : decode cX7_put 27 = .ok (.aload_n 0, 1) := by decide +kernel
theorem dX7_put_28 : decode cX7_put 28 = .ok (.getfield 15, 3) := by decide +kernel
theorem dX7_put_31 : decode cX7_put 31 = .ok (.iconst 1, 1) := by decide +kernel
theorem dX7_put_32 : decode cX7_put 32 = .ok (.iadd, 1) := by decide +kernel
theorem dX7_put_33 : decode cX7_put 33 = .ok (.iload_n 1, 1) := by decide +kernel
theorem dX7_put_34 : decode cX7_put 34 = .ok (.bipush 16, 2) := by decide +kernel
theorem dX7_put_36 : decode cX7_put 36 = .ok (.ishr, 1) := by decide +kernel
theorem dX7_put_37 : decode cX7_put 37 = .ok (.i2b, 1) := by decide +kernel
theorem dX7_put_38 : decode cX7_put 38 = .ok (.bastore, 1) := by decide +kernel
theorem dX7_put_39 : decode cX7_put 39 = .ok (.aload_n 0, 1) := by decide +kernel
theorem dX7_put_40 : decode cX7_put 40 = .ok (.getfield 11, 3) := by decide +kernel
theorem dX7_put_43 : decode cX7_put 43 = .ok (.aload_n 0, 1) := by decide +kernel
theorem dX7_put_44 : decode cX7_put 44 = .ok (.getfield 15, 3) := by decide +kernel
theorem dX7_put_47 : decode cX7_put 47 = .ok (.iconst 2, 1) := by decide +kernel
theorem dX7_put_48 : decode cX7_put 48 = .ok (.iadd, 1) := by decide +kernel
theorem dX7_put_49 : decode cX7_put 49 = .ok (.iload_n 1, 1) := by decide +kernel
theorem dX7_put_50 : decode cX7_put 50 = .ok (.bipush 8, 2) := by decide +kernel
theorem dX7_put_52 : decode cX7_put 52 = .ok (.ishr, 1) := by decide +kernel
theorem dX7_put_53 : decode cX7_put 53 = .ok (.i2b, 1) := by decide +kernel
theorem dX7_put_54 : decode cX7_put 54 = .ok (.bastore, 1) := by decide +kernel
theorem dX7_put_55 : decode cX7_put 55 = .ok (.aload_n 0, 1) := by decide +kernel
theorem dX7_put_56 : decode cX7_put 56 = .ok (.getfield 11, 3) := by decide +kernel
theorem dX7_put_59 : decode cX7_put 59 = .ok (.aload_n 0, 1) := by decide +kernel
theorem dX7_put_60 : decode cX7_put 60 = .ok (.getfield 15, 3) := by decide +kernel
theorem dX7_put_63 : decode cX7_put 63 = .ok (.iconst 3, 1) := by decide +kernel
theorem dX7_put_64 : decode cX7_put 64 = .ok (.iadd, 1) := by decide +kernel
theorem dX7_put_65 : decode cX7_put 65 = .ok (.iload_n 1, 1) := by decide +kernel
theorem dX7_put_66 : decode cX7_put 66 = .ok (.i2b, 1) := by decide +kernel
theorem dX7_put_67 : decode cX7_put 67 = .ok (.bastore, 1) := by decide +kernel
theorem dX7_put_68 : decode cX7_put 68 = .ok (.aload_n 0, 1) := by decide +kernel
theorem dX7_put_69 : decode cX7_put 69 = .ok (.dup, 1) := by decide +kernel
theorem dX7_put_70 : decode cX7_put 70 = .ok (.getfield 15, 3) := by decide +kernel
theorem dX7_put_73 : decode cX7_put 73 = .ok (.iconst 4, 1) := by decide +kernel
theorem dX7_put_74 : decode cX7_put 74 = .ok (.iadd, 1) := by decide +kernel
theorem dX7_put_75 : decode cX7_put 75 = .ok (.putfield 15, 3) := by decide +kernel
theorem dX7_put_78 : decode cX7_put 78 = .ok (.return_, 1) := by decide +kernel
theorem dX11_feed_0 : decode cX11_feed 0 = .ok (.aload_n 0, 1) := by decide +kernel
theorem dX11_feed_1 : decode cX11_feed 1 = .ok (.getfield 26, 3) := by decide +kernel
theorem dX11_feed_4 : decode cX11_feed 4 = .ok (.bipush 20, 2) := by decide +kernel
theorem dX11_feed_6 : decode cX11_feed 6 = .ok (.invokevirtual 155, 3) := by decide +kernel
theorem dX11_feed_9 : decode cX11_feed 9 = .ok (.ifCond .ne 5, 3) := by decide +kernel
theorem dX11_feed_12 : decode cX11_feed 12 = .ok (.iconst (-1), 1) := by decide +kernel
theorem dX11_feed_13 : decode cX11_feed 13 = .ok (.ireturn, 1) := by decide +kernel
theorem dX11_feed_14 : decode cX11_feed 14 = .ok (.aload_n 0, 1) := by decide +kernel
theorem dX11_feed_15 : decode cX11_feed 15 = .ok (.getfield 26, 3) := by decide +kernel
theorem dX11_feed_18 : decode cX11_feed 18 = .ok (.iload_n 1, 1) := by decide +kernel
theorem dX11_feed_19 : decode cX11_feed 19 = .ok (.invokevirtual 157, 3) := by decide +kernel
theorem dX11_feed_22 : decode cX11_feed 22 = .ok (.aload_n 0, 1) := by decide +kernel
theorem dX11_feed_23 : decode cX11_feed 23 = .ok (.getfield 26, 3) := by decide +kernel
theorem dX11_feed_26 : decode cX11_feed 26 = .ok (.iload_n 2, 1) := by decide +kernel
theorem dX11_feed_27 : decode cX11_feed 27 = .ok (.invokevirtual 157, 3) := by decide +kernel
theorem dX11_feed_30 : decode cX11_feed 30 = .ok (.aload_n 0, 1) := by decide +kernel
theorem dX11_feed_31 : decode cX11_feed 31 = .ok (.getfield 26, 3) := by decide +kernel
theorem dX11_feed_34 : decode cX11_feed 34 = .ok (.iload_n 3, 1) := by decide +kernel
theorem dX11_feed_35 : decode cX11_feed 35 = .ok (.invokevirtual 157, 3) := by decide +kernel
theorem dX11_feed_38 : decode cX11_feed 38 = .ok (.aload_n 0, 1) := by decide +kernel
theorem dX11_feed_39 : decode cX11_feed 39 = .ok (.getfield 26, 3) := by decide +kernel
theorem dX11_feed_42 : decode cX11_feed 42 = .ok (.iload 4, 2) := by decide +kernel
theorem dX11_feed_44 : decode cX11_feed 44 = .ok (.invokevirtual 157, 3) := by decide +kernel
theorem dX11_feed_47 : decode cX11_feed 47 = .ok (.aload_n 0, 1) := by decide +kernel
theorem dX11_feed_48 : decode cX11_feed 48 = .ok (.getfield 26, 3) := by decide +kernel
theorem dX11_feed_51 : decode cX11_feed 51 = .ok (.iload 5, 2) := by decide +kernel
theorem dX11_feed_53 : decode cX11_feed 53 = .ok (.invokevirtual 157, 3) := by decide +kernel
theorem dX11_feed_56 : decode cX11_feed 56 = .ok (.aload_n 0, 1) := by decide +kernel
theorem dX11_feed_57 : decode cX11_feed 57 = .ok (.getfield 26, 3) := by decide +kernel
theorem dX11_feed_60 : decode cX11_feed 60 = .ok (.getfield 161, 3) := by decide +kernel
theorem dX11_feed_63 : decode cX11_feed 63 = .ok (.ireturn, 1) := by decide +kernel
theorem dX11_end_0 : decode cX11_end 0 = .ok (.iload_n 1, 1) := by decide +kernel
theorem dX11_end_1 : decode cX11_end 1 = .ok (.iconst 0, 1) := by decide +kernel
theorem dX11_end_2 : decode cX11_end 2 = .ok (.aload_n 0, 1) := by decide +kernel
theorem dX11_end_3 : decode cX11_end 3 = .ok (.getfield 26, 3) := by decide +kernel
theorem dX11_end_6 : decode cX11_end 6 = .ok (.getfield 161, 3) := by decide +kernel
theorem dX11_end_9 : decode cX11_end 9 = .ok (.invokestatic 56, 3) := by decide +kernel
theorem dX11_end_12 : decode cX11_end 12 = .ok (.ifCond .ne 5, 3) := by decide +kernel
theorem dX11_end_15 : decode cX11_end 15 = .ok (.iconst 0, 1) := by decide +kernel
theorem dX11_end_16 : decode cX11_end 16 = .ok (.ireturn, 1) := by decide +kernel
theorem dX11_end_17 : decode cX11_end 17 = .ok (.aload_n 0, 1) := by decide +kernel
theorem dX11_end_18 : decode cX11_end 18 = .ok (.getfield 26, 3) := by decide +kernel
theorem dX11_end_21 : decode cX11_end 21 = .ok (.iload_n 1, 1) := by decide +kernel
theorem dX11_end_22 : decode cX11_end 22 = .ok (.putfield 161, 3) := by decide +kernel
theorem dX11_end_25 : decode cX11_end 25 = .ok (.iconst 1, 1) := by decide +kernel
theorem dX11_end_26 : decode cX11_end 26 = .ok (.ireturn, 1) := by decide +kernel
theorem dX3_clear_0 : decode cX3_clear 0 = .ok (.aload_n 0, 1) := by decide +kernel
theorem dX3_clear_1 : decode cX3_clear 1 = .ok (.iconst 0, 1) := by decide +kernel
theorem dX3_clear_2 : decode cX3_clear 2 = .ok (.putfield 29, 3) := by decide +kernel
theorem dX3_clear_5 : decode cX3_clear 5 = .ok (.aload_n 0, 1) := by decide +kernel
theorem dX3_clear_6 : decode cX3_clear 6 = .ok (.iconst 0, 1) := by decide +kernel
theorem dX3_clear_7 : decode cX3_clear 7 = .ok (.putfield 33, 3) := by decide +kernel
theorem dX3_clear_10 : decode cX3_clear 10 = .ok (.return_, 1) := by decide +kernel
theorem dX9_begin_0 : decode cX9_begin 0 = .ok (.aload_n 0, 1) := by decide +kernel
theorem dX9_begin_1 : decode cX9_begin 1 = .ok (.iconst 0, 1) := by decide +kernel
theorem dX9_begin_2 : decode cX9_begin 2 = .ok (.putfield 15, 3) := by decide +kernel
theorem dX9_begin_5 : decode cX9_begin 5 = .ok (.return_, 1) := by decide +kernel
theorem dX4_begin_0 : decode cX4_begin 0 = .ok (.aload_n 0, 1) := by decide +kernel
theorem dX4_begin_1 : decode cX4_begin 1 = .ok (.getfield 12, 3) := by decide +kernel
theorem dX4_begin_4 : decode cX4_begin 4 = .ok (.invokevirtual 80, 3) := by decide +kernel
theorem dX4_begin_7 : decode cX4_begin 7 = .ok (.aload_n 0, 1) := by decide +kernel
theorem dX4_begin_8 : decode cX4_begin 8 = .ok (.getfield 21, 3) := by decide +kernel
theorem dX4_begin_11 : decode cX4_begin 11 = .ok (.invokevirtual 83, 3) := by decide +kernel
theorem dX4_begin_14 : decode cX4_begin 14 = .ok (.aload_n 0, 1) := by decide +kernel
theorem dX4_begin_15 : decode cX4_begin 15 = .ok (.iconst 0, 1) := by decide +kernel
theorem dX4_begin_16 : decode cX4_begin 16 = .ok (.putfield 29, 3) := by decide +kernel
theorem dX4_begin_19 : decode cX4_begin 19 = .ok (.aload_n 0, 1) := by decide +kernel
theorem dX4_begin_20 : decode cX4_begin 20 = .ok (.iconst 0, 1) := by decide +kernel
theorem dX4_begin_21 : decode cX4_begin 21 = .ok (.putfield 33, 3) := by decide +kernel
theorem dX4_begin_24 : decode cX4_begin 24 = .ok (.aload_n 0, 1) := by decide +kernel
theorem dX4_begin_25 : decode cX4_begin 25 = .ok (.iconst 0, 1) := by decide +kernel
theorem dX4_begin_26 : decode cX4_begin 26 = .ok (.putfield 36, 3) := by decide +kernel
theorem dX4_begin_29 : decode cX4_begin 29 = .ok (.aload_n 0, 1) := by decide +kernel
theorem dX4_begin_30 : decode cX4_begin 30 = .ok (.iconst 0, 1) := by decide +kernel
theorem dX4_begin_31 : decode cX4_begin 31 = .ok (.putfield 39, 3) := by decide +kernel
theorem dX4_begin_34 : decode cX4_begin 34 = .ok (.aload_n 0, 1) := by decide +kernel
theorem dX4_begin_35 : decode cX4_begin 35 = .ok (.iconst 0, 1) := by decide +kernel
theorem dX4_begin_36 : decode cX4_begin 36 = .ok (.putfield 43, 3) := by decide +kernel
theorem dX4_begin_39 : decode cX4_begin 39 = .ok (.aload_n 0, 1) := by decide +kernel
theorem dX4_begin_40 : decode cX4_begin 40 = .ok (.iconst (-1), 1) := by decide +kernel
theorem dX4_begin_41 : decode cX4_begin 41 = .ok (.putfield 46, 3) := by decide +kernel
theorem dX4_begin_44 : decode cX4_begin 44 = .ok (.return_, 1) := by decide +kernel
theorem dX7_signAt_0 : decode cX7_signAt 0 = .ok (.iload_n 1, 1) := by decide +kernel
theorem dX7_signAt_1 : decode cX7_signAt 1 = .ok (.iconst 0, 1) := by decide +kernel
theorem dX7_signAt_2 : decode cX7_signAt 2 = .ok (.aload_n 0, 1) := by decide +kernel
theorem dX7_signAt_3 : decode cX7_signAt 3 = .ok (.getfield 15, 3) := by decide +kernel
theorem dX7_signAt_6 : decode cX7_signAt 6 = .ok (.iconst 1, 1) := by decide +kernel
theorem dX7_signAt_7 : decode cX7_signAt 7 = .ok (.isub, 1) := by decide +kernel
theorem dX7_signAt_8 : decode cX7_signAt 8 = .ok (.invokestatic 23, 3) := by decide +kernel
theorem dX7_signAt_11 : decode cX7_signAt 11 = .ok (.ifCond .eq 16, 3) := by decide +kernel
theorem dX7_signAt_14 : decode cX7_signAt 14 = .ok (.aload_n 0, 1) := by decide +kernel
theorem dX7_signAt_15 : decode cX7_signAt 15 = .ok (.getfield 11, 3) := by decide +kernel
theorem dX7_signAt_18 : decode cX7_signAt 18 = .ok (.iload_n 1, 1) := by decide +kernel
theorem dX7_signAt_19 : decode cX7_signAt 19 = .ok (.baload, 1) := by decide +kernel
theorem dX7_signAt_20 : decode cX7_signAt 20 = .ok (.sipush 255, 3) := by decide +kernel
theorem dX7_signAt_23 : decode cX7_signAt 23 = .ok (.iand, 1) := by decide +kernel
theorem dX7_signAt_24 : decode cX7_signAt 24 = .ok (.goto 4, 3) := by decide +kernel
theorem dX7_signAt_27 : decode cX7_signAt 27 = .ok (.iconst (-1), 1) := by decide +kernel
theorem dX7_signAt_28 : decode cX7_signAt 28 = .ok (.ireturn, 1) := by decide +kernel
theorem dX9_isLetter_0 : decode cX9_isLetter 0 = .ok (.iload_n 0, 1) := by decide +kernel
theorem dX9_isLetter_1 : decode cX9_isLetter 1 = .ok (.bipush 97, 2) := by decide +kernel
theorem dX9_isLetter_3 : decode cX9_isLetter 3 = .ok (.bipush 122, 2) := by decide +kernel
theorem dX9_isLetter_5 : decode cX9_isLetter 5 = .ok (.invokestatic 71, 3) := by decide +kernel
theorem dX9_isLetter_8 : decode cX9_isLetter 8 = .ok (.ifCond .ne 14, 3) := by decide +kernel
theorem dX9_isLetter_11 : decode cX9_isLetter 11 = .ok (.iload_n 0, 1) := by decide +kernel
theorem dX9_isLetter_12 : decode cX9_isLetter 12 = .ok (.bipush 65, 2) := by decide +kernel
theorem dX9_isLetter_14 : decode cX9_isLetter 14 = .ok (.bipush 90, 2) := by decide +kernel
theorem dX9_isLetter_16 : decode cX9_isLetter 16 = .ok (.invokestatic 71, 3) := by decide +kernel
theorem dX9_isLetter_19 : decode cX9_isLetter 19 = .ok (.ifCond .eq 7, 3) := by decide +kernel
theorem dX9_isLetter_22 : decode cX9_isLetter 22 = .ok (.iconst 1, 1) := by decide +kernel
theorem dX9_isLetter_23 : decode cX9_isLetter 23 = .ok (.goto 4, 3) := by decide +kernel
theorem dX9_isLetter_26 : decode cX9_isLetter 26 = .ok (.iconst 0, 1) := by decide +kernel
theorem dX9_isLetter_27 : decode cX9_isLetter 27 = .ok (.ireturn, 1) := by decide +kernel
theorem dX9_isDigit_0 : decode cX9_isDigit 0 = .ok (.iload_n 0, 1) := by decide +kernel
theorem dX9_isDigit_1 : decode cX9_isDigit 1 = .ok (.bipush 48, 2) := by decide +kernel
theorem dX9_isDigit_3 : decode cX9_isDigit 3 = .ok (.bipush 57, 2) := by decide +kernel
theorem dX9_isDigit_5 : decode cX9_isDigit 5 = .ok (.invokestatic 71, 3) := by decide +kernel
theorem dX9_isDigit_8 : decode cX9_isDigit 8 = .ok (.ireturn, 1) := by decide +kernel
theorem dJ0_isLatin1_aae02_0 : decode cJ0_isLatin1_aae02 0 = .ok (.getstatic 38, 3) := by decide +kernel
theorem dJ0_isLatin1_aae02_3 : decode cJ0_isLatin1_aae02 3 = .ok (.ifCond .eq 14, 3) := by decide +kernel
theorem dJ0_isLatin1_aae02_6 : decode cJ0_isLatin1_aae02 6 = .ok (.aload_n 0, 1) := by decide +kernel
theorem dJ0_isLatin1_aae02_7 : decode cJ0_isLatin1_aae02 7 = .ok (.getfield 15, 3) := by decide +kernel
theorem dJ0_isLatin1_aae02_10 : decode cJ0_isLatin1_aae02 10 = .ok (.ifCond .ne 7, 3) := by decide +kernel
theorem dJ0_isLatin1_aae02_13 : decode cJ0_isLatin1_aae02 13 = .ok (.iconst 1, 1) := by decide +kernel
theorem dJ0_isLatin1_aae02_14 : decode cJ0_isLatin1_aae02 14 = .ok (.goto 4, 3) := by decide +kernel
theorem dJ0_isLatin1_aae02_17 : decode cJ0_isLatin1_aae02 17 = .ok (.iconst 0, 1) := by decide +kernel
theorem dJ0_isLatin1_aae02_18 : decode cJ0_isLatin1_aae02 18 = .ok (.ireturn, 1) := by decide +kernel
theorem dJ0_coder_7d493_0 : decode cJ0_coder_7d493 0 = .ok (.getstatic 38, 3) := by decide +kernel
theorem dJ0_coder_7d493_3 : decode cJ0_coder_7d493 3 = .ok (.ifCond .eq 10, 3) := by decide +kernel
theorem dJ0_coder_7d493_6 : decode cJ0_coder_7d493 6 = .ok (.aload_n 0, 1) := by decide +kernel
theorem dJ0_coder_7d493_7 : decode cJ0_coder_7d493 7 = .ok (.getfield 15, 3) := by decide +kernel
theorem dJ0_coder_7d493_10 : decode cJ0_coder_7d493 10 = .ok (.goto 4, 3) := by decide +kernel
theorem dJ0_coder_7d493_13 : decode cJ0_coder_7d493 13 = .ok (.iconst 1, 1) := by decide +kernel
theorem dJ0_coder_7d493_14 : decode cJ0_coder_7d493 14 = .ok (.ireturn, 1) := by decide +kernel
theorem dJ0_length_8abf5_0 : decode cJ0_length_8abf5 0 = .ok (.aload_n 0, 1) := by decide +kernel
theorem dJ0_length_8abf5_1 : decode cJ0_length_8abf5 1 = .ok (.getfield 9, 3) := by decide +kernel
theorem dJ0_length_8abf5_4 : decode cJ0_length_8abf5 4 = .ok (.arraylength, 1) := by decide +kernel
theorem dJ0_length_8abf5_5 : decode cJ0_length_8abf5 5 = .ok (.aload_n 0, 1) := by decide +kernel
theorem dJ0_length_8abf5_6 : decode cJ0_length_8abf5 6 = .ok (.invokevirtual 335, 3) := by decide +kernel
theorem dJ0_length_8abf5_9 : decode cJ0_length_8abf5 9 = .ok (.ishr, 1) := by decide +kernel
theorem dJ0_length_8abf5_10 : decode cJ0_length_8abf5 10 = .ok (.ireturn, 1) := by decide +kernel
theorem dJ1_canEncode_9a6ad_0 : decode cJ1_canEncode_9a6ad 0 = .ok (.iload_n 0, 1) := by decide +kernel
theorem dJ1_canEncode_9a6ad_1 : decode cJ1_canEncode_9a6ad 1 = .ok (.ifCond .lt 14, 3) := by decide +kernel
theorem dJ1_canEncode_9a6ad_4 : decode cJ1_canEncode_9a6ad 4 = .ok (.iload_n 0, 1) := by decide +kernel
theorem dJ1_canEncode_9a6ad_5 : decode cJ1_canEncode_9a6ad 5 = .ok (.sipush 255, 3) := by decide +kernel
theorem dJ1_canEncode_9a6ad_8 : decode cJ1_canEncode_9a6ad 8 = .ok (.if_icmp .gt 7, 3) := by decide +kernel
theorem dJ1_canEncode_9a6ad_11 : decode cJ1_canEncode_9a6ad 11 = .ok (.iconst 1, 1) := by decide +kernel
theorem dJ1_canEncode_9a6ad_12 : decode cJ1_canEncode_9a6ad 12 = .ok (.goto 4, 3) := by decide +kernel
theorem dJ1_canEncode_9a6ad_15 : decode cJ1_canEncode_9a6ad 15 = .ok (.iconst 0, 1) := by decide +kernel
theorem dJ1_canEncode_9a6ad_16 : decode cJ1_canEncode_9a6ad 16 = .ok (.ireturn, 1) := by decide +kernel
theorem dJ1_indexOfChar_4cfef_0 : decode cJ1_indexOfChar_4cfef 0 = .ok (.iload_n 1, 1) := by decide +kernel
theorem dJ1_indexOfChar_4cfef_1 : decode cJ1_indexOfChar_4cfef 1 = .ok (.i2b, 1) := by decide +kernel
theorem dJ1_indexOfChar_4cfef_2 : decode cJ1_indexOfChar_4cfef 2 = .ok (.istore 4, 2) := by decide +kernel
theorem dJ1_indexOfChar_4cfef_4 : decode cJ1_indexOfChar_4cfef 4 = .ok (.iload_n 2, 1) := by decide +kernel
theorem dJ1_indexOfChar_4cfef_5 : decode cJ1_indexOfChar_4cfef 5 = .ok (.istore 5, 2) := by decide +kernel
theorem dJ1_indexOfChar_4cfef_7 : decode cJ1_indexOfChar_4cfef 7 = .ok (.iload 5, 2) := by decide +kernel
theorem dJ1_indexOfChar_4cfef_9 : decode cJ1_indexOfChar_4cfef 9 = .ok (.iload_n 3, 1) := by decide +kernel
theorem dJ1_indexOfChar_4cfef_10 : decode cJ1_indexOfChar_4cfef 10 = .ok (.if_icmp .ge 21, 3) := by decide +kernel
theorem dJ1_indexOfChar_4cfef_13 : decode cJ1_indexOfChar_4cfef 13 = .ok (.aload_n 0, 1) := by decide +kernel
theorem dJ1_indexOfChar_4cfef_14 : decode cJ1_indexOfChar_4cfef 14 = .ok (.iload 5, 2) := by decide +kernel
theorem dJ1_indexOfChar_4cfef_16 : decode cJ1_indexOfChar_4cfef 16 = .ok (.baload, 1) := by decide +kernel
theorem dJ1_indexOfChar_4cfef_17 : decode cJ1_indexOfChar_4cfef 17 = .ok (.iload 4, 2) := by decide +kernel
theorem dJ1_indexOfChar_4cfef_19 : decode cJ1_indexOfChar_4cfef 19 = .ok (.if_icmp .ne 6, 3) := by decide +kernel
theorem dJ1_indexOfChar_4cfef_22 : decode cJ1_indexOfChar_4cfef 22 = .ok (.iload 5, 2) := by decide +kernel
theorem dJ1_indexOfChar_4cfef_24 : decode cJ1_indexOfChar_4cfef 24 = .ok (.ireturn, 1) := by decide +kernel
theorem dJ1_indexOfChar_4cfef_25 : decode cJ1_indexOfChar_4cfef 25 = .ok (.iinc 5 1, 3) := by decide +kernel
theorem dJ1_indexOfChar_4cfef_28 : decode cJ1_indexOfChar_4cfef 28 = .ok (.goto (-21), 3) := by decide +kernel
theorem dJ1_indexOfChar_4cfef_31 : decode cJ1_indexOfChar_4cfef 31 = .ok (.iconst (-1), 1) := by decide +kernel
theorem dJ1_indexOfChar_4cfef_32 : decode cJ1_indexOfChar_4cfef 32 = .ok (.ireturn, 1) := by decide +kernel
theorem dJ1_indexOf_4cfef_0 : decode cJ1_indexOf_4cfef 0 = .ok (.iload_n 1, 1) := by decide +kernel
theorem dJ1_indexOf_4cfef_1 : decode cJ1_indexOf_4cfef 1 = .ok (.invokestatic 88, 3) := by decide +kernel
theorem dJ1_indexOf_4cfef_4 : decode cJ1_indexOf_4cfef 4 = .ok (.ifCond .ne 5, 3) := by decide +kernel
theorem dJ1_indexOf_4cfef_7 : decode cJ1_indexOf_4cfef 7 = .ok (.iconst (-1), 1) := by decide +kernel
theorem dJ1_indexOf_4cfef_8 : decode cJ1_indexOf_4cfef 8 = .ok (.ireturn, 1) := by decide +kernel
theorem dJ1_indexOf_4cfef_9 : decode cJ1_indexOf_4cfef 9 = .ok (.iload_n 2, 1) := by decide +kernel
theorem dJ1_indexOf_4cfef_10 : decode cJ1_indexOf_4cfef 10 = .ok (.iconst 0, 1) := by decide +kernel
theorem dJ1_indexOf_4cfef_11 : decode cJ1_indexOf_4cfef 11 = .ok (.invokestatic 92, 3) := by decide +kernel
theorem dJ1_indexOf_4cfef_14 : decode cJ1_indexOf_4cfef 14 = .ok (.istore_n 2, 1) := by decide +kernel
theorem dJ1_indexOf_4cfef_15 : decode cJ1_indexOf_4cfef 15 = .ok (.iload_n 3, 1) := by decide +kernel
theorem dJ1_indexOf_4cfef_16 : decode cJ1_indexOf_4cfef 16 = .ok (.aload_n 0, 1) := by decide +kernel
theorem dJ1_indexOf_4cfef_17 : decode cJ1_indexOf_4cfef 17 = .ok (.arraylength, 1) := by decide +kernel
theorem dJ1_indexOf_4cfef_18 : decode cJ1_indexOf_4cfef 18 = .ok (.invokestatic 38, 3) := by decide +kernel
theorem dJ1_indexOf_4cfef_21 : decode cJ1_indexOf_4cfef 21 = .ok (.istore_n 3, 1) := by decide +kernel
theorem dJ1_indexOf_4cfef_22 : decode cJ1_indexOf_4cfef 22 = .ok (.iload_n 2, 1) := by decide +kernel
theorem dJ1_indexOf_4cfef_23 : decode cJ1_indexOf_4cfef 23 = .ok (.iload_n 3, 1) := by decide +kernel
theorem dJ1_indexOf_4cfef_24 : decode cJ1_indexOf_4cfef 24 = .ok (.if_icmp .lt 5, 3) := by decide +kernel
theorem dJ1_indexOf_4cfef_27 : decode cJ1_indexOf_4cfef 27 = .ok (.iconst (-1), 1) := by decide +kernel
theorem dJ1_indexOf_4cfef_28 : decode cJ1_indexOf_4cfef 28 = .ok (.ireturn, 1) := by decide +kernel
theorem dJ1_indexOf_4cfef_29 : decode cJ1_indexOf_4cfef 29 = .ok (.aload_n 0, 1) := by decide +kernel
theorem dJ1_indexOf_4cfef_30 : decode cJ1_indexOf_4cfef 30 = .ok (.iload_n 1, 1) := by decide +kernel
theorem dJ1_indexOf_4cfef_31 : decode cJ1_indexOf_4cfef 31 = .ok (.iload_n 2, 1) := by decide +kernel
theorem dJ1_indexOf_4cfef_32 : decode cJ1_indexOf_4cfef 32 = .ok (.iload_n 3, 1) := by decide +kernel
theorem dJ1_indexOf_4cfef_33 : decode cJ1_indexOf_4cfef 33 = .ok (.invokestatic 95, 3) := by decide +kernel
theorem dJ1_indexOf_4cfef_36 : decode cJ1_indexOf_4cfef 36 = .ok (.ireturn, 1) := by decide +kernel
theorem dJ0_indexOf_7cf53_0 : decode cJ0_indexOf_7cf53 0 = .ok (.aload_n 0, 1) := by decide +kernel
theorem dJ0_indexOf_7cf53_1 : decode cJ0_indexOf_7cf53 1 = .ok (.invokevirtual 492, 3) := by decide +kernel
theorem dJ0_indexOf_7cf53_4 : decode cJ0_indexOf_7cf53 4 = .ok (.ifCond .eq 19, 3) := by decide +kernel
theorem dJ0_indexOf_7cf53_7 : decode cJ0_indexOf_7cf53 7 = .ok (.aload_n 0, 1) := by decide +kernel
theorem dJ0_indexOf_7cf53_8 : decode cJ0_indexOf_7cf53 8 = .ok (.getfield 9, 3) := by decide +kernel
theorem dJ0_indexOf_7cf53_11 : decode cJ0_indexOf_7cf53 11 = .ok (.iload_n 1, 1) := by decide +kernel
theorem dJ0_indexOf_7cf53_12 : decode cJ0_indexOf_7cf53 12 = .ok (.iload_n 2, 1) := by decide +kernel
theorem dJ0_indexOf_7cf53_13 : decode cJ0_indexOf_7cf53 13 = .ok (.aload_n 0, 1) := by decide +kernel
theorem dJ0_indexOf_7cf53_14 : decode cJ0_indexOf_7cf53 14 = .ok (.invokevirtual 505, 3) := by decide +kernel
theorem dJ0_indexOf_7cf53_17 : decode cJ0_indexOf_7cf53 17 = .ok (.invokestatic 637, 3) := by decide +kernel
theorem dJ0_indexOf_7cf53_20 : decode cJ0_indexOf_7cf53 20 = .ok (.goto 16, 3) := by decide +kernel
theorem dJ0_indexOf_7cf53_23 : decode cJ0_indexOf_7cf53 23 = .ok (.aload_n 0, 1) := by decide +kernel
theorem dJ0_indexOf_7cf53_24 : decode cJ0_indexOf_7cf53 24 = .ok (.getfield 9, 3) := by decide +kernel
theorem dJ0_indexOf_7cf53_27 : decode cJ0_indexOf_7cf53 27 = .ok (.iload_n 1, 1) := by decide +kernel
theorem dJ0_indexOf_7cf53_28 : decode cJ0_indexOf_7cf53 28 = .ok (.iload_n 2, 1) := by decide +kernel
theorem dJ0_indexOf_7cf53_29 : decode cJ0_indexOf_7cf53 29 = .ok (.aload_n 0, 1) := by decide +kernel
theorem dJ0_indexOf_7cf53_30 : decode cJ0_indexOf_7cf53 30 = .ok (.invokevirtual 505, 3) := by decide +kernel
theorem dJ0_indexOf_7cf53_33 : decode cJ0_indexOf_7cf53 33 = .ok (.invokestatic 640, 3) := by decide +kernel
theorem dJ0_indexOf_7cf53_36 : decode cJ0_indexOf_7cf53 36 = .ok (.ireturn, 1) := by decide +kernel
theorem dJ0_indexOf_0f7a4_0 : decode cJ0_indexOf_0f7a4 0 = .ok (.aload_n 0, 1) := by decide +kernel
theorem dJ0_indexOf_0f7a4_1 : decode cJ0_indexOf_0f7a4 1 = .ok (.iload_n 1, 1) := by decide +kernel
theorem dJ0_indexOf_0f7a4_2 : decode cJ0_indexOf_0f7a4 2 = .ok (.iconst 0, 1) := by decide +kernel
theorem dJ0_indexOf_0f7a4_3 : decode cJ0_indexOf_0f7a4 3 = .ok (.invokevirtual 633, 3) := by decide +kernel
theorem dJ0_indexOf_0f7a4_6 : decode cJ0_indexOf_0f7a4 6 = .ok (.ireturn, 1) := by decide +kernel
theorem dX9_takeSign_0 : decode cX9_takeSign 0 = .ok (.ldc 66, 2) := by decide +kernel
theorem dX9_takeSign_2 : decode cX9_takeSign 2 = .ok (.iload_n 1, 1) := by decide +kernel
theorem dX9_takeSign_3 : decode cX9_takeSign 3 = .ok (.i2c, 1) := by decide +kernel
theorem dX9_takeSign_4 : decode cX9_takeSign 4 = .ok (.invokevirtual 68, 3) := by decide +kernel
theorem dX9_takeSign_7 : decode cX9_takeSign 7 = .ok (.istore_n 2, 1) := by decide +kernel
theorem dX9_takeSign_8 : decode cX9_takeSign 8 = .ok (.aload_n 0, 1) := by decide +kernel
theorem dX9_takeSign_9 : decode cX9_takeSign 9 = .ok (.iload_n 2, 1) := by decide +kernel
theorem dX9_takeSign_10 : decode cX9_takeSign 10 = .ok (.ifCond .ge 7, 3) := by decide +kernel
theorem dX9_takeSign_13 : decode cX9_takeSign 13 = .ok (.iconst 1, 1) := by decide +kernel
theorem dX9_takeSign_14 : decode cX9_takeSign 14 = .ok (.goto 7, 3) := by decide +kernel
theorem dX9_takeSign_17 : decode cX9_takeSign 17 = .ok (.bipush 17, 2) := by decide +kernel
theorem dX9_takeSign_19 : decode cX9_takeSign 19 = .ok (.iload_n 2, 1) := by decide +kernel
theorem dX9_takeSign_20 : decode cX9_takeSign 20 = .ok (.iadd, 1) := by decide +kernel
theorem dX9_takeSign_21 : decode cX9_takeSign 21 = .ok (.putfield 18, 3) := by decide +kernel
theorem dX9_takeSign_24 : decode cX9_takeSign 24 = .ok (.aload_n 0, 1) := by decide +kernel
theorem dX9_takeSign_25 : decode cX9_takeSign 25 = .ok (.aload_n 0, 1) := by decide +kernel
theorem dX9_takeSign_26 : decode cX9_takeSign 26 = .ok (.getfield 11, 3) := by decide +kernel
theorem dX9_takeSign_29 : decode cX9_takeSign 29 = .ok (.iconst 1, 1) := by decide +kernel
theorem dX9_takeSign_30 : decode cX9_takeSign 30 = .ok (.iadd, 1) := by decide +kernel
theorem dX9_takeSign_31 : decode cX9_takeSign 31 = .ok (.putfield 15, 3) := by decide +kernel
theorem dX9_takeSign_34 : decode cX9_takeSign 34 = .ok (.return_, 1) := by decide +kernel
theorem dX9_takeNumber_0 : decode cX9_takeNumber 0 = .ok (.aload_n 0, 1) := by decide +kernel
theorem dX9_takeNumber_1 : decode cX9_takeNumber 1 = .ok (.iconst 0, 1) := by decide +kernel
theorem dX9_takeNumber_2 : decode cX9_takeNumber 2 = .ok (.putfield 21, 3) := by decide +kernel
theorem dX9_takeNumber_5 : decode cX9_takeNumber 5 = .ok (.aload_n 0, 1) := by decide +kernel
theorem dX9_takeNumber_6 : decode cX9_takeNumber 6 = .ok (.getfield 15, 3) := by decide +kernel
theorem dX9_takeNumber_9 : decode cX9_takeNumber 9 = .ok (.aload_n 1, 1) := by decide +kernel
theorem dX9_takeNumber_10 : decode cX9_takeNumber 10 = .ok (.getfield 24, 3) := by decide +kernel
theorem dX9_takeNumber_13 : decode cX9_takeNumber 13 = .ok (.if_icmp .ge 53, 3) := by decide +kernel
theorem dX9_takeNumber_16 : decode cX9_takeNumber 16 = .ok (.aload_n 1, 1) := by decide +kernel
theorem dX9_takeNumber_17 : decode cX9_takeNumber 17 = .ok (.aload_n 0, 1) := by decide +kernel
theorem dX9_takeNumber_18 : decode cX9_takeNumber 18 = .ok (.getfield 15, 3) := by decide +kernel
theorem dX9_takeNumber_21 : decode cX9_takeNumber 21 = .ok (.invokevirtual 29, 3) := by decide +kernel
theorem dX9_takeNumber_24 : decode cX9_takeNumber 24 = .ok (.invokestatic 44, 3) := by decide +kernel
theorem dX9_takeNumber_27 : decode cX9_takeNumber 27 = .ok (.ifCond .eq 39, 3) := by decide +kernel
theorem dX9_takeNumber_30 : decode cX9_takeNumber 30 = .ok (.aload_n 0, 1) := by decide +kernel
theorem dX9_takeNumber_31 : decode cX9_takeNumber 31 = .ok (.aload_n 0, 1) := by decide +kernel
theorem dX9_takeNumber_32 : decode cX9_takeNumber 32 = .ok (.getfield 21, 3) := by decide +kernel
theorem dX9_takeNumber_35 : decode cX9_takeNumber 35 = .ok (.bipush 10, 2) := by decide +kernel
theorem dX9_takeNumber_37 : decode cX9_takeNumber 37 = .ok (.imul, 1) := by decide +kernel
theorem dX9_takeNumber_38 : decode cX9_takeNumber 38 = .ok (.aload_n 1, 1) := by decide +kernel
theorem dX9_takeNumber_39 : decode cX9_takeNumber 39 = .ok (.aload_n 0, 1) := by decide +kernel
theorem dX9_takeNumber_40 : decode cX9_takeNumber 40 = .ok (.getfield 15, 3) := by decide +kernel
theorem dX9_takeNumber_43 : decode cX9_takeNumber 43 = .ok (.invokevirtual 29, 3) := by decide +kernel
theorem dX9_takeNumber_46 : decode cX9_takeNumber 46 = .ok (.iadd, 1) := by decide +kernel
theorem dX9_takeNumber_47 : decode cX9_takeNumber 47 = .ok (.bipush 48, 2) := by decide +kernel
theorem dX9_takeNumber_49 : decode cX9_takeNumber 49 = .ok (.isub, 1) := by decide +kernel
theorem dX9_takeNumber_50 : decode cX9_takeNumber 50 = .ok (.putfield 21, 3) := by decide +kernel
theorem dX9_takeNumber_53 : decode cX9_takeNumber 53 = .ok (.aload_n 0, 1) := by decide +kernel
theorem dX9_takeNumber_54 : decode cX9_takeNumber 54 = .ok (.dup, 1) := by decide +kernel
theorem dX9_takeNumber_55 : decode cX9_takeNumber 55 = .ok (.getfield 15, 3) := by decide +kernel
theorem dX9_takeNumber_58 : decode cX9_takeNumber 58 = .ok (.iconst 1, 1) := by decide +kernel
theorem dX9_takeNumber_59 : decode cX9_takeNumber 59 = .ok (.iadd, 1) := by decide +kernel
theorem dX9_takeNumber_60 : decode cX9_takeNumber 60 = .ok (.putfield 15, 3) := by decide +kernel
theorem dX9_takeNumber_63 : decode cX9_takeNumber 63 = .ok (.goto (-58), 3) := by decide +kernel
theorem dX9_takeNumber_66 : decode cX9_takeNumber 66 = .ok (.aload_n 0, 1) := by decide +kernel
theorem dX9_takeNumber_67 : decode cX9_takeNumber 67 = .ok (.aload_n 0, 1) := by decide +kernel
theorem dX9_takeNumber_68 : decode cX9_takeNumber 68 = .ok (.getfield 15, 3) := by decide +kernel
theorem dX9_takeNumber_71 : decode cX9_takeNumber 71 = .ok (.aload_n 0, 1) := by decide +kernel
theorem dX9_takeNumber_72 : decode cX9_takeNumber 72 = .ok (.getfield 11, 3) := by decide +kernel
theorem dX9_takeNumber_75 : decode cX9_takeNumber 75 = .ok (.isub, 1) := by decide +kernel
theorem dX9_takeNumber_76 : decode cX9_takeNumber 76 = .ok (.iconst 4, 1) := by decide +kernel
theorem dX9_takeNumber_77 : decode cX9_takeNumber 77 = .ok (.if_icmp .gt 7, 3) := by decide +kernel
theorem dX9_takeNumber_80 : decode cX9_takeNumber 80 = .ok (.iconst 2, 1) := by decide +kernel
theorem dX9_takeNumber_81 : decode cX9_takeNumber 81 = .ok (.goto 4, 3) := by decide +kernel
theorem dX9_takeNumber_84 : decode cX9_takeNumber 84 = .ok (.iconst 1, 1) := by decide +kernel
theorem dX9_takeNumber_85 : decode cX9_takeNumber 85 = .ok (.putfield 18, 3) := by decide +kernel
theorem dX9_takeNumber_88 : decode cX9_takeNumber 88 = .ok (.return_, 1) := by decide +kernel
theorem dJ3_checkIndex_8e157_0 : decode cJ3_checkIndex_8e157 0 = .ok (.iload_n 0, 1) := by decide +kernel
theorem dJ3_checkIndex_8e157_1 : decode cJ3_checkIndex_8e157 1 = .ok (.ifCond .lt 8, 3) := by decide +kernel
theorem dJ3_checkIndex_8e157_4 : decode cJ3_checkIndex_8e157 4 = .ok (.iload_n 0, 1) := by decide +kernel
theorem dJ3_checkIndex_8e157_5 : decode cJ3_checkIndex_8e157 5 = .ok (.iload_n 1, 1) := by decide +kernel
theorem dJ3_checkIndex_8e157_6 : decode cJ3_checkIndex_8e157 6 = .ok (.if_icmp .lt 10, 3) := by decide +kernel
theorem dJ3_checkIndex_8e157_9 : decode cJ3_checkIndex_8e157 9 = .ok (.aload_n 2, 1) := by decide +kernel
theorem dJ3_checkIndex_8e157_10 : decode cJ3_checkIndex_8e157 10 = .ok (.iload_n 0, 1) := by decide +kernel
theorem dJ3_checkIndex_8e157_11 : decode cJ3_checkIndex_8e157 11 = .ok (.iload_n 1, 1) := by decide +kernel
theorem dJ3_checkIndex_8e157_12 : decode cJ3_checkIndex_8e157 12 = .ok (.invokestatic 95, 3) := by decide +kernel
theorem dJ3_checkIndex_8e157_15 : decode cJ3_checkIndex_8e157 15 = .ok (.athrow, 1) := by decide +kernel
theorem dJ3_checkIndex_8e157_16 : decode cJ3_checkIndex_8e157 16 = .ok (.iload_n 0, 1) := by decide +kernel
theorem dJ3_checkIndex_8e157_17 : decode cJ3_checkIndex_8e157 17 = .ok (.ireturn, 1) := by decide +kernel
theorem dJ0_checkIndex_df160_0 : decode cJ0_checkIndex_df160 0 = .ok (.iload_n 0, 1) := by decide +kernel
theorem dJ0_checkIndex_df160_1 : decode cJ0_checkIndex_df160 1 = .ok (.iload_n 1, 1) := by decide +kernel
theorem dJ0_checkIndex_df160_2 : decode cJ0_checkIndex_df160 2 = .ok (.getstatic 1053, 3) := by decide +kernel
theorem dJ0_checkIndex_df160_5 : decode cJ0_checkIndex_df160 5 = .ok (.invokestatic 1059, 3) := by decide +kernel
theorem dJ0_checkIndex_df160_8 : decode cJ0_checkIndex_df160 8 = .ok (.pop, 1) := by decide +kernel
theorem dJ0_checkIndex_df160_9 : decode cJ0_checkIndex_df160 9 = .ok (.return_, 1) := by decide +kernel
theorem dJ1_charAt_3b067_0 : decode cJ1_charAt_3b067 0 = .ok (.iload_n 1, 1) := by decide +kernel
theorem dJ1_charAt_3b067_1 : decode cJ1_charAt_3b067 1 = .ok (.aload_n 0, 1) := by decide +kernel
theorem dJ1_charAt_3b067_2 : decode cJ1_charAt_3b067 2 = .ok (.arraylength, 1) := by decide +kernel
theorem dJ1_charAt_3b067_3 : decode cJ1_charAt_3b067 3 = .ok (.invokestatic 9, 3) := by decide +kernel
theorem dJ1_charAt_3b067_6 : decode cJ1_charAt_3b067 6 = .ok (.aload_n 0, 1) := by decide +kernel
theorem dJ1_charAt_3b067_7 : decode cJ1_charAt_3b067 7 = .ok (.iload_n 1, 1) := by decide +kernel
theorem dJ1_charAt_3b067_8 : decode cJ1_charAt_3b067 8 = .ok (.baload, 1) := by decide +kernel
theorem dJ1_charAt_3b067_9 : decode cJ1_charAt_3b067 9 = .ok (.sipush 255, 3) := by decide +kernel
theorem dJ1_charAt_3b067_12 : decode cJ1_charAt_3b067 12 = .ok (.iand, 1) := by decide +kernel
theorem dJ1_charAt_3b067_13 : decode cJ1_charAt_3b067 13 = .ok (.i2c, 1) := by decide +kernel
theorem dJ1_charAt_3b067_14 : decode cJ1_charAt_3b067 14 = .ok (.ireturn, 1) := by decide +kernel
theorem dJ0_charAt_5068e_0 : decode cJ0_charAt_5068e 0 = .ok (.aload_n 0, 1) := by decide +kernel
theorem dJ0_charAt_5068e_1 : decode cJ0_charAt_5068e 1 = .ok (.invokevirtual 492, 3) := by decide +kernel
theorem dJ0_charAt_5068e_4 : decode cJ0_charAt_5068e 4 = .ok (.ifCond .eq 12, 3) := by decide +kernel
theorem dJ0_charAt_5068e_7 : decode cJ0_charAt_5068e 7 = .ok (.aload_n 0, 1) := by decide +kernel
theorem dJ0_charAt_5068e_8 : decode cJ0_charAt_5068e 8 = .ok (.getfield 9, 3) := by decide +kernel
theorem dJ0_charAt_5068e_11 : decode cJ0_charAt_5068e 11 = .ok (.iload_n 1, 1) := by decide +kernel
theorem dJ0_charAt_5068e_12 : decode cJ0_charAt_5068e 12 = .ok (.invokestatic 495, 3) := by decide +kernel
theorem dJ0_charAt_5068e_15 : decode cJ0_charAt_5068e 15 = .ok (.ireturn, 1) := by decide +kernel
theorem dJ0_charAt_5068e_16 : decode cJ0_charAt_5068e 16 = .ok (.aload_n 0, 1) := by decide +kernel
theorem dJ0_charAt_5068e_17 : decode cJ0_charAt_5068e 17 = .ok (.getfield 9, 3) := by decide +kernel
theorem dJ0_charAt_5068e_20 : decode cJ0_charAt_5068e 20 = .ok (.iload_n 1, 1) := by decide +kernel
theorem dJ0_charAt_5068e_21 : decode cJ0_charAt_5068e 21 = .ok (.invokestatic 498, 3) := by decide +kernel
theorem dJ0_charAt_5068e_24 : decode cJ0_charAt_5068e 24 = .ok (.ireturn, 1) := by decide +kernel
theorem dX9_takeWord_0 : decode cX9_takeWord 0 = .ok (.aload_n 0, 1) := by decide +kernel
theorem dX9_takeWord_1 : decode cX9_takeWord 1 = .ok (.getfield 15, 3) := by decide +kernel
theorem dX9_takeWord_4 : decode cX9_takeWord 4 = .ok (.aload_n 1, 1) := by decide +kernel
theorem dX9_takeWord_5 : decode cX9_takeWord 5 = .ok (.getfield 24, 3) := by decide +kernel
theorem dX9_takeWord_8 : decode cX9_takeWord 8 = .ok (.if_icmp .ge 30, 3) := by decide +kernel
theorem dX9_takeWord_11 : decode cX9_takeWord 11 = .ok (.aload_n 1, 1) := by decide +kernel
theorem dX9_takeWord_12 : decode cX9_takeWord 12 = .ok (.aload_n 0, 1) := by decide +kernel
theorem dX9_takeWord_13 : decode cX9_takeWord 13 = .ok (.getfield 15, 3) := by decide +kernel
theorem dX9_takeWord_16 : decode cX9_takeWord 16 = .ok (.invokevirtual 29, 3) := by decide +kernel
theorem dX9_takeWord_19 : decode cX9_takeWord 19 = .ok (.invokestatic 37, 3) := by decide +kernel
theorem dX9_takeWord_22 : decode cX9_takeWord 22 = .ok (.ifCond .eq 16, 3) := by decide +kernel
theorem dX9_takeWord_25 : decode cX9_takeWord 25 = .ok (.aload_n 0, 1) := by decide +kernel
theorem dX9_takeWord_26 : decode cX9_takeWord 26 = .ok (.dup, 1) := by decide +kernel
theorem dX9_takeWord_27 : decode cX9_takeWord 27 = .ok (.getfield 15, 3) := by decide +kernel
theorem dX9_takeWord_30 : decode cX9_takeWord 30 = .ok (.iconst 1, 1) := by decide +kernel
theorem dX9_takeWord_31 : decode cX9_takeWord 31 = .ok (.iadd, 1) := by decide +kernel
theorem dX9_takeWord_32 : decode cX9_takeWord 32 = .ok (.putfield 15, 3) := by decide +kernel
theorem dX9_takeWord_35 : decode cX9_takeWord 35 = .ok (.goto (-35), 3) := by decide +kernel
theorem dX9_takeWord_38 : decode cX9_takeWord 38 = .ok (.aload_n 0, 1) := by decide +kernel
theorem dX9_takeWord_39 : decode cX9_takeWord 39 = .ok (.iconst 1, 1) := by decide +kernel
theorem dX9_takeWord_40 : decode cX9_takeWord 40 = .ok (.putfield 18, 3) := by decide +kernel
theorem dX9_takeWord_43 : decode cX9_takeWord 43 = .ok (.iconst 3, 1) := by decide +kernel
theorem dX9_takeWord_44 : decode cX9_takeWord 44 = .ok (.istore_n 2, 1) := by decide +kernel
theorem dX9_takeWord_45 : decode cX9_takeWord 45 = .ok (.iconst 0, 1) := by decide +kernel
theorem dX9_takeWord_46 : decode cX9_takeWord 46 = .ok (.istore_n 3, 1) := by decide +kernel
theorem dX9_takeWord_47 : decode cX9_takeWord 47 = .ok (.iconst 1, 1) := by decide +kernel
theorem dX9_takeWord_48 : decode cX9_takeWord 48 = .ok (.istore 4, 2) := by decide +kernel
theorem dX9_takeWord_50 : decode cX9_takeWord 50 = .ok (.iconst 0, 1) := by decide +kernel
theorem dX9_takeWord_51 : decode cX9_takeWord 51 = .ok (.istore 5, 2) := by decide +kernel
theorem dX9_takeWord_53 : decode cX9_takeWord 53 = .ok (.iload 5, 2) := by decide +kernel
theorem dX9_takeWord_55 : decode cX9_takeWord 55 = .ok (.ldc 54, 2) := by decide +kernel
theorem dX9_takeWord_57 : decode cX9_takeWord 57 = .ok (.invokevirtual 56, 3) := by decide +kernel
theorem dX9_takeWord_60 : decode cX9_takeWord 60 = .ok (.if_icmp .ge 113, 3) := by decide +kernel
theorem dX9_takeWord_63 : decode cX9_takeWord 63 = .ok (.aload_n 0, 1) := by decide +kernel
theorem dX9_takeWord_64 : decode cX9_takeWord 64 = .ok (.getfield 18, 3) := by decide +kernel
theorem dX9_takeWord_67 : decode cX9_takeWord 67 = .ok (.iconst 1, 1) := by decide +kernel
theorem dX9_takeWord_68 : decode cX9_takeWord 68 = .ok (.if_icmp .ne 105, 3) := by decide +kernel
theorem dX9_takeWord_71 : decode cX9_takeWord 71 = .ok (.ldc 54, 2) := by decide +kernel
theorem dX9_takeWord_73 : decode cX9_takeWord 73 = .ok (.iload 5, 2) := by decide +kernel
theorem dX9_takeWord_75 : decode cX9_takeWord 75 = .ok (.invokevirtual 62, 3) := by decide +kernel
theorem dX9_takeWord_78 : decode cX9_takeWord 78 = .ok (.istore 6, 2) := by decide +kernel
theorem dX9_takeWord_80 : decode cX9_takeWord 80 = .ok (.iload 6, 2) := by decide +kernel
theorem dX9_takeWord_82 : decode cX9_takeWord 82 = .ok (.bipush 32, 2) := by decide +kernel
theorem dX9_takeWord_84 : decode cX9_takeWord 84 = .ok (.if_icmp .eq 49, 3) := by decide +kernel
theorem dX9_takeWord_87 : decode cX9_takeWord 87 = .ok (.iload 4, 2) := by decide +kernel
theorem dX9_takeWord_89 : decode cX9_takeWord 89 = .ok (.ifCond .eq 35, 3) := by decide +kernel
theorem dX9_takeWord_92 : decode cX9_takeWord 92 = .ok (.aload_n 0, 1) := by decide +kernel
theorem dX9_takeWord_93 : decode cX9_takeWord 93 = .ok (.getfield 11, 3) := by decide +kernel
theorem dX9_takeWord_96 : decode cX9_takeWord 96 = .ok (.iload_n 3, 1) := by decide +kernel
theorem dX9_takeWord_97 : decode cX9_takeWord 97 = .ok (.iadd, 1) := by decide +kernel
theorem dX9_takeWord_98 : decode cX9_takeWord 98 = .ok (.aload_n 0, 1) := by decide +kernel
theorem dX9_takeWord_99 : decode cX9_takeWord 99 = .ok (.getfield 15, 3) := by decide +kernel
theorem dX9_takeWord_102 : decode cX9_takeWord 102 = .ok (.if_icmp .ge 22, 3) := by decide +kernel
theorem dX9_takeWord_105 : decode cX9_takeWord 105 = .ok (.aload_n 1, 1) := by decide +kernel
theorem dX9_takeWord_106 : decode cX9_takeWord 106 = .ok (.aload_n 0, 1) := by decide +kernel
theorem dX9_takeWord_107 : decode cX9_takeWord 107 = .ok (.getfield 11, 3) := by decide +kernel
theorem dX9_takeWord_110 : decode cX9_takeWord 110 = .ok (.iload_n 3, 1) := by decide +kernel
theorem dX9_takeWord_111 : decode cX9_takeWord 111 = .ok (.iadd, 1) := by decide +kernel
theorem dX9_takeWord_112 : decode cX9_takeWord 112 = .ok (.invokevirtual 29, 3) := by decide +kernel
theorem dX9_takeWord_115 : decode cX9_takeWord 115 = .ok (.iload 6, 2) := by decide +kernel
theorem dX9_takeWord_117 : decode cX9_takeWord 117 = .ok (.if_icmp .ne 7, 3) := by decide +kernel
theorem dX9_takeWord_120 : decode cX9_takeWord 120 = .ok (.iconst 1, 1) := by decide +kernel
theorem dX9_takeWord_121 : decode cX9_takeWord 121 = .ok (.goto 4, 3) := by decide +kernel
theorem dX9_takeWord_124 : decode cX9_takeWord 124 = .ok (.iconst 0, 1) := by decide +kernel
theorem dX9_takeWord_125 : decode cX9_takeWord 125 = .ok (.istore 4, 2) := by decide +kernel
theorem dX9_takeWord_127 : decode cX9_takeWord 127 = .ok (.iinc 3 1, 3) := by decide +kernel
theorem dX9_takeWord_130 : decode cX9_takeWord 130 = .ok (.goto 37, 3) := by decide +kernel
theorem dX9_takeWord_133 : decode cX9_takeWord 133 = .ok (.iload 4, 2) := by decide +kernel
theorem dX9_takeWord_135 : decode cX9_takeWord 135 = .ok (.ifCond .eq 24, 3) := by decide +kernel
theorem dX9_takeWord_138 : decode cX9_takeWord 138 = .ok (.aload_n 0, 1) := by decide +kernel
theorem dX9_takeWord_139 : decode cX9_takeWord 139 = .ok (.getfield 11, 3) := by decide +kernel
theorem dX9_takeWord_142 : decode cX9_takeWord 142 = .ok (.iload_n 3, 1) := by decide +kernel
theorem dX9_takeWord_143 : decode cX9_takeWord 143 = .ok (.iadd, 1) := by decide +kernel
theorem dX9_takeWord_144 : decode cX9_takeWord 144 = .ok (.aload_n 0, 1) := by decide +kernel
theorem dX9_takeWord_145 : decode cX9_takeWord 145 = .ok (.getfield 15, 3) := by decide +kernel
theorem dX9_takeWord_148 : decode cX9_takeWord 148 = .ok (.if_icmp .ne 11, 3) := by decide +kernel
theorem dX9_takeWord_151 : decode cX9_takeWord 151 = .ok (.aload_n 0, 1) := by decide +kernel
theorem dX9_takeWord_152 : decode cX9_takeWord 152 = .ok (.iload_n 2, 1) := by decide +kernel
theorem dX9_takeWord_153 : decode cX9_takeWord 153 = .ok (.putfield 18, 3) := by decide +kernel
theorem dX9_takeWord_156 : decode cX9_takeWord 156 = .ok (.goto 11, 3) := by decide +kernel
theorem dX9_takeWord_159 : decode cX9_takeWord 159 = .ok (.iinc 2 1, 3) := by decide +kernel
theorem dX9_takeWord_162 : decode cX9_takeWord 162 = .ok (.iconst 0, 1) := by decide +kernel
theorem dX9_takeWord_163 : decode cX9_takeWord 163 = .ok (.istore_n 3, 1) := by decide +kernel
theorem dX9_takeWord_164 : decode cX9_takeWord 164 = .ok (.iconst 1, 1) := by decide +kernel
theorem dX9_takeWord_165 : decode cX9_takeWord 165 = .ok (.istore 4, 2) := by decide +kernel
theorem dX9_takeWord_167 : decode cX9_takeWord 167 = .ok (.iinc 5 1, 3) := by decide +kernel
theorem dX9_takeWord_170 : decode cX9_takeWord 170 = .ok (.goto (-117), 3) := by decide +kernel
theorem dX9_takeWord_173 : decode cX9_takeWord 173 = .ok (.return_, 1) := by decide +kernel
theorem dX9_isBlank_0 : decode cX9_isBlank 0 = .ok (.iload_n 0, 1) := by decide +kernel
theorem dX9_isBlank_1 : decode cX9_isBlank 1 = .ok (.bipush 32, 2) := by decide +kernel
theorem dX9_isBlank_3 : decode cX9_isBlank 3 = .ok (.if_icmp .eq 9, 3) := by decide +kernel
theorem dX9_isBlank_6 : decode cX9_isBlank 6 = .ok (.iload_n 0, 1) := by decide +kernel
theorem dX9_isBlank_7 : decode cX9_isBlank 7 = .ok (.bipush 10, 2) := by decide +kernel
theorem dX9_isBlank_9 : decode cX9_isBlank 9 = .ok (.if_icmp .ne 7, 3) := by decide +kernel
theorem dX9_isBlank_12 : decode cX9_isBlank 12 = .ok (.iconst 1, 1) := by decide +kernel
theorem dX9_isBlank_13 : decode cX9_isBlank 13 = .ok (.goto 4, 3) := by decide +kernel
theorem dX9_isBlank_16 : decode cX9_isBlank 16 = .ok (.iconst 0, 1) := by decide +kernel
theorem dX9_isBlank_17 : decode cX9_isBlank 17 = .ok (.ireturn, 1) := by decide +kernel
theorem dX9_advance_0 : decode cX9_advance 0 = .ok (.aload_n 0, 1) := by decide +kernel
theorem dX9_advance_1 : decode cX9_advance 1 = .ok (.aload_n 0, 1) := by decide +kernel
theorem dX9_advance_2 : decode cX9_advance 2 = .ok (.getfield 15, 3) := by decide +kernel
theorem dX9_advance_5 : decode cX9_advance 5 = .ok (.putfield 11, 3) := by decide +kernel
theorem dX9_advance_8 : decode cX9_advance 8 = .ok (.aload_n 0, 1) := by decide +kernel
theorem dX9_advance_9 : decode cX9_advance 9 = .ok (.getfield 11, 3) := by decide +kernel
theorem dX9_advance_12 : decode cX9_advance 12 = .ok (.aload_n 1, 1) := by decide +kernel
theorem dX9_advance_13 : decode cX9_advance 13 = .ok (.getfield 24, 3) := by decide +kernel
theorem dX9_advance_16 : decode cX9_advance 16 = .ok (.if_icmp .ge 30, 3) := by decide +kernel
theorem dX9_advance_19 : decode cX9_advance 19 = .ok (.aload_n 1, 1) := by decide +kernel
theorem dX9_advance_20 : decode cX9_advance 20 = .ok (.aload_n 0, 1) := by decide +kernel
theorem dX9_advance_21 : decode cX9_advance 21 = .ok (.getfield 11, 3) := by decide +kernel
theorem dX9_advance_24 : decode cX9_advance 24 = .ok (.invokevirtual 29, 3) := by decide +kernel
theorem dX9_advance_27 : decode cX9_advance 27 = .ok (.invokestatic 33, 3) := by decide +kernel
theorem dX9_advance_30 : decode cX9_advance 30 = .ok (.ifCond .eq 16, 3) := by decide +kernel
theorem dX9_advance_33 : decode cX9_advance 33 = .ok (.aload_n 0, 1) := by decide +kernel
theorem dX9_advance_34 : decode cX9_advance 34 = .ok (.dup, 1) := by decide +kernel
theorem dX9_advance_35 : decode cX9_advance 35 = .ok (.getfield 11, 3) := by decide +kernel
theorem dX9_advance_38 : decode cX9_advance 38 = .ok (.iconst 1, 1) := by decide +kernel
theorem dX9_advance_39 : decode cX9_advance 39 = .ok (.iadd, 1) := by decide +kernel
theorem dX9_advance_40 : decode cX9_advance 40 = .ok (.putfield 11, 3) := by decide +kernel
theorem dX9_advance_43 : decode cX9_advance 43 = .ok (.goto (-35), 3) := by decide +kernel
theorem dX9_advance_46 : decode cX9_advance 46 = .ok (.aload_n 0, 1) := by decide +kernel
theorem dX9_advance_47 : decode cX9_advance 47 = .ok (.aload_n 0, 1) := by decide +kernel
theorem dX9_advance_48 : decode cX9_advance 48 = .ok (.getfield 11, 3) := by decide +kernel
theorem dX9_advance_51 : decode cX9_advance 51 = .ok (.putfield 15, 3) := by decide +kernel
theorem dX9_advance_54 : decode cX9_advance 54 = .ok (.aload_n 1, 1) := by decide +kernel
theorem dX9_advance_55 : decode cX9_advance 55 = .ok (.aload_n 0, 1) := by decide +kernel
theorem dX9_advance_56 : decode cX9_advance 56 = .ok (.getfield 11, 3) := by decide +kernel
theorem dX9_advance_59 : decode cX9_advance 59 = .ok (.invokevirtual 29, 3) := by decide +kernel
theorem dX9_advance_62 : decode cX9_advance 62 = .ok (.istore_n 2, 1) := by decide +kernel
theorem dX9_advance_63 : decode cX9_advance 63 = .ok (.iload_n 2, 1) := by decide +kernel
theorem dX9_advance_64 : decode cX9_advance 64 = .ok (.iconst (-1), 1) := by decide +kernel
theorem dX9_advance_65 : decode cX9_advance 65 = .ok (.if_icmp .ne 11, 3) := by decide +kernel
theorem dX9_advance_68 : decode cX9_advance 68 = .ok (.aload_n 0, 1) := by decide +kernel
theorem dX9_advance_69 : decode cX9_advance 69 = .ok (.iconst 0, 1) := by decide +kernel
theorem dX9_advance_70 : decode cX9_advance 70 = .ok (.putfield 18, 3) := by decide +kernel
theorem dX9_advance_73 : decode cX9_advance 73 = .ok (.goto 38, 3) := by decide +kernel
theorem dX9_advance_76 : decode cX9_advance 76 = .ok (.iload_n 2, 1) := by decide +kernel
theorem dX9_advance_77 : decode cX9_advance 77 = .ok (.invokestatic 37, 3) := by decide +kernel
theorem dX9_advance_80 : decode cX9_advance 80 = .ok (.ifCond .eq 11, 3) := by decide +kernel
theorem dX9_advance_83 : decode cX9_advance 83 = .ok (.aload_n 0, 1) := by decide +kernel
theorem dX9_advance_84 : decode cX9_advance 84 = .ok (.aload_n 1, 1) := by decide +kernel
theorem dX9_advance_85 : decode cX9_advance 85 = .ok (.invokevirtual 40, 3) := by decide +kernel
theorem dX9_advance_88 : decode cX9_advance 88 = .ok (.goto 23, 3) := by decide +kernel
theorem dX9_advance_91 : decode cX9_advance 91 = .ok (.iload_n 2, 1) := by decide +kernel
theorem dX9_advance_92 : decode cX9_advance 92 = .ok (.invokestatic 44, 3) := by decide +kernel
theorem dX9_advance_95 : decode cX9_advance 95 = .ok (.ifCond .eq 11, 3) := by decide +kernel
theorem dX9_advance_98 : decode cX9_advance 98 = .ok (.aload_n 0, 1) := by decide +kernel
theorem dX9_advance_99 : decode cX9_advance 99 = .ok (.aload_n 1, 1) := by decide +kernel
theorem dX9_advance_100 : decode cX9_advance 100 = .ok (.invokevirtual 47, 3) := by decide +kernel
theorem dX9_advance_103 : decode cX9_advance 103 = .ok (.goto 8, 3) := by decide +kernel
theorem dX9_advance_106 : decode cX9_advance 106 = .ok (.aload_n 0, 1) := by decide +kernel
theorem dX9_advance_107 : decode cX9_advance 107 = .ok (.iload_n 2, 1) := by decide +kernel
theorem dX9_advance_108 : decode cX9_advance 108 = .ok (.invokevirtual 50, 3) := by decide +kernel
theorem dX9_advance_111 : decode cX9_advance 111 = .ok (.return_, 1) := by decide +kernel
theorem dX3_isFull_0 : decode cX3_isFull 0 = .ok (.aload_n 0, 1) := by decide +kernel
theorem dX3_isFull_1 : decode cX3_isFull 1 = .ok (.getfield 33, 3) := by decide +kernel
theorem dX3_isFull_4 : decode cX3_isFull 4 = .ok (.bipush 16, 2) := by decide +kernel
theorem dX3_isFull_6 : decode cX3_isFull 6 = .ok (.if_icmp .lt 7, 3) := by decide +kernel
theorem dX3_isFull_9 : decode cX3_isFull 9 = .ok (.iconst 1, 1) := by decide +kernel
theorem dX3_isFull_10 : decode cX3_isFull 10 = .ok (.goto 4, 3) := by decide +kernel
theorem dX3_isFull_13 : decode cX3_isFull 13 = .ok (.iconst 0, 1) := by decide +kernel
theorem dX3_isFull_14 : decode cX3_isFull 14 = .ok (.ireturn, 1) := by decide +kernel
theorem dX3_startLine_0 : decode cX3_startLine 0 = .ok (.aload_n 0, 1) := by decide +kernel
theorem dX3_startLine_1 : decode cX3_startLine 1 = .ok (.invokevirtual 36, 3) := by decide +kernel
theorem dX3_startLine_4 : decode cX3_startLine 4 = .ok (.ifCond .ne 16, 3) := by decide +kernel
theorem dX3_startLine_7 : decode cX3_startLine 7 = .ok (.aload_n 0, 1) := by decide +kernel
theorem dX3_startLine_8 : decode cX3_startLine 8 = .ok (.getfield 17, 3) := by decide +kernel
theorem dX3_startLine_11 : decode cX3_startLine 11 = .ok (.aload_n 0, 1) := by decide +kernel
theorem dX3_startLine_12 : decode cX3_startLine 12 = .ok (.getfield 33, 3) := by decide +kernel
theorem dX3_startLine_15 : decode cX3_startLine 15 = .ok (.aload_n 0, 1) := by decide +kernel
theorem dX3_startLine_16 : decode cX3_startLine 16 = .ok (.getfield 29, 3) := by decide +kernel
theorem dX3_startLine_19 : decode cX3_startLine 19 = .ok (.iastore, 1) := by decide +kernel
theorem dX3_startLine_20 : decode cX3_startLine 20 = .ok (.return_, 1) := by decide +kernel
theorem dX4_refuse_0 : decode cX4_refuse 0 = .ok (.aload_n 0, 1) := by decide +kernel
theorem dX4_refuse_1 : decode cX4_refuse 1 = .ok (.iload_n 1, 1) := by decide +kernel
theorem dX4_refuse_2 : decode cX4_refuse 2 = .ok (.putfield 43, 3) := by decide +kernel
theorem dX4_refuse_5 : decode cX4_refuse 5 = .ok (.aload_n 0, 1) := by decide +kernel
theorem dX4_refuse_6 : decode cX4_refuse 6 = .ok (.aload_n 0, 1) := by decide +kernel
theorem dX4_refuse_7 : decode cX4_refuse 7 = .ok (.getfield 21, 3) := by decide +kernel
theorem dX4_refuse_10 : decode cX4_refuse 10 = .ok (.getfield 84, 3) := by decide +kernel
theorem dX4_refuse_13 : decode cX4_refuse 13 = .ok (.putfield 46, 3) := by decide +kernel
theorem dX4_refuse_16 : decode cX4_refuse 16 = .ok (.aload_n 0, 1) := by decide +kernel
theorem dX4_refuse_17 : decode cX4_refuse 17 = .ok (.iconst 1, 1) := by decide +kernel
theorem dX4_refuse_18 : decode cX4_refuse 18 = .ok (.putfield 39, 3) := by decide +kernel
theorem dX4_refuse_21 : decode cX4_refuse 21 = .ok (.return_, 1) := by decide +kernel
theorem dX4_takeLine_0 : decode cX4_takeLine 0 = .ok (.iload_n 1, 1) := by decide +kernel
theorem dX4_takeLine_1 : decode cX4_takeLine 1 = .ok (.ifCond .ne 11, 3) := by decide +kernel
theorem dX4_takeLine_4 : decode cX4_takeLine 4 = .ok (.aload_n 0, 1) := by decide +kernel
theorem dX4_takeLine_5 : decode cX4_takeLine 5 = .ok (.iconst 1, 1) := by decide +kernel
theorem dX4_takeLine_6 : decode cX4_takeLine 6 = .ok (.putfield 39, 3) := by decide +kernel
theorem dX4_takeLine_9 : decode cX4_takeLine 9 = .ok (.goto 51, 3) := by decide +kernel
theorem dX4_takeLine_12 : decode cX4_takeLine 12 = .ok (.iload_n 1, 1) := by decide +kernel
theorem dX4_takeLine_13 : decode cX4_takeLine 13 = .ok (.iconst 3, 1) := by decide +kernel
theorem dX4_takeLine_14 : decode cX4_takeLine 14 = .ok (.if_icmp .eq 11, 3) := by decide +kernel
theorem dX4_takeLine_17 : decode cX4_takeLine 17 = .ok (.aload_n 0, 1) := by decide +kernel
theorem dX4_takeLine_18 : decode cX4_takeLine 18 = .ok (.iconst 1, 1) := by decide +kernel
theorem dX4_takeLine_19 : decode cX4_takeLine 19 = .ok (.invokevirtual 87, 3) := by decide +kernel
theorem dX4_takeLine_22 : decode cX4_takeLine 22 = .ok (.goto 38, 3) := by decide +kernel
theorem dX4_takeLine_25 : decode cX4_takeLine 25 = .ok (.aload_n 0, 1) := by decide +kernel
theorem dX4_takeLine_26 : decode cX4_takeLine 26 = .ok (.getfield 12, 3) := by decide +kernel
theorem dX4_takeLine_29 : decode cX4_takeLine 29 = .ok (.invokevirtual 90, 3) := by decide +kernel
theorem dX4_takeLine_32 : decode cX4_takeLine 32 = .ok (.ifCond .eq 11, 3) := by decide +kernel
theorem dX4_takeLine_35 : decode cX4_takeLine 35 = .ok (.aload_n 0, 1) := by decide +kernel
theorem dX4_takeLine_36 : decode cX4_takeLine 36 = .ok (.iconst 3, 1) := by decide +kernel
theorem dX4_takeLine_37 : decode cX4_takeLine 37 = .ok (.invokevirtual 87, 3) := by decide +kernel
theorem dX4_takeLine_40 : decode cX4_takeLine 40 = .ok (.goto 20, 3) := by decide +kernel
theorem dX4_takeLine_43 : decode cX4_takeLine 43 = .ok (.aload_n 0, 1) := by decide +kernel
theorem dX4_takeLine_44 : decode cX4_takeLine 44 = .ok (.getfield 12, 3) := by decide +kernel
theorem dX4_takeLine_47 : decode cX4_takeLine 47 = .ok (.invokevirtual 94, 3) := by decide +kernel
theorem dX4_takeLine_50 : decode cX4_takeLine 50 = .ok (.aload_n 0, 1) := by decide +kernel
theorem dX4_takeLine_51 : decode cX4_takeLine 51 = .ok (.iconst 0, 1) := by decide +kernel
theorem dX4_takeLine_52 : decode cX4_takeLine 52 = .ok (.putfield 36, 3) := by decide +kernel
theorem dX4_takeLine_55 : decode cX4_takeLine 55 = .ok (.aload_n 0, 1) := by decide +kernel
theorem dX4_takeLine_56 : decode cX4_takeLine 56 = .ok (.iconst 1, 1) := by decide +kernel
theorem dX4_takeLine_57 : decode cX4_takeLine 57 = .ok (.putfield 33, 3) := by decide +kernel
theorem dX4_takeLine_60 : decode cX4_takeLine 60 = .ok (.return_, 1) := by decide +kernel
theorem dX3_add_0 : decode cX3_add 0 = .ok (.aload_n 0, 1) := by decide +kernel
theorem dX3_add_1 : decode cX3_add 1 = .ok (.getfield 29, 3) := by decide +kernel
theorem dX3_add_4 : decode cX3_add 4 = .ok (.sipush 400, 3) := by decide +kernel
theorem dX3_add_7 : decode cX3_add 7 = .ok (.if_icmp .ge 23, 3) := by decide +kernel
theorem dX3_add_10 : decode cX3_add 10 = .ok (.aload_n 0, 1) := by decide +kernel
theorem dX3_add_11 : decode cX3_add 11 = .ok (.getfield 11, 3) := by decide +kernel
theorem dX3_add_14 : decode cX3_add 14 = .ok (.aload_n 0, 1) := by decide +kernel
theorem dX3_add_15 : decode cX3_add 15 = .ok (.getfield 29, 3) := by decide +kernel
theorem dX3_add_18 : decode cX3_add 18 = .ok (.iload_n 1, 1) := by decide +kernel
theorem dX3_add_19 : decode cX3_add 19 = .ok (.iastore, 1) := by decide +kernel
theorem dX3_add_20 : decode cX3_add 20 = .ok (.aload_n 0, 1) := by decide +kernel
theorem dX3_add_21 : decode cX3_add 21 = .ok (.dup, 1) := by decide +kernel
theorem dX3_add_22 : decode cX3_add 22 = .ok (.getfield 29, 3) := by decide +kernel
theorem dX3_add_25 : decode cX3_add 25 = .ok (.iconst 1, 1) := by decide +kernel
theorem dX3_add_26 : decode cX3_add 26 = .ok (.iadd, 1) := by decide +kernel
theorem dX3_add_27 : decode cX3_add 27 = .ok (.putfield 29, 3) := by decide +kernel
theorem dX3_add_30 : decode cX3_add 30 = .ok (.return_, 1) := by decide +kernel
theorem dX9_isFact_0 : decode cX9_isFact 0 = .ok (.iload_n 0, 1) := by decide +kernel
theorem dX9_isFact_1 : decode cX9_isFact 1 = .ok (.bipush 8, 2) := by decide +kernel
theorem dX9_isFact_3 : decode cX9_isFact 3 = .ok (.bipush 16, 2) := by decide +kernel
theorem dX9_isFact_5 : decode cX9_isFact 5 = .ok (.invokestatic 71, 3) := by decide +kernel
theorem dX9_isFact_8 : decode cX9_isFact 8 = .ok (.ireturn, 1) := by decide +kernel
theorem dX3_addFact_0 : decode cX3_addFact 0 = .ok (.aload_n 0, 1) := by decide +kernel
theorem dX3_addFact_1 : decode cX3_addFact 1 = .ok (.sipush 10000, 3) := by decide +kernel
theorem dX3_addFact_4 : decode cX3_addFact 4 = .ok (.iload_n 1, 1) := by decide +kernel
theorem dX3_addFact_5 : decode cX3_addFact 5 = .ok (.iadd, 1) := by decide +kernel
theorem dX3_addFact_6 : decode cX3_addFact 6 = .ok (.bipush 8, 2) := by decide +kernel
theorem dX3_addFact_8 : decode cX3_addFact 8 = .ok (.isub, 1) := by decide +kernel
theorem dX3_addFact_9 : decode cX3_addFact 9 = .ok (.invokevirtual 42, 3) := by decide +kernel
theorem dX3_addFact_12 : decode cX3_addFact 12 = .ok (.return_, 1) := by decide +kernel
theorem dX4_takeUnit_0 : decode cX4_takeUnit 0 = .ok (.aload_n 0, 1) := by decide +kernel
theorem dX4_takeUnit_1 : decode cX4_takeUnit 1 = .ok (.iconst 4, 1) := by decide +kernel
theorem dX4_takeUnit_2 : decode cX4_takeUnit 2 = .ok (.putfield 33, 3) := by decide +kernel
theorem dX4_takeUnit_5 : decode cX4_takeUnit 5 = .ok (.iload_n 1, 1) := by decide +kernel
theorem dX4_takeUnit_6 : decode cX4_takeUnit 6 = .ok (.iconst 2, 1) := by decide +kernel
theorem dX4_takeUnit_7 : decode cX4_takeUnit 7 = .ok (.if_icmp .ne 20, 3) := by decide +kernel
theorem dX4_takeUnit_10 : decode cX4_takeUnit 10 = .ok (.aload_n 0, 1) := by decide +kernel
theorem dX4_takeUnit_11 : decode cX4_takeUnit 11 = .ok (.getfield 12, 3) := by decide +kernel
theorem dX4_takeUnit_14 : decode cX4_takeUnit 14 = .ok (.aload_n 0, 1) := by decide +kernel
theorem dX4_takeUnit_15 : decode cX4_takeUnit 15 = .ok (.getfield 21, 3) := by decide +kernel
theorem dX4_takeUnit_18 : decode cX4_takeUnit 18 = .ok (.getfield 97, 3) := by decide +kernel
theorem dX4_takeUnit_21 : decode cX4_takeUnit 21 = .ok (.invokevirtual 100, 3) := by decide +kernel
theorem dX4_takeUnit_24 : decode cX4_takeUnit 24 = .ok (.goto 26, 3) := by decide +kernel
theorem dX4_takeUnit_27 : decode cX4_takeUnit 27 = .ok (.iload_n 1, 1) := by decide +kernel
theorem dX4_takeUnit_28 : decode cX4_takeUnit 28 = .ok (.invokestatic 103, 3) := by decide +kernel
theorem dX4_takeUnit_31 : decode cX4_takeUnit 31 = .ok (.ifCond .eq 14, 3) := by decide +kernel
theorem dX4_takeUnit_34 : decode cX4_takeUnit 34 = .ok (.aload_n 0, 1) := by decide +kernel
theorem dX4_takeUnit_35 : decode cX4_takeUnit 35 = .ok (.getfield 12, 3) := by decide +kernel
theorem dX4_takeUnit_38 : decode cX4_takeUnit 38 = .ok (.iload_n 1, 1) := by decide +kernel
theorem dX4_takeUnit_39 : decode cX4_takeUnit 39 = .ok (.invokevirtual 107, 3) := by decide +kernel
theorem dX4_takeUnit_42 : decode cX4_takeUnit 42 = .ok (.goto 8, 3) := by decide +kernel
theorem dX4_takeUnit_45 : decode cX4_takeUnit 45 = .ok (.aload_n 0, 1) := by decide +kernel
theorem dX4_takeUnit_46 : decode cX4_takeUnit 46 = .ok (.iconst 1, 1) := by decide +kernel
theorem dX4_takeUnit_47 : decode cX4_takeUnit 47 = .ok (.invokevirtual 87, 3) := by decide +kernel
theorem dX4_takeUnit_50 : decode cX4_takeUnit 50 = .ok (.return_, 1) := by decide +kernel
theorem dX4_takeDivisor_0 : decode cX4_takeDivisor 0 = .ok (.iload_n 1, 1) := by decide +kernel
theorem dX4_takeDivisor_1 : decode cX4_takeDivisor 1 = .ok (.iconst 2, 1) := by decide +kernel
theorem dX4_takeDivisor_2 : decode cX4_takeDivisor 2 = .ok (.if_icmp .eq 11, 3) := by decide +kernel
theorem dX4_takeDivisor_5 : decode cX4_takeDivisor 5 = .ok (.aload_n 0, 1) := by decide +kernel
theorem dX4_takeDivisor_6 : decode cX4_takeDivisor 6 = .ok (.iconst 1, 1) := by decide +kernel
theorem dX4_takeDivisor_7 : decode cX4_takeDivisor 7 = .ok (.invokevirtual 87, 3) := by decide +kernel
theorem dX4_takeDivisor_10 : decode cX4_takeDivisor 10 = .ok (.goto 40, 3) := by decide +kernel
theorem dX4_takeDivisor_13 : decode cX4_takeDivisor 13 = .ok (.aload_n 0, 1) := by decide +kernel
theorem dX4_takeDivisor_14 : decode cX4_takeDivisor 14 = .ok (.getfield 21, 3) := by decide +kernel
theorem dX4_takeDivisor_17 : decode cX4_takeDivisor 17 = .ok (.getfield 97, 3) := by decide +kernel
theorem dX4_takeDivisor_20 : decode cX4_takeDivisor 20 = .ok (.ifCond .ne 11, 3) := by decide +kernel
theorem dX4_takeDivisor_23 : decode cX4_takeDivisor 23 = .ok (.aload_n 0, 1) := by decide +kernel
theorem dX4_takeDivisor_24 : decode cX4_takeDivisor 24 = .ok (.iconst 2, 1) := by decide +kernel
theorem dX4_takeDivisor_25 : decode cX4_takeDivisor 25 = .ok (.invokevirtual 87, 3) := by decide +kernel
theorem dX4_takeDivisor_28 : decode cX4_takeDivisor 28 = .ok (.goto 22, 3) := by decide +kernel
theorem dX4_takeDivisor_31 : decode cX4_takeDivisor 31 = .ok (.aload_n 0, 1) := by decide +kernel
theorem dX4_takeDivisor_32 : decode cX4_takeDivisor 32 = .ok (.getfield 12, 3) := by decide +kernel
theorem dX4_takeDivisor_35 : decode cX4_takeDivisor 35 = .ok (.aload_n 0, 1) := by decide +kernel
theorem dX4_takeDivisor_36 : decode cX4_takeDivisor 36 = .ok (.getfield 21, 3) := by decide +kernel
theorem dX4_takeDivisor_39 : decode cX4_takeDivisor 39 = .ok (.getfield 97, 3) := by decide +kernel
theorem dX4_takeDivisor_42 : decode cX4_takeDivisor 42 = .ok (.invokevirtual 100, 3) := by decide +kernel
theorem dX4_takeDivisor_45 : decode cX4_takeDivisor 45 = .ok (.aload_n 0, 1) := by decide +kernel
theorem dX4_takeDivisor_46 : decode cX4_takeDivisor 46 = .ok (.iconst 4, 1) := by decide +kernel
theorem dX4_takeDivisor_47 : decode cX4_takeDivisor 47 = .ok (.putfield 33, 3) := by decide +kernel
theorem dX4_takeDivisor_50 : decode cX4_takeDivisor 50 = .ok (.return_, 1) := by decide +kernel
theorem dX4_countWaiting_0 : decode cX4_countWaiting 0 = .ok (.iconst 0, 1) := by decide +kernel
theorem dX4_countWaiting_1 : decode cX4_countWaiting 1 = .ok (.istore_n 2, 1) := by decide +kernel
theorem dX4_countWaiting_2 : decode cX4_countWaiting 2 = .ok (.iconst 0, 1) := by decide +kernel
theorem dX4_countWaiting_3 : decode cX4_countWaiting 3 = .ok (.istore_n 3, 1) := by decide +kernel
theorem dX4_countWaiting_4 : decode cX4_countWaiting 4 = .ok (.iload_n 3, 1) := by decide +kernel
theorem dX4_countWaiting_5 : decode cX4_countWaiting 5 = .ok (.aload_n 0, 1) := by decide +kernel
theorem dX4_countWaiting_6 : decode cX4_countWaiting 6 = .ok (.getfield 29, 3) := by decide +kernel
theorem dX4_countWaiting_9 : decode cX4_countWaiting 9 = .ok (.if_icmp .ge 22, 3) := by decide +kernel
theorem dX4_countWaiting_12 : decode cX4_countWaiting 12 = .ok (.aload_n 0, 1) := by decide +kernel
theorem dX4_countWaiting_13 : decode cX4_countWaiting 13 = .ok (.getfield 25, 3) := by decide +kernel
theorem dX4_countWaiting_16 : decode cX4_countWaiting 16 = .ok (.iload_n 3, 1) := by decide +kernel
theorem dX4_countWaiting_17 : decode cX4_countWaiting 17 = .ok (.iaload, 1) := by decide +kernel
theorem dX4_countWaiting_18 : decode cX4_countWaiting 18 = .ok (.iload_n 1, 1) := by decide +kernel
theorem dX4_countWaiting_19 : decode cX4_countWaiting 19 = .ok (.if_icmp .ne 6, 3) := by decide +kernel
theorem dX4_countWaiting_22 : decode cX4_countWaiting 22 = .ok (.iinc 2 1, 3) := by decide +kernel
theorem dX4_countWaiting_25 : decode cX4_countWaiting 25 = .ok (.iinc 3 1, 3) := by decide +kernel
theorem dX4_countWaiting_28 : decode cX4_countWaiting 28 = .ok (.goto (-24), 3) := by decide +kernel
theorem dX4_countWaiting_31 : decode cX4_countWaiting 31 = .ok (.iload_n 2, 1) := by decide +kernel
theorem dX4_countWaiting_32 : decode cX4_countWaiting 32 = .ok (.ireturn, 1) := by decide +kernel
theorem dX4_putSign_0 : decode cX4_putSign 0 = .ok (.aload_n 0, 1) := by decide +kernel
theorem dX4_putSign_1 : decode cX4_putSign 1 = .ok (.getfield 29, 3) := by decide +kernel
theorem dX4_putSign_4 : decode cX4_putSign 4 = .ok (.bipush 40, 2) := by decide +kernel
theorem dX4_putSign_6 : decode cX4_putSign 6 = .ok (.if_icmp .ge 23, 3) := by decide +kernel
theorem dX4_putSign_9 : decode cX4_putSign 9 = .ok (.aload_n 0, 1) := by decide +kernel
theorem dX4_putSign_10 : decode cX4_putSign 10 = .ok (.getfield 25, 3) := by decide +kernel
theorem dX4_putSign_13 : decode cX4_putSign 13 = .ok (.aload_n 0, 1) := by decide +kernel
theorem dX4_putSign_14 : decode cX4_putSign 14 = .ok (.getfield 29, 3) := by decide +kernel
theorem dX4_putSign_17 : decode cX4_putSign 17 = .ok (.iload_n 1, 1) := by decide +kernel
theorem dX4_putSign_18 : decode cX4_putSign 18 = .ok (.iastore, 1) := by decide +kernel
theorem dX4_putSign_19 : decode cX4_putSign 19 = .ok (.aload_n 0, 1) := by decide +kernel
theorem dX4_putSign_20 : decode cX4_putSign 20 = .ok (.dup, 1) := by decide +kernel
theorem dX4_putSign_21 : decode cX4_putSign 21 = .ok (.getfield 29, 3) := by decide +kernel
theorem dX4_putSign_24 : decode cX4_putSign 24 = .ok (.iconst 1, 1) := by decide +kernel
theorem dX4_putSign_25 : decode cX4_putSign 25 = .ok (.iadd, 1) := by decide +kernel
theorem dX4_putSign_26 : decode cX4_putSign 26 = .ok (.putfield 29, 3) := by decide +kernel
theorem dX4_putSign_29 : decode cX4_putSign 29 = .ok (.return_, 1) := by decide +kernel
theorem dX4_takeTest_0 : decode cX4_takeTest 0 = .ok (.iload_n 1, 1) := by decide +kernel
theorem dX4_takeTest_1 : decode cX4_takeTest 1 = .ok (.bipush 7, 2) := by decide +kernel
theorem dX4_takeTest_3 : decode cX4_takeTest 3 = .ok (.if_icmp .eq 22, 3) := by decide +kernel
theorem dX4_takeTest_6 : decode cX4_takeTest 6 = .ok (.iload_n 1, 1) := by decide +kernel
theorem dX4_takeTest_7 : decode cX4_takeTest 7 = .ok (.bipush 22, 2) := by decide +kernel
theorem dX4_takeTest_9 : decode cX4_takeTest 9 = .ok (.if_icmp .eq 16, 3) := by decide +kernel
theorem dX4_takeTest_12 : decode cX4_takeTest 12 = .ok (.aload_n 0, 1) := by decide +kernel
theorem dX4_takeTest_13 : decode cX4_takeTest 13 = .ok (.iconst 1, 1) := by decide +kernel
theorem dX4_takeTest_14 : decode cX4_takeTest 14 = .ok (.putfield 36, 3) := by decide +kernel
theorem dX4_takeTest_17 : decode cX4_takeTest 17 = .ok (.aload_n 0, 1) := by decide +kernel
theorem dX4_takeTest_18 : decode cX4_takeTest 18 = .ok (.iload_n 1, 1) := by decide +kernel
theorem dX4_takeTest_19 : decode cX4_takeTest 19 = .ok (.invokevirtual 65, 3) := by decide +kernel
theorem dX4_takeTest_22 : decode cX4_takeTest 22 = .ok (.goto 34, 3) := by decide +kernel
theorem dX4_takeTest_25 : decode cX4_takeTest 25 = .ok (.aload_n 0, 1) := by decide +kernel
theorem dX4_takeTest_26 : decode cX4_takeTest 26 = .ok (.bipush 7, 2) := by decide +kernel
theorem dX4_takeTest_28 : decode cX4_takeTest 28 = .ok (.invokevirtual 110, 3) := by decide +kernel
theorem dX4_takeTest_31 : decode cX4_takeTest 31 = .ok (.aload_n 0, 1) := by decide +kernel
theorem dX4_takeTest_32 : decode cX4_takeTest 32 = .ok (.bipush 22, 2) := by decide +kernel
theorem dX4_takeTest_34 : decode cX4_takeTest 34 = .ok (.invokevirtual 110, 3) := by decide +kernel
theorem dX4_takeTest_37 : decode cX4_takeTest 37 = .ok (.iadd, 1) := by decide +kernel
theorem dX4_takeTest_38 : decode cX4_takeTest 38 = .ok (.bipush 8, 2) := by decide +kernel
theorem dX4_takeTest_40 : decode cX4_takeTest 40 = .ok (.if_icmp .lt 11, 3) := by decide +kernel
theorem dX4_takeTest_43 : decode cX4_takeTest 43 = .ok (.aload_n 0, 1) := by decide +kernel
theorem dX4_takeTest_44 : decode cX4_takeTest 44 = .ok (.iconst 3, 1) := by decide +kernel
theorem dX4_takeTest_45 : decode cX4_takeTest 45 = .ok (.invokevirtual 87, 3) := by decide +kernel
theorem dX4_takeTest_48 : decode cX4_takeTest 48 = .ok (.goto 8, 3) := by decide +kernel
theorem dX4_takeTest_51 : decode cX4_takeTest 51 = .ok (.aload_n 0, 1) := by decide +kernel
theorem dX4_takeTest_52 : decode cX4_takeTest 52 = .ok (.iload_n 1, 1) := by decide +kernel
theorem dX4_takeTest_53 : decode cX4_takeTest 53 = .ok (.invokevirtual 114, 3) := by decide +kernel
theorem dX4_takeTest_56 : decode cX4_takeTest 56 = .ok (.return_, 1) := by decide +kernel
theorem dX9_isArithmetic_0 : decode cX9_isArithmetic 0 = .ok (.iload_n 0, 1) := by decide +kernel
theorem dX9_isArithmetic_1 : decode cX9_isArithmetic 1 = .ok (.bipush 18, 2) := by decide +kernel
theorem dX9_isArithmetic_3 : decode cX9_isArithmetic 3 = .ok (.bipush 21, 2) := by decide +kernel
theorem dX9_isArithmetic_5 : decode cX9_isArithmetic 5 = .ok (.invokestatic 71, 3) := by decide +kernel
theorem dX9_isArithmetic_8 : decode cX9_isArithmetic 8 = .ok (.ireturn, 1) := by decide +kernel
theorem dX9_isComparison_0 : decode cX9_isComparison 0 = .ok (.iload_n 0, 1) := by decide +kernel
theorem dX9_isComparison_1 : decode cX9_isComparison 1 = .ok (.bipush 24, 2) := by decide +kernel
theorem dX9_isComparison_3 : decode cX9_isComparison 3 = .ok (.bipush 26, 2) := by decide +kernel
theorem dX9_isComparison_5 : decode cX9_isComparison 5 = .ok (.invokestatic 71, 3) := by decide +kernel
theorem dX9_isComparison_8 : decode cX9_isComparison 8 = .ok (.ireturn, 1) := by decide +kernel
theorem dX9_bindingOf_0 : decode cX9_bindingOf 0 = .ok (.iload_n 0, 1) := by decide +kernel
theorem dX9_bindingOf_1 : decode cX9_bindingOf 1 = .ok (.tableswitch 100 5 22 #[89, 91, 93, 100, 100, 100, 100, 100, 100, 100, 100, 100, 100, 95, 95, 97, 97, 87], 87) := by decide +kernel
theorem dX9_bindingOf_88 : decode cX9_bindingOf 88 = .ok (.iconst 0, 1) := by decide +kernel
theorem dX9_bindingOf_89 : decode cX9_bindingOf 89 = .ok (.ireturn, 1) := by decide +kernel
theorem dX9_bindingOf_90 : decode cX9_bindingOf 90 = .ok (.iconst 1, 1) := by decide +kernel
theorem dX9_bindingOf_91 : decode cX9_bindingOf 91 = .ok (.ireturn, 1) := by decide +kernel
theorem dX9_bindingOf_92 : decode cX9_bindingOf 92 = .ok (.iconst 2, 1) := by decide +kernel
theorem dX9_bindingOf_93 : decode cX9_bindingOf 93 = .ok (.ireturn, 1) := by decide +kernel
theorem dX9_bindingOf_94 : decode cX9_bindingOf 94 = .ok (.iconst 3, 1) := by decide +kernel
theorem dX9_bindingOf_95 : decode cX9_bindingOf 95 = .ok (.ireturn, 1) := by decide +kernel
theorem dX9_bindingOf_96 : decode cX9_bindingOf 96 = .ok (.iconst 5, 1) := by decide +kernel
theorem dX9_bindingOf_97 : decode cX9_bindingOf 97 = .ok (.ireturn, 1) := by decide +kernel
theorem dX9_bindingOf_98 : decode cX9_bindingOf 98 = .ok (.bipush 6, 2) := by decide +kernel
theorem dX9_bindingOf_100 : decode cX9_bindingOf 100 = .ok (.ireturn, 1) := by decide +kernel
theorem dX9_bindingOf_101 : decode cX9_bindingOf 101 = .ok (.iconst 4, 1) := by decide +kernel
theorem dX9_bindingOf_102 : decode cX9_bindingOf 102 = .ok (.ireturn, 1) := by decide +kernel
theorem dX4_releaseFrom_0 : decode cX4_releaseFrom 0 = .ok (.aload_n 0, 1) := by decide +kernel
theorem dX4_releaseFrom_1 : decode cX4_releaseFrom 1 = .ok (.getfield 29, 3) := by decide +kernel
theorem dX4_releaseFrom_4 : decode cX4_releaseFrom 4 = .ok (.ifCond .le 51, 3) := by decide +kernel
theorem dX4_releaseFrom_7 : decode cX4_releaseFrom 7 = .ok (.aload_n 0, 1) := by decide +kernel
theorem dX4_releaseFrom_8 : decode cX4_releaseFrom 8 = .ok (.getfield 25, 3) := by decide +kernel
theorem dX4_releaseFrom_11 : decode cX4_releaseFrom 11 = .ok (.aload_n 0, 1) := by decide +kernel
theorem dX4_releaseFrom_12 : decode cX4_releaseFrom 12 = .ok (.getfield 29, 3) := by decide +kernel
theorem dX4_releaseFrom_15 : decode cX4_releaseFrom 15 = .ok (.iconst 1, 1) := by decide +kernel
theorem dX4_releaseFrom_16 : decode cX4_releaseFrom 16 = .ok (.isub, 1) := by decide +kernel
theorem dX4_releaseFrom_17 : decode cX4_releaseFrom 17 = .ok (.iaload, 1) := by decide +kernel
theorem dX4_releaseFrom_18 : decode cX4_releaseFrom 18 = .ok (.invokestatic 141, 3) := by decide +kernel
theorem dX4_releaseFrom_21 : decode cX4_releaseFrom 21 = .ok (.iload_n 1, 1) := by decide +kernel
theorem dX4_releaseFrom_22 : decode cX4_releaseFrom 22 = .ok (.if_icmp .lt 33, 3) := by decide +kernel
theorem dX4_releaseFrom_25 : decode cX4_releaseFrom 25 = .ok (.aload_n 0, 1) := by decide +kernel
theorem dX4_releaseFrom_26 : decode cX4_releaseFrom 26 = .ok (.dup, 1) := by decide +kernel
theorem dX4_releaseFrom_27 : decode cX4_releaseFrom 27 = .ok (.getfield 29, 3) := by decide +kernel
theorem dX4_releaseFrom_30 : decode cX4_releaseFrom 30 = .ok (.iconst 1, 1) := by decide +kernel
theorem dX4_releaseFrom_31 : decode cX4_releaseFrom 31 = .ok (.isub, 1) := by decide +kernel
theorem dX4_releaseFrom_32 : decode cX4_releaseFrom 32 = .ok (.putfield 29, 3) := by decide +kernel
theorem dX4_releaseFrom_35 : decode cX4_releaseFrom 35 = .ok (.aload_n 0, 1) := by decide +kernel
theorem dX4_releaseFrom_36 : decode cX4_releaseFrom 36 = .ok (.getfield 12, 3) := by decide +kernel
theorem dX4_releaseFrom_39 : decode cX4_releaseFrom 39 = .ok (.aload_n 0, 1) := by decide +kernel
theorem dX4_releaseFrom_40 : decode cX4_releaseFrom 40 = .ok (.getfield 25, 3) := by decide +kernel
theorem dX4_releaseFrom_43 : decode cX4_releaseFrom 43 = .ok (.aload_n 0, 1) := by decide +kernel
theorem dX4_releaseFrom_44 : decode cX4_releaseFrom 44 = .ok (.getfield 29, 3) := by decide +kernel
theorem dX4_releaseFrom_47 : decode cX4_releaseFrom 47 = .ok (.iaload, 1) := by decide +kernel
theorem dX4_releaseFrom_48 : decode cX4_releaseFrom 48 = .ok (.ineg, 1) := by decide +kernel
theorem dX4_releaseFrom_49 : decode cX4_releaseFrom 49 = .ok (.invokevirtual 100, 3) := by decide +kernel
theorem dX4_releaseFrom_52 : decode cX4_releaseFrom 52 = .ok (.goto (-52), 3) := by decide +kernel
theorem dX4_releaseFrom_55 : decode cX4_releaseFrom 55 = .ok (.return_, 1) := by decide +kernel
theorem dX3_endAge_0 : decode cX3_endAge 0 = .ok (.aload_n 0, 1) := by decide +kernel
theorem dX3_endAge_1 : decode cX3_endAge 1 = .ok (.invokevirtual 36, 3) := by decide +kernel
theorem dX3_endAge_4 : decode cX3_endAge 4 = .ok (.ifCond .ne 16, 3) := by decide +kernel
theorem dX3_endAge_7 : decode cX3_endAge 7 = .ok (.aload_n 0, 1) := by decide +kernel
theorem dX3_endAge_8 : decode cX3_endAge 8 = .ok (.getfield 20, 3) := by decide +kernel
theorem dX3_endAge_11 : decode cX3_endAge 11 = .ok (.aload_n 0, 1) := by decide +kernel
theorem dX3_endAge_12 : decode cX3_endAge 12 = .ok (.getfield 33, 3) := by decide +kernel
theorem dX3_endAge_15 : decode cX3_endAge 15 = .ok (.aload_n 0, 1) := by decide +kernel
theorem dX3_endAge_16 : decode cX3_endAge 16 = .ok (.getfield 29, 3) := by decide +kernel
theorem dX3_endAge_19 : decode cX3_endAge 19 = .ok (.iastore, 1) := by decide +kernel
theorem dX3_endAge_20 : decode cX3_endAge 20 = .ok (.return_, 1) := by decide +kernel
theorem dX4_takeEndOfAge_0 : decode cX4_takeEndOfAge 0 = .ok (.aload_n 0, 1) := by decide +kernel
theorem dX4_takeEndOfAge_1 : decode cX4_takeEndOfAge 1 = .ok (.iconst 0, 1) := by decide +kernel
theorem dX4_takeEndOfAge_2 : decode cX4_takeEndOfAge 2 = .ok (.invokevirtual 132, 3) := by decide +kernel
theorem dX4_takeEndOfAge_5 : decode cX4_takeEndOfAge 5 = .ok (.aload_n 0, 1) := by decide +kernel
theorem dX4_takeEndOfAge_6 : decode cX4_takeEndOfAge 6 = .ok (.getfield 12, 3) := by decide +kernel
theorem dX4_takeEndOfAge_9 : decode cX4_takeEndOfAge 9 = .ok (.invokevirtual 135, 3) := by decide +kernel
theorem dX4_takeEndOfAge_12 : decode cX4_takeEndOfAge 12 = .ok (.return_, 1) := by decide +kernel
theorem dX3_endLine_0 : decode cX3_endLine 0 = .ok (.aload_n 0, 1) := by decide +kernel
theorem dX3_endLine_1 : decode cX3_endLine 1 = .ok (.invokevirtual 36, 3) := by decide +kernel
theorem dX3_endLine_4 : decode cX3_endLine 4 = .ok (.ifCond .ne 26, 3) := by decide +kernel
theorem dX3_endLine_7 : decode cX3_endLine 7 = .ok (.aload_n 0, 1) := by decide +kernel
theorem dX3_endLine_8 : decode cX3_endLine 8 = .ok (.getfield 23, 3) := by decide +kernel
theorem dX3_endLine_11 : decode cX3_endLine 11 = .ok (.aload_n 0, 1) := by decide +kernel
theorem dX3_endLine_12 : decode cX3_endLine 12 = .ok (.getfield 33, 3) := by decide +kernel
theorem dX3_endLine_15 : decode cX3_endLine 15 = .ok (.aload_n 0, 1) := by decide +kernel
theorem dX3_endLine_16 : decode cX3_endLine 16 = .ok (.getfield 29, 3) := by decide +kernel
theorem dX3_endLine_19 : decode cX3_endLine 19 = .ok (.iastore, 1) := by decide +kernel
theorem dX3_endLine_20 : decode cX3_endLine 20 = .ok (.aload_n 0, 1) := by decide +kernel
theorem dX3_endLine_21 : decode cX3_endLine 21 = .ok (.dup, 1) := by decide +kernel
theorem dX3_endLine_22 : decode cX3_endLine 22 = .ok (.getfield 33, 3) := by decide +kernel
theorem dX3_endLine_25 : decode cX3_endLine 25 = .ok (.iconst 1, 1) := by decide +kernel
theorem dX3_endLine_26 : decode cX3_endLine 26 = .ok (.iadd, 1) := by decide +kernel
theorem dX3_endLine_27 : decode cX3_endLine 27 = .ok (.putfield 33, 3) := by decide +kernel
theorem dX3_endLine_30 : decode cX3_endLine 30 = .ok (.return_, 1) := by decide +kernel
theorem dX4_takeEndOfLine_0 : decode cX4_takeEndOfLine 0 = .ok (.aload_n 0, 1) := by decide +kernel
theorem dX4_takeEndOfLine_1 : decode cX4_takeEndOfLine 1 = .ok (.iconst 0, 1) := by decide +kernel
theorem dX4_takeEndOfLine_2 : decode cX4_takeEndOfLine 2 = .ok (.invokevirtual 132, 3) := by decide +kernel
theorem dX4_takeEndOfLine_5 : decode cX4_takeEndOfLine 5 = .ok (.aload_n 0, 1) := by decide +kernel
theorem dX4_takeEndOfLine_6 : decode cX4_takeEndOfLine 6 = .ok (.getfield 12, 3) := by decide +kernel
theorem dX4_takeEndOfLine_9 : decode cX4_takeEndOfLine 9 = .ok (.invokevirtual 138, 3) := by decide +kernel
theorem dX4_takeEndOfLine_12 : decode cX4_takeEndOfLine 12 = .ok (.aload_n 0, 1) := by decide +kernel
theorem dX4_takeEndOfLine_13 : decode cX4_takeEndOfLine 13 = .ok (.iconst 0, 1) := by decide +kernel
theorem dX4_takeEndOfLine_14 : decode cX4_takeEndOfLine 14 = .ok (.putfield 33, 3) := by decide +kernel
theorem dX4_takeEndOfLine_17 : decode cX4_takeEndOfLine 17 = .ok (.return_, 1) := by decide +kernel
theorem dX4_putBinding_0 : decode cX4_putBinding 0 = .ok (.aload_n 0, 1) := by decide +kernel
theorem dX4_putBinding_1 : decode cX4_putBinding 1 = .ok (.iload_n 1, 1) := by decide +kernel
theorem dX4_putBinding_2 : decode cX4_putBinding 2 = .ok (.invokestatic 141, 3) := by decide +kernel
theorem dX4_putBinding_5 : decode cX4_putBinding 5 = .ok (.invokevirtual 132, 3) := by decide +kernel
theorem dX4_putBinding_8 : decode cX4_putBinding 8 = .ok (.aload_n 0, 1) := by decide +kernel
theorem dX4_putBinding_9 : decode cX4_putBinding 9 = .ok (.iload_n 1, 1) := by decide +kernel
theorem dX4_putBinding_10 : decode cX4_putBinding 10 = .ok (.invokevirtual 114, 3) := by decide +kernel
theorem dX4_putBinding_13 : decode cX4_putBinding 13 = .ok (.return_, 1) := by decide +kernel
theorem dX4_takeJoint_0 : decode cX4_takeJoint 0 = .ok (.aload_n 0, 1) := by decide +kernel
theorem dX4_takeJoint_1 : decode cX4_takeJoint 1 = .ok (.bipush 22, 2) := by decide +kernel
theorem dX4_takeJoint_3 : decode cX4_takeJoint 3 = .ok (.invokevirtual 110, 3) := by decide +kernel
theorem dX4_takeJoint_6 : decode cX4_takeJoint 6 = .ok (.ifCond .le 7, 3) := by decide +kernel
theorem dX4_takeJoint_9 : decode cX4_takeJoint 9 = .ok (.iconst 1, 1) := by decide +kernel
theorem dX4_takeJoint_10 : decode cX4_takeJoint 10 = .ok (.goto 4, 3) := by decide +kernel
theorem dX4_takeJoint_13 : decode cX4_takeJoint 13 = .ok (.iconst 0, 1) := by decide +kernel
theorem dX4_takeJoint_14 : decode cX4_takeJoint 14 = .ok (.istore_n 2, 1) := by decide +kernel
theorem dX4_takeJoint_15 : decode cX4_takeJoint 15 = .ok (.iload_n 1, 1) := by decide +kernel
theorem dX4_takeJoint_16 : decode cX4_takeJoint 16 = .ok (.bipush 6, 2) := by decide +kernel
theorem dX4_takeJoint_18 : decode cX4_takeJoint 18 = .ok (.if_icmp .eq 8, 3) := by decide +kernel
theorem dX4_takeJoint_21 : decode cX4_takeJoint 21 = .ok (.iload_n 1, 1) := by decide +kernel
theorem dX4_takeJoint_22 : decode cX4_takeJoint 22 = .ok (.iconst 5, 1) := by decide +kernel
theorem dX4_takeJoint_23 : decode cX4_takeJoint 23 = .ok (.if_icmp .ne 16, 3) := by decide +kernel
theorem dX4_takeJoint_26 : decode cX4_takeJoint 26 = .ok (.aload_n 0, 1) := by decide +kernel
theorem dX4_takeJoint_27 : decode cX4_takeJoint 27 = .ok (.iload_n 1, 1) := by decide +kernel
theorem dX4_takeJoint_28 : decode cX4_takeJoint 28 = .ok (.invokevirtual 120, 3) := by decide +kernel
theorem dX4_takeJoint_31 : decode cX4_takeJoint 31 = .ok (.aload_n 0, 1) := by decide +kernel
theorem dX4_takeJoint_32 : decode cX4_takeJoint 32 = .ok (.iconst 3, 1) := by decide +kernel
theorem dX4_takeJoint_33 : decode cX4_takeJoint 33 = .ok (.putfield 33, 3) := by decide +kernel
theorem dX4_takeJoint_36 : decode cX4_takeJoint 36 = .ok (.goto 58, 3) := by decide +kernel
theorem dX4_takeJoint_39 : decode cX4_takeJoint 39 = .ok (.iload_n 1, 1) := by decide +kernel
theorem dX4_takeJoint_40 : decode cX4_takeJoint 40 = .ok (.bipush 23, 2) := by decide +kernel
theorem dX4_takeJoint_42 : decode cX4_takeJoint 42 = .ok (.if_icmp .ne 30, 3) := by decide +kernel
theorem dX4_takeJoint_45 : decode cX4_takeJoint 45 = .ok (.iload_n 2, 1) := by decide +kernel
theorem dX4_takeJoint_46 : decode cX4_takeJoint 46 = .ok (.ifCond .eq 26, 3) := by decide +kernel
theorem dX4_takeJoint_49 : decode cX4_takeJoint 49 = .ok (.aload_n 0, 1) := by decide +kernel
theorem dX4_takeJoint_50 : decode cX4_takeJoint 50 = .ok (.iconst 1, 1) := by decide +kernel
theorem dX4_takeJoint_51 : decode cX4_takeJoint 51 = .ok (.invokevirtual 132, 3) := by decide +kernel
theorem dX4_takeJoint_54 : decode cX4_takeJoint 54 = .ok (.aload_n 0, 1) := by decide +kernel
theorem dX4_takeJoint_55 : decode cX4_takeJoint 55 = .ok (.dup, 1) := by decide +kernel
theorem dX4_takeJoint_56 : decode cX4_takeJoint 56 = .ok (.getfield 29, 3) := by decide +kernel
theorem dX4_takeJoint_59 : decode cX4_takeJoint 59 = .ok (.iconst 1, 1) := by decide +kernel
theorem dX4_takeJoint_60 : decode cX4_takeJoint 60 = .ok (.isub, 1) := by decide +kernel
theorem dX4_takeJoint_61 : decode cX4_takeJoint 61 = .ok (.putfield 29, 3) := by decide +kernel
theorem dX4_takeJoint_64 : decode cX4_takeJoint 64 = .ok (.aload_n 0, 1) := by decide +kernel
theorem dX4_takeJoint_65 : decode cX4_takeJoint 65 = .ok (.iconst 5, 1) := by decide +kernel
theorem dX4_takeJoint_66 : decode cX4_takeJoint 66 = .ok (.putfield 33, 3) := by decide +kernel
theorem dX4_takeJoint_69 : decode cX4_takeJoint 69 = .ok (.goto 25, 3) := by decide +kernel
theorem dX4_takeJoint_72 : decode cX4_takeJoint 72 = .ok (.iload_n 1, 1) := by decide +kernel
theorem dX4_takeJoint_73 : decode cX4_takeJoint 73 = .ok (.bipush 17, 2) := by decide +kernel
theorem dX4_takeJoint_75 : decode cX4_takeJoint 75 = .ok (.if_icmp .ne 14, 3) := by decide +kernel
theorem dX4_takeJoint_78 : decode cX4_takeJoint 78 = .ok (.iload_n 2, 1) := by decide +kernel
theorem dX4_takeJoint_79 : decode cX4_takeJoint 79 = .ok (.ifCond .ne 10, 3) := by decide +kernel
theorem dX4_takeJoint_82 : decode cX4_takeJoint 82 = .ok (.aload_n 0, 1) := by decide +kernel
theorem dX4_takeJoint_83 : decode cX4_takeJoint 83 = .ok (.invokevirtual 129, 3) := by decide +kernel
theorem dX4_takeJoint_86 : decode cX4_takeJoint 86 = .ok (.goto 8, 3) := by decide +kernel
theorem dX4_takeJoint_89 : decode cX4_takeJoint 89 = .ok (.aload_n 0, 1) := by decide +kernel
theorem dX4_takeJoint_90 : decode cX4_takeJoint 90 = .ok (.iconst 1, 1) := by decide +kernel
theorem dX4_takeJoint_91 : decode cX4_takeJoint 91 = .ok (.invokevirtual 87, 3) := by decide +kernel
theorem dX4_takeJoint_94 : decode cX4_takeJoint 94 = .ok (.return_, 1) := by decide +kernel
theorem dX4_takeOperator_0 : decode cX4_takeOperator 0 = .ok (.iload_n 1, 1) := by decide +kernel
theorem dX4_takeOperator_1 : decode cX4_takeOperator 1 = .ok (.invokestatic 117, 3) := by decide +kernel
theorem dX4_takeOperator_4 : decode cX4_takeOperator 4 = .ok (.ifCond .eq 26, 3) := by decide +kernel
theorem dX4_takeOperator_7 : decode cX4_takeOperator 7 = .ok (.aload_n 0, 1) := by decide +kernel
theorem dX4_takeOperator_8 : decode cX4_takeOperator 8 = .ok (.iload_n 1, 1) := by decide +kernel
theorem dX4_takeOperator_9 : decode cX4_takeOperator 9 = .ok (.invokevirtual 120, 3) := by decide +kernel
theorem dX4_takeOperator_12 : decode cX4_takeOperator 12 = .ok (.aload_n 0, 1) := by decide +kernel
theorem dX4_takeOperator_13 : decode cX4_takeOperator 13 = .ok (.iload_n 1, 1) := by decide +kernel
theorem dX4_takeOperator_14 : decode cX4_takeOperator 14 = .ok (.bipush 21, 2) := by decide +kernel
theorem dX4_takeOperator_16 : decode cX4_takeOperator 16 = .ok (.if_icmp .ne 7, 3) := by decide +kernel
theorem dX4_takeOperator_19 : decode cX4_takeOperator 19 = .ok (.iconst 2, 1) := by decide +kernel
theorem dX4_takeOperator_20 : decode cX4_takeOperator 20 = .ok (.goto 4, 3) := by decide +kernel
theorem dX4_takeOperator_23 : decode cX4_takeOperator 23 = .ok (.iconst 1, 1) := by decide +kernel
theorem dX4_takeOperator_24 : decode cX4_takeOperator 24 = .ok (.putfield 33, 3) := by decide +kernel
theorem dX4_takeOperator_27 : decode cX4_takeOperator 27 = .ok (.goto 105, 3) := by decide +kernel
theorem dX4_takeOperator_30 : decode cX4_takeOperator 30 = .ok (.aload_n 0, 1) := by decide +kernel
theorem dX4_takeOperator_31 : decode cX4_takeOperator 31 = .ok (.getfield 36, 3) := by decide +kernel
theorem dX4_takeOperator_34 : decode cX4_takeOperator 34 = .ok (.iconst 1, 1) := by decide +kernel
theorem dX4_takeOperator_35 : decode cX4_takeOperator 35 = .ok (.if_icmp .ne 28, 3) := by decide +kernel
theorem dX4_takeOperator_38 : decode cX4_takeOperator 38 = .ok (.iload_n 1, 1) := by decide +kernel
theorem dX4_takeOperator_39 : decode cX4_takeOperator 39 = .ok (.invokestatic 123, 3) := by decide +kernel
theorem dX4_takeOperator_42 : decode cX4_takeOperator 42 = .ok (.ifCond .eq 21, 3) := by decide +kernel
theorem dX4_takeOperator_45 : decode cX4_takeOperator 45 = .ok (.aload_n 0, 1) := by decide +kernel
theorem dX4_takeOperator_46 : decode cX4_takeOperator 46 = .ok (.iload_n 1, 1) := by decide +kernel
theorem dX4_takeOperator_47 : decode cX4_takeOperator 47 = .ok (.invokevirtual 120, 3) := by decide +kernel
theorem dX4_takeOperator_50 : decode cX4_takeOperator 50 = .ok (.aload_n 0, 1) := by decide +kernel
theorem dX4_takeOperator_51 : decode cX4_takeOperator 51 = .ok (.iconst 2, 1) := by decide +kernel
theorem dX4_takeOperator_52 : decode cX4_takeOperator 52 = .ok (.putfield 36, 3) := by decide +kernel
theorem dX4_takeOperator_55 : decode cX4_takeOperator 55 = .ok (.aload_n 0, 1) := by decide +kernel
theorem dX4_takeOperator_56 : decode cX4_takeOperator 56 = .ok (.iconst 1, 1) := by decide +kernel
theorem dX4_takeOperator_57 : decode cX4_takeOperator 57 = .ok (.putfield 33, 3) := by decide +kernel
theorem dX4_takeOperator_60 : decode cX4_takeOperator 60 = .ok (.goto 72, 3) := by decide +kernel
theorem dX4_takeOperator_63 : decode cX4_takeOperator 63 = .ok (.aload_n 0, 1) := by decide +kernel
theorem dX4_takeOperator_64 : decode cX4_takeOperator 64 = .ok (.getfield 36, 3) := by decide +kernel
theorem dX4_takeOperator_67 : decode cX4_takeOperator 67 = .ok (.ifCond .ne 20, 3) := by decide +kernel
theorem dX4_takeOperator_70 : decode cX4_takeOperator 70 = .ok (.iload_n 1, 1) := by decide +kernel
theorem dX4_takeOperator_71 : decode cX4_takeOperator 71 = .ok (.iconst 4, 1) := by decide +kernel
theorem dX4_takeOperator_72 : decode cX4_takeOperator 72 = .ok (.if_icmp .ne 15, 3) := by decide +kernel
theorem dX4_takeOperator_75 : decode cX4_takeOperator 75 = .ok (.aload_n 0, 1) := by decide +kernel
theorem dX4_takeOperator_76 : decode cX4_takeOperator 76 = .ok (.invokevirtual 126, 3) := by decide +kernel
theorem dX4_takeOperator_79 : decode cX4_takeOperator 79 = .ok (.aload_n 0, 1) := by decide +kernel
theorem dX4_takeOperator_80 : decode cX4_takeOperator 80 = .ok (.iconst 3, 1) := by decide +kernel
theorem dX4_takeOperator_81 : decode cX4_takeOperator 81 = .ok (.putfield 33, 3) := by decide +kernel
theorem dX4_takeOperator_84 : decode cX4_takeOperator 84 = .ok (.goto 48, 3) := by decide +kernel
theorem dX4_takeOperator_87 : decode cX4_takeOperator 87 = .ok (.aload_n 0, 1) := by decide +kernel
theorem dX4_takeOperator_88 : decode cX4_takeOperator 88 = .ok (.getfield 36, 3) := by decide +kernel
theorem dX4_takeOperator_91 : decode cX4_takeOperator 91 = .ok (.ifCond .ne 20, 3) := by decide +kernel
theorem dX4_takeOperator_94 : decode cX4_takeOperator 94 = .ok (.iload_n 1, 1) := by decide +kernel
theorem dX4_takeOperator_95 : decode cX4_takeOperator 95 = .ok (.bipush 17, 2) := by decide +kernel
theorem dX4_takeOperator_97 : decode cX4_takeOperator 97 = .ok (.if_icmp .ne 14, 3) := by decide +kernel
theorem dX4_takeOperator_100 : decode cX4_takeOperator 100 = .ok (.aload_n 0, 1) := by decide +kernel
theorem dX4_takeOperator_101 : decode cX4_takeOperator 101 = .ok (.invokevirtual 126, 3) := by decide +kernel
theorem dX4_takeOperator_104 : decode cX4_takeOperator 104 = .ok (.aload_n 0, 1) := by decide +kernel
theorem dX4_takeOperator_105 : decode cX4_takeOperator 105 = .ok (.invokevirtual 129, 3) := by decide +kernel
theorem dX4_takeOperator_108 : decode cX4_takeOperator 108 = .ok (.goto 24, 3) := by decide +kernel
theorem dX4_takeOperator_111 : decode cX4_takeOperator 111 = .ok (.aload_n 0, 1) := by decide +kernel
theorem dX4_takeOperator_112 : decode cX4_takeOperator 112 = .ok (.getfield 36, 3) := by decide +kernel
theorem dX4_takeOperator_115 : decode cX4_takeOperator 115 = .ok (.iconst 2, 1) := by decide +kernel
theorem dX4_takeOperator_116 : decode cX4_takeOperator 116 = .ok (.if_icmp .ne 11, 3) := by decide +kernel
theorem dX4_takeOperator_119 : decode cX4_takeOperator 119 = .ok (.aload_n 0, 1) := by decide +kernel
theorem dX4_takeOperator_120 : decode cX4_takeOperator 120 = .ok (.iload_n 1, 1) := by decide +kernel
theorem dX4_takeOperator_121 : decode cX4_takeOperator 121 = .ok (.invokevirtual 77, 3) := by decide +kernel
theorem dX4_takeOperator_124 : decode cX4_takeOperator 124 = .ok (.goto 8, 3) := by decide +kernel
theorem dX4_takeOperator_127 : decode cX4_takeOperator 127 = .ok (.aload_n 0, 1) := by decide +kernel
theorem dX4_takeOperator_128 : decode cX4_takeOperator 128 = .ok (.iconst 1, 1) := by decide +kernel
theorem dX4_takeOperator_129 : decode cX4_takeOperator 129 = .ok (.invokevirtual 87, 3) := by decide +kernel
theorem dX4_takeOperator_132 : decode cX4_takeOperator 132 = .ok (.return_, 1) := by decide +kernel
theorem dX4_readAll_0 : decode cX4_readAll 0 = .ok (.aload_n 0, 1) := by decide +kernel
theorem dX4_readAll_1 : decode cX4_readAll 1 = .ok (.invokevirtual 49, 3) := by decide +kernel
theorem dX4_readAll_4 : decode cX4_readAll 4 = .ok (.iconst 0, 1) := by decide +kernel
theorem dX4_readAll_5 : decode cX4_readAll 5 = .ok (.istore_n 2, 1) := by decide +kernel
theorem dX4_readAll_6 : decode cX4_readAll 6 = .ok (.iload_n 2, 1) := by decide +kernel
theorem dX4_readAll_7 : decode cX4_readAll 7 = .ok (.sipush 400, 3) := by decide +kernel
theorem dX4_readAll_10 : decode cX4_readAll 10 = .ok (.if_icmp .gt 145, 3) := by decide +kernel
theorem dX4_readAll_13 : decode cX4_readAll 13 = .ok (.aload_n 0, 1) := by decide +kernel
theorem dX4_readAll_14 : decode cX4_readAll 14 = .ok (.getfield 39, 3) := by decide +kernel
theorem dX4_readAll_17 : decode cX4_readAll 17 = .ok (.ifCond .ne 138, 3) := by decide +kernel
theorem dX4_readAll_20 : decode cX4_readAll 20 = .ok (.aload_n 0, 1) := by decide +kernel
theorem dX4_readAll_21 : decode cX4_readAll 21 = .ok (.getfield 21, 3) := by decide +kernel
theorem dX4_readAll_24 : decode cX4_readAll 24 = .ok (.aload_n 1, 1) := by decide +kernel
theorem dX4_readAll_25 : decode cX4_readAll 25 = .ok (.invokevirtual 54, 3) := by decide +kernel
theorem dX4_readAll_28 : decode cX4_readAll 28 = .ok (.aload_n 0, 1) := by decide +kernel
theorem dX4_readAll_29 : decode cX4_readAll 29 = .ok (.getfield 33, 3) := by decide +kernel
theorem dX4_readAll_32 : decode cX4_readAll 32 = .ok (.tableswitch 106 0 4 #[36, 50, 64, 78, 92], 36) := by decide +kernel
theorem dX4_readAll_68 : decode cX4_readAll 68 = .ok (.aload_n 0, 1) := by decide +kernel
theorem dX4_readAll_69 : decode cX4_readAll 69 = .ok (.aload_n 0, 1) := by decide +kernel
theorem dX4_readAll_70 : decode cX4_readAll 70 = .ok (.getfield 21, 3) := by decide +kernel
theorem dX4_readAll_73 : decode cX4_readAll 73 = .ok (.getfield 58, 3) := by decide +kernel
theorem dX4_readAll_76 : decode cX4_readAll 76 = .ok (.invokevirtual 61, 3) := by decide +kernel
theorem dX4_readAll_79 : decode cX4_readAll 79 = .ok (.goto 70, 3) := by decide +kernel
theorem dX4_readAll_82 : decode cX4_readAll 82 = .ok (.aload_n 0, 1) := by decide +kernel
theorem dX4_readAll_83 : decode cX4_readAll 83 = .ok (.aload_n 0, 1) := by decide +kernel
theorem dX4_readAll_84 : decode cX4_readAll 84 = .ok (.getfield 21, 3) := by decide +kernel
theorem dX4_readAll_87 : decode cX4_readAll 87 = .ok (.getfield 58, 3) := by decide +kernel
theorem dX4_readAll_90 : decode cX4_readAll 90 = .ok (.invokevirtual 65, 3) := by decide +kernel
theorem dX4_readAll_93 : decode cX4_readAll 93 = .ok (.goto 56, 3) := by decide +kernel
theorem dX4_readAll_96 : decode cX4_readAll 96 = .ok (.aload_n 0, 1) := by decide +kernel
theorem dX4_readAll_97 : decode cX4_readAll 97 = .ok (.aload_n 0, 1) := by decide +kernel
theorem dX4_readAll_98 : decode cX4_readAll 98 = .ok (.getfield 21, 3) := by decide +kernel
theorem dX4_readAll_101 : decode cX4_readAll 101 = .ok (.getfield 58, 3) := by decide +kernel
theorem dX4_readAll_104 : decode cX4_readAll 104 = .ok (.invokevirtual 68, 3) := by decide +kernel
theorem dX4_readAll_107 : decode cX4_readAll 107 = .ok (.goto 42, 3) := by decide +kernel
theorem dX4_readAll_110 : decode cX4_readAll 110 = .ok (.aload_n 0, 1) := by decide +kernel
theorem dX4_readAll_111 : decode cX4_readAll 111 = .ok (.aload_n 0, 1) := by decide +kernel
theorem dX4_readAll_112 : decode cX4_readAll 112 = .ok (.getfield 21, 3) := by decide +kernel
theorem dX4_readAll_115 : decode cX4_readAll 115 = .ok (.getfield 58, 3) := by decide +kernel
theorem dX4_readAll_118 : decode cX4_readAll 118 = .ok (.invokevirtual 71, 3) := by decide +kernel
theorem dX4_readAll_121 : decode cX4_readAll 121 = .ok (.goto 28, 3) := by decide +kernel
theorem dX4_readAll_124 : decode cX4_readAll 124 = .ok (.aload_n 0, 1) := by decide +kernel
theorem dX4_readAll_125 : decode cX4_readAll 125 = .ok (.aload_n 0, 1) := by decide +kernel
theorem dX4_readAll_126 : decode cX4_readAll 126 = .ok (.getfield 21, 3) := by decide +kernel
theorem dX4_readAll_129 : decode cX4_readAll 129 = .ok (.getfield 58, 3) := by decide +kernel
theorem dX4_readAll_132 : decode cX4_readAll 132 = .ok (.invokevirtual 74, 3) := by decide +kernel
theorem dX4_readAll_135 : decode cX4_readAll 135 = .ok (.goto 14, 3) := by decide +kernel
theorem dX4_readAll_138 : decode cX4_readAll 138 = .ok (.aload_n 0, 1) := by decide +kernel
theorem dX4_readAll_139 : decode cX4_readAll 139 = .ok (.aload_n 0, 1) := by decide +kernel
theorem dX4_readAll_140 : decode cX4_readAll 140 = .ok (.getfield 21, 3) := by decide +kernel
theorem dX4_readAll_143 : decode cX4_readAll 143 = .ok (.getfield 58, 3) := by decide +kernel
theorem dX4_readAll_146 : decode cX4_readAll 146 = .ok (.invokevirtual 77, 3) := by decide +kernel
theorem dX4_readAll_149 : decode cX4_readAll 149 = .ok (.iinc 2 1, 3) := by decide +kernel
theorem dX4_readAll_152 : decode cX4_readAll 152 = .ok (.goto (-146), 3) := by decide +kernel
theorem dX4_readAll_155 : decode cX4_readAll 155 = .ok (.aload_n 0, 1) := by decide +kernel
theorem dX4_readAll_156 : decode cX4_readAll 156 = .ok (.getfield 43, 3) := by decide +kernel
theorem dX4_readAll_159 : decode cX4_readAll 159 = .ok (.ifCond .ne 7, 3) := by decide +kernel
theorem dX4_readAll_162 : decode cX4_readAll 162 = .ok (.iconst 1, 1) := by decide +kernel
theorem dX4_readAll_163 : decode cX4_readAll 163 = .ok (.goto 4, 3) := by decide +kernel
theorem dX4_readAll_166 : decode cX4_readAll 166 = .ok (.iconst 0, 1) := by decide +kernel
theorem dX4_readAll_167 : decode cX4_readAll 167 = .ok (.ireturn, 1) := by decide +kernel
theorem dX3_copyFrom_0 : decode cX3_copyFrom 0 = .ok (.aload_n 1, 1) := by decide +kernel
theorem dX3_copyFrom_1 : decode cX3_copyFrom 1 = .ok (.getfield 11, 3) := by decide +kernel
theorem dX3_copyFrom_4 : decode cX3_copyFrom 4 = .ok (.iconst 0, 1) := by decide +kernel
theorem dX3_copyFrom_5 : decode cX3_copyFrom 5 = .ok (.aload_n 0, 1) := by decide +kernel
theorem dX3_copyFrom_6 : decode cX3_copyFrom 6 = .ok (.getfield 11, 3) := by decide +kernel
theorem dX3_copyFrom_9 : decode cX3_copyFrom 9 = .ok (.iconst 0, 1) := by decide +kernel
theorem dX3_copyFrom_10 : decode cX3_copyFrom 10 = .ok (.sipush 400, 3) := by decide +kernel
theorem dX3_copyFrom_13 : decode cX3_copyFrom 13 = .ok (.invokestatic 71, 3) := by decide +kernel
theorem dX3_copyFrom_16 : decode cX3_copyFrom 16 = .ok (.aload_n 1, 1) := by decide +kernel
theorem dX3_copyFrom_17 : decode cX3_copyFrom 17 = .ok (.getfield 17, 3) := by decide +kernel
theorem dX3_copyFrom_20 : decode cX3_copyFrom 20 = .ok (.iconst 0, 1) := by decide +kernel
theorem dX3_copyFrom_21 : decode cX3_copyFrom 21 = .ok (.aload_n 0, 1) := by decide +kernel
theorem dX3_copyFrom_22 : decode cX3_copyFrom 22 = .ok (.getfield 17, 3) := by decide +kernel
theorem dX3_copyFrom_25 : decode cX3_copyFrom 25 = .ok (.iconst 0, 1) := by decide +kernel
theorem dX3_copyFrom_26 : decode cX3_copyFrom 26 = .ok (.bipush 16, 2) := by decide +kernel
theorem dX3_copyFrom_28 : decode cX3_copyFrom 28 = .ok (.invokestatic 71, 3) := by decide +kernel
theorem dX3_copyFrom_31 : decode cX3_copyFrom 31 = .ok (.aload_n 1, 1) := by decide +kernel
theorem dX3_copyFrom_32 : decode cX3_copyFrom 32 = .ok (.getfield 20, 3) := by decide +kernel
theorem dX3_copyFrom_35 : decode cX3_copyFrom 35 = .ok (.iconst 0, 1) := by decide +kernel
theorem dX3_copyFrom_36 : decode cX3_copyFrom 36 = .ok (.aload_n 0, 1) := by decide +kernel
theorem dX3_copyFrom_37 : decode cX3_copyFrom 37 = .ok (.getfield 20, 3) := by decide +kernel
theorem dX3_copyFrom_40 : decode cX3_copyFrom 40 = .ok (.iconst 0, 1) := by decide +kernel
theorem dX3_copyFrom_41 : decode cX3_copyFrom 41 = .ok (.bipush 16, 2) := by decide +kernel
theorem dX3_copyFrom_43 : decode cX3_copyFrom 43 = .ok (.invokestatic 71, 3) := by decide +kernel
theorem dX3_copyFrom_46 : decode cX3_copyFrom 46 = .ok (.aload_n 1, 1) := by decide +kernel
theorem dX3_copyFrom_47 : decode cX3_copyFrom 47 = .ok (.getfield 23, 3) := by decide +kernel
theorem dX3_copyFrom_50 : decode cX3_copyFrom 50 = .ok (.iconst 0, 1) := by decide +kernel
theorem dX3_copyFrom_51 : decode cX3_copyFrom 51 = .ok (.aload_n 0, 1) := by decide +kernel
theorem dX3_copyFrom_52 : decode cX3_copyFrom 52 = .ok (.getfield 23, 3) := by decide +kernel
theorem dX3_copyFrom_55 : decode cX3_copyFrom 55 = .ok (.iconst 0, 1) := by decide +kernel
theorem dX3_copyFrom_56 : decode cX3_copyFrom 56 = .ok (.bipush 16, 2) := by decide +kernel
theorem dX3_copyFrom_58 : decode cX3_copyFrom 58 = .ok (.invokestatic 71, 3) := by decide +kernel
theorem dX3_copyFrom_61 : decode cX3_copyFrom 61 = .ok (.aload_n 0, 1) := by decide +kernel
theorem dX3_copyFrom_62 : decode cX3_copyFrom 62 = .ok (.aload_n 1, 1) := by decide +kernel
theorem dX3_copyFrom_63 : decode cX3_copyFrom 63 = .ok (.getfield 29, 3) := by decide +kernel
theorem dX3_copyFrom_66 : decode cX3_copyFrom 66 = .ok (.putfield 29, 3) := by decide +kernel
theorem dX3_copyFrom_69 : decode cX3_copyFrom 69 = .ok (.aload_n 0, 1) := by decide +kernel
theorem dX3_copyFrom_70 : decode cX3_copyFrom 70 = .ok (.aload_n 1, 1) := by decide +kernel
theorem dX3_copyFrom_71 : decode cX3_copyFrom 71 = .ok (.getfield 33, 3) := by decide +kernel
theorem dX3_copyFrom_74 : decode cX3_copyFrom 74 = .ok (.putfield 33, 3) := by decide +kernel
theorem dX3_copyFrom_77 : decode cX3_copyFrom 77 = .ok (.return_, 1) := by decide +kernel
theorem dX11_text_0 : decode cX11_text 0 = .ok (.aload_n 0, 1) := by decide +kernel
theorem dX11_text_1 : decode cX11_text 1 = .ok (.getfield 33, 3) := by decide +kernel
theorem dX11_text_4 : decode cX11_text 4 = .ok (.aload_n 0, 1) := by decide +kernel
theorem dX11_text_5 : decode cX11_text 5 = .ok (.getfield 26, 3) := by decide +kernel
theorem dX11_text_8 : decode cX11_text 8 = .ok (.invokevirtual 164, 3) := by decide +kernel
theorem dX11_text_11 : decode cX11_text 11 = .ok (.istore_n 1, 1) := by decide +kernel
theorem dX11_text_12 : decode cX11_text 12 = .ok (.aload_n 0, 1) := by decide +kernel
theorem dX11_text_13 : decode cX11_text 13 = .ok (.getfield 26, 3) := by decide +kernel
theorem dX11_text_16 : decode cX11_text 16 = .ok (.iconst 0, 1) := by decide +kernel
theorem dX11_text_17 : decode cX11_text 17 = .ok (.putfield 161, 3) := by decide +kernel
theorem dX11_text_20 : decode cX11_text 20 = .ok (.iload_n 1, 1) := by decide +kernel
theorem dX11_text_21 : decode cX11_text 21 = .ok (.ifCond .ne 5, 3) := by decide +kernel
theorem dX11_text_24 : decode cX11_text 24 = .ok (.iconst (-1), 1) := by decide +kernel
theorem dX11_text_25 : decode cX11_text 25 = .ok (.ireturn, 1) := by decide +kernel
theorem dX11_text_26 : decode cX11_text 26 = .ok (.aload_n 0, 1) := by decide +kernel
theorem dX11_text_27 : decode cX11_text 27 = .ok (.getfield 10, 3) := by decide +kernel
theorem dX11_text_30 : decode cX11_text 30 = .ok (.getfield 168, 3) := by decide +kernel
theorem dX11_text_33 : decode cX11_text 33 = .ok (.aload_n 0, 1) := by decide +kernel
theorem dX11_text_34 : decode cX11_text 34 = .ok (.getfield 33, 3) := by decide +kernel
theorem dX11_text_37 : decode cX11_text 37 = .ok (.getfield 172, 3) := by decide +kernel
theorem dX11_text_40 : decode cX11_text 40 = .ok (.invokevirtual 175, 3) := by decide +kernel
theorem dX11_text_43 : decode cX11_text 43 = .ok (.aload_n 0, 1) := by decide +kernel
theorem dX11_text_44 : decode cX11_text 44 = .ok (.getfield 10, 3) := by decide +kernel
theorem dX11_text_47 : decode cX11_text 47 = .ok (.getfield 168, 3) := by decide +kernel
theorem dX11_text_50 : decode cX11_text 50 = .ok (.getfield 181, 3) := by decide +kernel
theorem dX11_text_53 : decode cX11_text 53 = .ok (.ireturn, 1) := by decide +kernel
theorem dX11_fault_0 : decode cX11_fault 0 = .ok (.iload_n 1, 1) := by decide +kernel
theorem dX11_fault_1 : decode cX11_fault 1 = .ok (.lookupswitch 43 #[(0, 27), (1, 35)], 27) := by decide +kernel
theorem dX11_fault_28 : decode cX11_fault 28 = .ok (.aload_n 0, 1) := by decide +kernel
theorem dX11_fault_29 : decode cX11_fault 29 = .ok (.getfield 33, 3) := by decide +kernel
theorem dX11_fault_32 : decode cX11_fault 32 = .ok (.getfield 184, 3) := by decide +kernel
theorem dX11_fault_35 : decode cX11_fault 35 = .ok (.ireturn, 1) := by decide +kernel
theorem dX11_fault_36 : decode cX11_fault 36 = .ok (.aload_n 0, 1) := by decide +kernel
theorem dX11_fault_37 : decode cX11_fault 37 = .ok (.getfield 33, 3) := by decide +kernel
theorem dX11_fault_40 : decode cX11_fault 40 = .ok (.getfield 187, 3) := by decide +kernel
theorem dX11_fault_43 : decode cX11_fault 43 = .ok (.ireturn, 1) := by decide +kernel
theorem dX11_fault_44 : decode cX11_fault 44 = .ok (.iconst (-1), 1) := by decide +kernel
theorem dX11_fault_45 : decode cX11_fault 45 = .ok (.ireturn, 1) := by decide +kernel
theorem dX11_age_0 : decode cX11_age 0 = .ok (.aload_n 0, 1) := by decide +kernel
theorem dX11_age_1 : decode cX11_age 1 = .ok (.getfield 10, 3) := by decide +kernel
theorem dX11_age_4 : decode cX11_age 4 = .ok (.iload_n 1, 1) := by decide +kernel
theorem dX11_age_5 : decode cX11_age 5 = .ok (.invokevirtual 102, 3) := by decide +kernel
theorem dX11_age_8 : decode cX11_age 8 = .ok (.astore_n 3, 1) := by decide +kernel
theorem dX11_age_9 : decode cX11_age 9 = .ok (.aload_n 3, 1) := by decide +kernel
theorem dX11_age_10 : decode cX11_age 10 = .ok (.ifnull 20, 3) := by decide +kernel
theorem dX11_age_13 : decode cX11_age 13 = .ok (.iload_n 2, 1) := by decide +kernel
theorem dX11_age_14 : decode cX11_age 14 = .ok (.aload_n 0, 1) := by decide +kernel
theorem dX11_age_15 : decode cX11_age 15 = .ok (.getfield 10, 3) := by decide +kernel
theorem dX11_age_18 : decode cX11_age 18 = .ok (.getfield 80, 3) := by decide +kernel
theorem dX11_age_21 : decode cX11_age 21 = .ok (.sipush 9999, 3) := by decide +kernel
theorem dX11_age_24 : decode cX11_age 24 = .ok (.invokestatic 56, 3) := by decide +kernel
theorem dX11_age_27 : decode cX11_age 27 = .ok (.ifCond .ne 5, 3) := by decide +kernel
theorem dX11_age_30 : decode cX11_age 30 = .ok (.iconst (-1), 1) := by decide +kernel
theorem dX11_age_31 : decode cX11_age 31 = .ok (.ireturn, 1) := by decide +kernel
theorem dX11_age_32 : decode cX11_age 32 = .ok (.aload_n 0, 1) := by decide +kernel
theorem dX11_age_33 : decode cX11_age 33 = .ok (.getfield 10, 3) := by decide +kernel
theorem dX11_age_36 : decode cX11_age 36 = .ok (.aload_n 3, 1) := by decide +kernel
theorem dX11_age_37 : decode cX11_age 37 = .ok (.iload_n 2, 1) := by decide +kernel
theorem dX11_age_38 : decode cX11_age 38 = .ok (.invokevirtual 120, 3) := by decide +kernel
theorem dX11_age_41 : decode cX11_age 41 = .ok (.ireturn, 1) := by decide +kernel
theorem dX0_stayOf_0 : decode cX0_stayOf 0 = .ok (.aload_n 0, 1) := by decide +kernel
theorem dX0_stayOf_1 : decode cX0_stayOf 1 = .ok (.aload_n 1, 1) := by decide +kernel
theorem dX0_stayOf_2 : decode cX0_stayOf 2 = .ok (.aload_n 0, 1) := by decide +kernel
theorem dX0_stayOf_3 : decode cX0_stayOf 3 = .ok (.getfield 57, 3) := by decide +kernel
theorem dX0_stayOf_6 : decode cX0_stayOf 6 = .ok (.invokevirtual 112, 3) := by decide +kernel
theorem dX0_stayOf_9 : decode cX0_stayOf 9 = .ok (.istore_n 2, 1) := by decide +kernel
theorem dX0_stayOf_10 : decode cX0_stayOf 10 = .ok (.iconst 1, 1) := by decide +kernel
theorem dX0_stayOf_11 : decode cX0_stayOf 11 = .ok (.istore_n 3, 1) := by decide +kernel
theorem dX0_stayOf_12 : decode cX0_stayOf 12 = .ok (.iload_n 3, 1) := by decide +kernel
theorem dX0_stayOf_13 : decode cX0_stayOf 13 = .ok (.sipush 400, 3) := by decide +kernel
theorem dX0_stayOf_16 : decode cX0_stayOf 16 = .ok (.if_icmp .ge 24, 3) := by decide +kernel
theorem dX0_stayOf_19 : decode cX0_stayOf 19 = .ok (.aload_n 0, 1) := by decide +kernel
theorem dX0_stayOf_20 : decode cX0_stayOf 20 = .ok (.aload_n 1, 1) := by decide +kernel
theorem dX0_stayOf_21 : decode cX0_stayOf 21 = .ok (.aload_n 0, 1) := by decide +kernel
theorem dX0_stayOf_22 : decode cX0_stayOf 22 = .ok (.getfield 57, 3) := by decide +kernel
theorem dX0_stayOf_25 : decode cX0_stayOf 25 = .ok (.iload_n 3, 1) := by decide +kernel
theorem dX0_stayOf_26 : decode cX0_stayOf 26 = .ok (.iadd, 1) := by decide +kernel
theorem dX0_stayOf_27 : decode cX0_stayOf 27 = .ok (.invokevirtual 112, 3) := by decide +kernel
theorem dX0_stayOf_30 : decode cX0_stayOf 30 = .ok (.iload_n 2, 1) := by decide +kernel
theorem dX0_stayOf_31 : decode cX0_stayOf 31 = .ok (.if_icmp .ne 9, 3) := by decide +kernel
theorem dX0_stayOf_34 : decode cX0_stayOf 34 = .ok (.iinc 3 1, 3) := by decide +kernel
theorem dX0_stayOf_37 : decode cX0_stayOf 37 = .ok (.goto (-25), 3) := by decide +kernel
theorem dX0_stayOf_40 : decode cX0_stayOf 40 = .ok (.iload_n 3, 1) := by decide +kernel
theorem dX0_stayOf_41 : decode cX0_stayOf 41 = .ok (.ireturn, 1) := by decide +kernel
theorem dX11_of_0 : decode cX11_of 0 = .ok (.aload_n 0, 1) := by decide +kernel
theorem dX11_of_1 : decode cX11_of 1 = .ok (.getfield 10, 3) := by decide +kernel
theorem dX11_of_4 : decode cX11_of 4 = .ok (.iload_n 1, 1) := by decide +kernel
theorem dX11_of_5 : decode cX11_of 5 = .ok (.invokevirtual 102, 3) := by decide +kernel
theorem dX11_of_8 : decode cX11_of 8 = .ok (.astore_n 3, 1) := by decide +kernel
theorem dX11_of_9 : decode cX11_of 9 = .ok (.aload_n 3, 1) := by decide +kernel
theorem dX11_of_10 : decode cX11_of 10 = .ok (.ifnonnull 6, 3) := by decide +kernel
theorem dX11_of_13 : decode cX11_of 13 = .ok (.bipush (-2), 2) := by decide +kernel
theorem dX11_of_15 : decode cX11_of 15 = .ok (.ireturn, 1) := by decide +kernel
theorem dX11_of_16 : decode cX11_of 16 = .ok (.iload_n 2, 1) := by decide +kernel
theorem dX11_of_17 : decode cX11_of 17 = .ok (.tableswitch 91 0 7 #[47, 52, 57, 62, 67, 72, 77, 82], 47) := by decide +kernel
theorem dX11_of_64 : decode cX11_of 64 = .ok (.aload_n 3, 1) := by decide +kernel
theorem dX11_of_65 : decode cX11_of 65 = .ok (.getfield 106, 3) := by decide +kernel
theorem dX11_of_68 : decode cX11_of 68 = .ok (.ireturn, 1) := by decide +kernel
theorem dX11_of_69 : decode cX11_of 69 = .ok (.aload_n 3, 1) := by decide +kernel
theorem dX11_of_70 : decode cX11_of 70 = .ok (.getfield 190, 3) := by decide +kernel
theorem dX11_of_73 : decode cX11_of 73 = .ok (.ireturn, 1) := by decide +kernel
theorem dX11_of_74 : decode cX11_of 74 = .ok (.aload_n 3, 1) := by decide +kernel
theorem dX11_of_75 : decode cX11_of 75 = .ok (.getfield 193, 3) := by decide +kernel
theorem dX11_of_78 : decode cX11_of 78 = .ok (.ireturn, 1) := by decide +kernel
theorem dX11_of_79 : decode cX11_of 79 = .ok (.aload_n 3, 1) := by decide +kernel
theorem dX11_of_80 : decode cX11_of 80 = .ok (.getfield 196, 3) := by decide +kernel
theorem dX11_of_83 : decode cX11_of 83 = .ok (.ireturn, 1) := by decide +kernel
theorem dX11_of_84 : decode cX11_of 84 = .ok (.aload_n 3, 1) := by decide +kernel
theorem dX11_of_85 : decode cX11_of 85 = .ok (.getfield 199, 3) := by decide +kernel
theorem dX11_of_88 : decode cX11_of 88 = .ok (.ireturn, 1) := by decide +kernel
theorem dX11_of_89 : decode cX11_of 89 = .ok (.aload_n 3, 1) := by decide +kernel
theorem dX11_of_90 : decode cX11_of 90 = .ok (.getfield 202, 3) := by decide +kernel
theorem dX11_of_93 : decode cX11_of 93 = .ok (.ireturn, 1) := by decide +kernel
theorem dX11_of_94 : decode cX11_of 94 = .ok (.aload_n 3, 1) := by decide +kernel
theorem dX11_of_95 : decode cX11_of 95 = .ok (.getfield 148, 3) := by decide +kernel
theorem dX11_of_98 : decode cX11_of 98 = .ok (.ireturn, 1) := by decide +kernel
theorem dX11_of_99 : decode cX11_of 99 = .ok (.aload_n 0, 1) := by decide +kernel
theorem dX11_of_100 : decode cX11_of 100 = .ok (.getfield 10, 3) := by decide +kernel
theorem dX11_of_103 : decode cX11_of 103 = .ok (.aload_n 3, 1) := by decide +kernel
theorem dX11_of_104 : decode cX11_of 104 = .ok (.invokevirtual 205, 3) := by decide +kernel
theorem dX11_of_107 : decode cX11_of 107 = .ok (.ireturn, 1) := by decide +kernel
theorem dX11_of_108 : decode cX11_of 108 = .ok (.bipush (-2), 2) := by decide +kernel
theorem dX11_of_110 : decode cX11_of 110 = .ok (.ireturn, 1) := by decide +kernel
theorem dX11_who_0 : decode cX11_who 0 = .ok (.aload_n 0, 1) := by decide +kernel
theorem dX11_who_1 : decode cX11_who 1 = .ok (.getfield 10, 3) := by decide +kernel
theorem dX11_who_4 : decode cX11_who 4 = .ok (.iload_n 1, 1) := by decide +kernel
theorem dX11_who_5 : decode cX11_who 5 = .ok (.invokevirtual 76, 3) := by decide +kernel
theorem dX11_who_8 : decode cX11_who 8 = .ok (.astore_n 3, 1) := by decide +kernel
theorem dX11_who_9 : decode cX11_who 9 = .ok (.aload_n 3, 1) := by decide +kernel
theorem dX11_who_10 : decode cX11_who 10 = .ok (.ifnonnull 6, 3) := by decide +kernel
theorem dX11_who_13 : decode cX11_who 13 = .ok (.ldc 209, 2) := by decide +kernel
theorem dX11_who_15 : decode cX11_who 15 = .ok (.ireturn, 1) := by decide +kernel
theorem dX11_who_16 : decode cX11_who 16 = .ok (.iload_n 2, 1) := by decide +kernel
theorem dX11_who_17 : decode cX11_who 17 = .ok (.tableswitch 113 0 7 #[47, 52, 57, 62, 67, 72, 92, 104], 47) := by decide +kernel
theorem dX11_who_64 : decode cX11_who 64 = .ok (.aload_n 3, 1) := by decide +kernel
theorem dX11_who_65 : decode cX11_who 65 = .ok (.getfield 210, 3) := by decide +kernel
theorem dX11_who_68 : decode cX11_who 68 = .ok (.ireturn, 1) := by decide +kernel
theorem dX11_who_69 : decode cX11_who 69 = .ok (.aload_n 3, 1) := by decide +kernel
theorem dX11_who_70 : decode cX11_who 70 = .ok (.getfield 213, 3) := by decide +kernel
theorem dX11_who_73 : decode cX11_who 73 = .ok (.ireturn, 1) := by decide +kernel
theorem dX11_who_74 : decode cX11_who 74 = .ok (.aload_n 3, 1) := by decide +kernel
theorem dX11_who_75 : decode cX11_who 75 = .ok (.getfield 216, 3) := by decide +kernel
theorem dX11_who_78 : decode cX11_who 78 = .ok (.ireturn, 1) := by decide +kernel
theorem dX11_who_79 : decode cX11_who 79 = .ok (.aload_n 3, 1) := by decide +kernel
theorem dX11_who_80 : decode cX11_who 80 = .ok (.getfield 219, 3) := by decide +kernel
theorem dX11_who_83 : decode cX11_who 83 = .ok (.ireturn, 1) := by decide +kernel
theorem dX11_who_84 : decode cX11_who 84 = .ok (.aload_n 3, 1) := by decide +kernel
theorem dX11_who_85 : decode cX11_who 85 = .ok (.getfield 222, 3) := by decide +kernel
theorem dX11_who_88 : decode cX11_who 88 = .ok (.ireturn, 1) := by decide +kernel
theorem dX11_who_89 : decode cX11_who 89 = .ok (.aload_n 3, 1) := by decide +kernel
theorem dX11_who_90 : decode cX11_who 90 = .ok (.aload_n 0, 1) := by decide +kernel
theorem dX11_who_91 : decode cX11_who 91 = .ok (.getfield 10, 3) := by decide +kernel
theorem dX11_who_94 : decode cX11_who 94 = .ok (.getfield 80, 3) := by decide +kernel
theorem dX11_who_97 : decode cX11_who 97 = .ok (.invokevirtual 117, 3) := by decide +kernel
theorem dX11_who_100 : decode cX11_who 100 = .ok (.ifCond .eq 7, 3) := by decide +kernel
theorem dX11_who_103 : decode cX11_who 103 = .ok (.iconst 1, 1) := by decide +kernel
theorem dX11_who_104 : decode cX11_who 104 = .ok (.goto 4, 3) := by decide +kernel
theorem dX11_who_107 : decode cX11_who 107 = .ok (.iconst 0, 1) := by decide +kernel
