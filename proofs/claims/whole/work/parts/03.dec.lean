theorem dX0_init_0 : decode cX0_init 0 = .ok (.aload_n 0, 1) := by decide +kernel
theorem dX0_init_1 : decode cX0_init 1 = .ok (.invokespecial 3, 3) := by decide +kernel
theorem dX0_init_4 : decode cX0_init 4 = .ok (.aload_n 0, 1) := by decide +kernel
theorem dX0_init_5 : decode cX0_init 5 = .ok (.bipush 12, 2) := by decide +kernel
theorem dX0_init_7 : decode cX0_init 7 = .ok (.anewarray 9, 3) := by decide +kernel
theorem dX0_init_10 : decode cX0_init 10 = .ok (.putfield 11, 3) := by decide +kernel
theorem dX0_init_13 : decode cX0_init 13 = .ok (.aload_n 0, 1) := by decide +kernel
theorem dX0_init_14 : decode cX0_init 14 = .ok (.bipush 12, 2) := by decide +kernel
theorem dX0_init_16 : decode cX0_init 16 = .ok (.anewarray 17, 3) := by decide +kernel
theorem dX0_init_19 : decode cX0_init 19 = .ok (.putfield 19, 3) := by decide +kernel
theorem dX0_init_22 : decode cX0_init 22 = .ok (.aload_n 0, 1) := by decide +kernel
theorem dX0_init_23 : decode cX0_init 23 = .ok (.new 23, 3) := by decide +kernel
theorem dX0_init_26 : decode cX0_init 26 = .ok (.dup, 1) := by decide +kernel
theorem dX0_init_27 : decode cX0_init 27 = .ok (.invokespecial 25, 3) := by decide +kernel
theorem dX0_init_30 : decode cX0_init 30 = .ok (.putfield 26, 3) := by decide +kernel
theorem dX0_init_33 : decode cX0_init 33 = .ok (.aload_n 0, 1) := by decide +kernel
theorem dX0_init_34 : decode cX0_init 34 = .ok (.new 30, 3) := by decide +kernel
theorem dX0_init_37 : decode cX0_init 37 = .ok (.dup, 1) := by decide +kernel
theorem dX0_init_38 : decode cX0_init 38 = .ok (.invokespecial 32, 3) := by decide +kernel
theorem dX0_init_41 : decode cX0_init 41 = .ok (.putfield 33, 3) := by decide +kernel
theorem dX0_init_44 : decode cX0_init 44 = .ok (.aload_n 0, 1) := by decide +kernel
theorem dX0_init_45 : decode cX0_init 45 = .ok (.new 37, 3) := by decide +kernel
theorem dX0_init_48 : decode cX0_init 48 = .ok (.dup, 1) := by decide +kernel
theorem dX0_init_49 : decode cX0_init 49 = .ok (.invokespecial 39, 3) := by decide +kernel
theorem dX0_init_52 : decode cX0_init 52 = .ok (.putfield 40, 3) := by decide +kernel
theorem dX0_init_55 : decode cX0_init 55 = .ok (.aload_n 0, 1) := by decide +kernel
theorem dX0_init_56 : decode cX0_init 56 = .ok (.bipush 9, 2) := by decide +kernel
theorem dX0_init_58 : decode cX0_init 58 = .ok (.newarray .int, 2) := by decide +kernel
theorem dX0_init_60 : decode cX0_init 60 = .ok (.putfield 46, 3) := by decide +kernel
theorem dX0_init_63 : decode cX0_init 63 = .ok (.aload_n 0, 1) := by decide +kernel
theorem dX0_init_64 : decode cX0_init 64 = .ok (.iconst 0, 1) := by decide +kernel
theorem dX0_init_65 : decode cX0_init 65 = .ok (.putfield 50, 3) := by decide +kernel
theorem dX0_init_68 : decode cX0_init 68 = .ok (.aload_n 0, 1) := by decide +kernel
theorem dX0_init_69 : decode cX0_init 69 = .ok (.iconst 0, 1) := by decide +kernel
theorem dX0_init_70 : decode cX0_init 70 = .ok (.putfield 54, 3) := by decide +kernel
theorem dX0_init_73 : decode cX0_init 73 = .ok (.aload_n 0, 1) := by decide +kernel
theorem dX0_init_74 : decode cX0_init 74 = .ok (.iconst 0, 1) := by decide +kernel
theorem dX0_init_75 : decode cX0_init 75 = .ok (.putfield 57, 3) := by decide +kernel
theorem dX0_init_78 : decode cX0_init 78 = .ok (.aload_n 0, 1) := by decide +kernel
theorem dX0_init_79 : decode cX0_init 79 = .ok (.iconst 0, 1) := by decide +kernel
theorem dX0_init_80 : decode cX0_init 80 = .ok (.putfield 60, 3) := by decide +kernel
theorem dX0_init_83 : decode cX0_init 83 = .ok (.aload_n 0, 1) := by decide +kernel
theorem dX0_init_84 : decode cX0_init 84 = .ok (.iconst 0, 1) := by decide +kernel
theorem dX0_init_85 : decode cX0_init 85 = .ok (.putfield 63, 3) := by decide +kernel
theorem dX0_init_88 : decode cX0_init 88 = .ok (.iconst 0, 1) := by decide +kernel
theorem dX0_init_89 : decode cX0_init 89 = .ok (.istore_n 1, 1) := by decide +kernel
theorem dX0_init_90 : decode cX0_init 90 = .ok (.iload_n 1, 1) := by decide +kernel
theorem dX0_init_91 : decode cX0_init 91 = .ok (.bipush 12, 2) := by decide +kernel
theorem dX0_init_93 : decode cX0_init 93 = .ok (.if_icmp .ge 22, 3) := by decide +kernel
theorem dX0_init_96 : decode cX0_init 96 = .ok (.aload_n 0, 1) := by decide +kernel
theorem dX0_init_97 : decode cX0_init 97 = .ok (.getfield 11, 3) := by decide +kernel
theorem dX0_init_100 : decode cX0_init 100 = .ok (.iload_n 1, 1) := by decide +kernel
theorem dX0_init_101 : decode cX0_init 101 = .ok (.new 9, 3) := by decide +kernel
theorem dX0_init_104 : decode cX0_init 104 = .ok (.dup, 1) := by decide +kernel
theorem dX0_init_105 : decode cX0_init 105 = .ok (.invokespecial 66, 3) := by decide +kernel
theorem dX0_init_108 : decode cX0_init 108 = .ok (.aastore, 1) := by decide +kernel
theorem dX0_init_109 : decode cX0_init 109 = .ok (.iinc 1 1, 3) := by decide +kernel
theorem dX0_init_112 : decode cX0_init 112 = .ok (.goto (-22), 3) := by decide +kernel
theorem dX0_init_115 : decode cX0_init 115 = .ok (.iconst 0, 1) := by decide +kernel
theorem dX0_init_116 : decode cX0_init 116 = .ok (.istore_n 1, 1) := by decide +kernel
theorem dX0_init_117 : decode cX0_init 117 = .ok (.iload_n 1, 1) := by decide +kernel
theorem dX0_init_118 : decode cX0_init 118 = .ok (.bipush 12, 2) := by decide +kernel
theorem dX0_init_120 : decode cX0_init 120 = .ok (.if_icmp .ge 22, 3) := by decide +kernel
theorem dX0_init_123 : decode cX0_init 123 = .ok (.aload_n 0, 1) := by decide +kernel
theorem dX0_init_124 : decode cX0_init 124 = .ok (.getfield 19, 3) := by decide +kernel
theorem dX0_init_127 : decode cX0_init 127 = .ok (.iload_n 1, 1) := by decide +kernel
theorem dX0_init_128 : decode cX0_init 128 = .ok (.new 17, 3) := by decide +kernel
theorem dX0_init_131 : decode cX0_init 131 = .ok (.dup, 1) := by decide +kernel
theorem dX0_init_132 : decode cX0_init 132 = .ok (.invokespecial 67, 3) := by decide +kernel
theorem dX0_init_135 : decode cX0_init 135 = .ok (.aastore, 1) := by decide +kernel
theorem dX0_init_136 : decode cX0_init 136 = .ok (.iinc 1 1, 3) := by decide +kernel
theorem dX0_init_139 : decode cX0_init 139 = .ok (.goto (-22), 3) := by decide +kernel
theorem dX0_init_142 : decode cX0_init 142 = .ok (.return_, 1) := by decide +kernel
theorem dX0_readerAt_0 : decode cX0_readerAt 0 = .ok (.iload_n 1, 1) := by decide +kernel
theorem dX0_readerAt_1 : decode cX0_readerAt 1 = .ok (.iconst 0, 1) := by decide +kernel
theorem dX0_readerAt_2 : decode cX0_readerAt 2 = .ok (.aload_n 0, 1) := by decide +kernel
theorem dX0_readerAt_3 : decode cX0_readerAt 3 = .ok (.getfield 50, 3) := by decide +kernel
theorem dX0_readerAt_6 : decode cX0_readerAt 6 = .ok (.iconst 1, 1) := by decide +kernel
theorem dX0_readerAt_7 : decode cX0_readerAt 7 = .ok (.isub, 1) := by decide +kernel
theorem dX0_readerAt_8 : decode cX0_readerAt 8 = .ok (.invokestatic 68, 3) := by decide +kernel
theorem dX0_readerAt_11 : decode cX0_readerAt 11 = .ok (.ifCond .eq 12, 3) := by decide +kernel
theorem dX0_readerAt_14 : decode cX0_readerAt 14 = .ok (.aload_n 0, 1) := by decide +kernel
theorem dX0_readerAt_15 : decode cX0_readerAt 15 = .ok (.getfield 11, 3) := by decide +kernel
theorem dX0_readerAt_18 : decode cX0_readerAt 18 = .ok (.iload_n 1, 1) := by decide +kernel
theorem dX0_readerAt_19 : decode cX0_readerAt 19 = .ok (.aaload, 1) := by decide +kernel
theorem dX0_readerAt_20 : decode cX0_readerAt 20 = .ok (.goto 4, 3) := by decide +kernel
theorem dX0_readerAt_23 : decode cX0_readerAt 23 = .ok (.aconst_null, 1) := by decide +kernel
theorem dX0_readerAt_24 : decode cX0_readerAt 24 = .ok (.areturn, 1) := by decide +kernel
theorem dX0_paperAt_0 : decode cX0_paperAt 0 = .ok (.iload_n 1, 1) := by decide +kernel
theorem dX0_paperAt_1 : decode cX0_paperAt 1 = .ok (.iconst 0, 1) := by decide +kernel
theorem dX0_paperAt_2 : decode cX0_paperAt 2 = .ok (.aload_n 0, 1) := by decide +kernel
theorem dX0_paperAt_3 : decode cX0_paperAt 3 = .ok (.getfield 54, 3) := by decide +kernel
theorem dX0_paperAt_6 : decode cX0_paperAt 6 = .ok (.iconst 1, 1) := by decide +kernel
theorem dX0_paperAt_7 : decode cX0_paperAt 7 = .ok (.isub, 1) := by decide +kernel
theorem dX0_paperAt_8 : decode cX0_paperAt 8 = .ok (.invokestatic 68, 3) := by decide +kernel
theorem dX0_paperAt_11 : decode cX0_paperAt 11 = .ok (.ifCond .eq 12, 3) := by decide +kernel
theorem dX0_paperAt_14 : decode cX0_paperAt 14 = .ok (.aload_n 0, 1) := by decide +kernel
theorem dX0_paperAt_15 : decode cX0_paperAt 15 = .ok (.getfield 19, 3) := by decide +kernel
theorem dX0_paperAt_18 : decode cX0_paperAt 18 = .ok (.iload_n 1, 1) := by decide +kernel
theorem dX0_paperAt_19 : decode cX0_paperAt 19 = .ok (.aaload, 1) := by decide +kernel
theorem dX0_paperAt_20 : decode cX0_paperAt 20 = .ok (.goto 4, 3) := by decide +kernel
theorem dX0_paperAt_23 : decode cX0_paperAt 23 = .ok (.aconst_null, 1) := by decide +kernel
theorem dX0_paperAt_24 : decode cX0_paperAt 24 = .ok (.areturn, 1) := by decide +kernel
theorem dX0_ageOf_0 : decode cX0_ageOf 0 = .ok (.aload_n 0, 1) := by decide +kernel
theorem dX0_ageOf_1 : decode cX0_ageOf 1 = .ok (.aload_n 1, 1) := by decide +kernel
theorem dX0_ageOf_2 : decode cX0_ageOf 2 = .ok (.getfield 72, 3) := by decide +kernel
theorem dX0_ageOf_5 : decode cX0_ageOf 5 = .ok (.invokevirtual 75, 3) := by decide +kernel
theorem dX0_ageOf_8 : decode cX0_ageOf 8 = .ok (.astore_n 3, 1) := by decide +kernel
theorem dX0_ageOf_9 : decode cX0_ageOf 9 = .ok (.aload_n 0, 1) := by decide +kernel
theorem dX0_ageOf_10 : decode cX0_ageOf 10 = .ok (.getfield 46, 3) := by decide +kernel
theorem dX0_ageOf_13 : decode cX0_ageOf 13 = .ok (.iconst 0, 1) := by decide +kernel
theorem dX0_ageOf_14 : decode cX0_ageOf 14 = .ok (.aload_n 1, 1) := by decide +kernel
theorem dX0_ageOf_15 : decode cX0_ageOf 15 = .ok (.getfield 79, 3) := by decide +kernel
theorem dX0_ageOf_18 : decode cX0_ageOf 18 = .ok (.iastore, 1) := by decide +kernel
theorem dX0_ageOf_19 : decode cX0_ageOf 19 = .ok (.aload_n 0, 1) := by decide +kernel
theorem dX0_ageOf_20 : decode cX0_ageOf 20 = .ok (.getfield 46, 3) := by decide +kernel
theorem dX0_ageOf_23 : decode cX0_ageOf 23 = .ok (.iconst 1, 1) := by decide +kernel
theorem dX0_ageOf_24 : decode cX0_ageOf 24 = .ok (.aload_n 3, 1) := by decide +kernel
theorem dX0_ageOf_25 : decode cX0_ageOf 25 = .ok (.ifnonnull 7, 3) := by decide +kernel
theorem dX0_ageOf_28 : decode cX0_ageOf 28 = .ok (.iconst 0, 1) := by decide +kernel
theorem dX0_ageOf_29 : decode cX0_ageOf 29 = .ok (.goto 8, 3) := by decide +kernel
theorem dX0_ageOf_32 : decode cX0_ageOf 32 = .ok (.aload_n 3, 1) := by decide +kernel
theorem dX0_ageOf_33 : decode cX0_ageOf 33 = .ok (.iload_n 2, 1) := by decide +kernel
theorem dX0_ageOf_34 : decode cX0_ageOf 34 = .ok (.invokevirtual 82, 3) := by decide +kernel
theorem dX0_ageOf_37 : decode cX0_ageOf 37 = .ok (.iastore, 1) := by decide +kernel
theorem dX0_ageOf_38 : decode cX0_ageOf 38 = .ok (.aload_n 0, 1) := by decide +kernel
theorem dX0_ageOf_39 : decode cX0_ageOf 39 = .ok (.getfield 46, 3) := by decide +kernel
theorem dX0_ageOf_42 : decode cX0_ageOf 42 = .ok (.iconst 2, 1) := by decide +kernel
theorem dX0_ageOf_43 : decode cX0_ageOf 43 = .ok (.iload_n 2, 1) := by decide +kernel
theorem dX0_ageOf_44 : decode cX0_ageOf 44 = .ok (.aload_n 1, 1) := by decide +kernel
theorem dX0_ageOf_45 : decode cX0_ageOf 45 = .ok (.getfield 86, 3) := by decide +kernel
theorem dX0_ageOf_48 : decode cX0_ageOf 48 = .ok (.isub, 1) := by decide +kernel
theorem dX0_ageOf_49 : decode cX0_ageOf 49 = .ok (.iastore, 1) := by decide +kernel
theorem dX0_ageOf_50 : decode cX0_ageOf 50 = .ok (.aload_n 0, 1) := by decide +kernel
theorem dX0_ageOf_51 : decode cX0_ageOf 51 = .ok (.getfield 46, 3) := by decide +kernel
theorem dX0_ageOf_54 : decode cX0_ageOf 54 = .ok (.iconst 3, 1) := by decide +kernel
theorem dX0_ageOf_55 : decode cX0_ageOf 55 = .ok (.iload_n 2, 1) := by decide +kernel
theorem dX0_ageOf_56 : decode cX0_ageOf 56 = .ok (.aload_n 1, 1) := by decide +kernel
theorem dX0_ageOf_57 : decode cX0_ageOf 57 = .ok (.getfield 89, 3) := by decide +kernel
theorem dX0_ageOf_60 : decode cX0_ageOf 60 = .ok (.isub, 1) := by decide +kernel
theorem dX0_ageOf_61 : decode cX0_ageOf 61 = .ok (.sipush 365, 3) := by decide +kernel
theorem dX0_ageOf_64 : decode cX0_ageOf 64 = .ok (.idiv, 1) := by decide +kernel
theorem dX0_ageOf_65 : decode cX0_ageOf 65 = .ok (.iastore, 1) := by decide +kernel
theorem dX0_ageOf_66 : decode cX0_ageOf 66 = .ok (.aload_n 0, 1) := by decide +kernel
theorem dX0_ageOf_67 : decode cX0_ageOf 67 = .ok (.getfield 46, 3) := by decide +kernel
theorem dX0_ageOf_70 : decode cX0_ageOf 70 = .ok (.iconst 4, 1) := by decide +kernel
theorem dX0_ageOf_71 : decode cX0_ageOf 71 = .ok (.aload_n 1, 1) := by decide +kernel
theorem dX0_ageOf_72 : decode cX0_ageOf 72 = .ok (.getfield 92, 3) := by decide +kernel
theorem dX0_ageOf_75 : decode cX0_ageOf 75 = .ok (.iastore, 1) := by decide +kernel
theorem dX0_ageOf_76 : decode cX0_ageOf 76 = .ok (.aload_n 0, 1) := by decide +kernel
theorem dX0_ageOf_77 : decode cX0_ageOf 77 = .ok (.getfield 46, 3) := by decide +kernel
theorem dX0_ageOf_80 : decode cX0_ageOf 80 = .ok (.iconst 5, 1) := by decide +kernel
theorem dX0_ageOf_81 : decode cX0_ageOf 81 = .ok (.aload_n 1, 1) := by decide +kernel
theorem dX0_ageOf_82 : decode cX0_ageOf 82 = .ok (.getfield 95, 3) := by decide +kernel
theorem dX0_ageOf_85 : decode cX0_ageOf 85 = .ok (.iastore, 1) := by decide +kernel
theorem dX0_ageOf_86 : decode cX0_ageOf 86 = .ok (.aload_n 0, 1) := by decide +kernel
theorem dX0_ageOf_87 : decode cX0_ageOf 87 = .ok (.getfield 46, 3) := by decide +kernel
theorem dX0_ageOf_90 : decode cX0_ageOf 90 = .ok (.bipush 6, 2) := by decide +kernel
theorem dX0_ageOf_92 : decode cX0_ageOf 92 = .ok (.aload_n 3, 1) := by decide +kernel
theorem dX0_ageOf_93 : decode cX0_ageOf 93 = .ok (.ifnonnull 8, 3) := by decide +kernel
theorem dX0_ageOf_96 : decode cX0_ageOf 96 = .ok (.bipush 9, 2) := by decide +kernel
theorem dX0_ageOf_98 : decode cX0_ageOf 98 = .ok (.goto 7, 3) := by decide +kernel
theorem dX0_ageOf_101 : decode cX0_ageOf 101 = .ok (.aload_n 3, 1) := by decide +kernel
theorem dX0_ageOf_102 : decode cX0_ageOf 102 = .ok (.getfield 98, 3) := by decide +kernel
theorem dX0_ageOf_105 : decode cX0_ageOf 105 = .ok (.iastore, 1) := by decide +kernel
theorem dX0_ageOf_106 : decode cX0_ageOf 106 = .ok (.aload_n 0, 1) := by decide +kernel
theorem dX0_ageOf_107 : decode cX0_ageOf 107 = .ok (.getfield 46, 3) := by decide +kernel
theorem dX0_ageOf_110 : decode cX0_ageOf 110 = .ok (.bipush 7, 2) := by decide +kernel
theorem dX0_ageOf_112 : decode cX0_ageOf 112 = .ok (.aload_n 3, 1) := by decide +kernel
theorem dX0_ageOf_113 : decode cX0_ageOf 113 = .ok (.ifnull 15, 3) := by decide +kernel
theorem dX0_ageOf_116 : decode cX0_ageOf 116 = .ok (.aload_n 3, 1) := by decide +kernel
theorem dX0_ageOf_117 : decode cX0_ageOf 117 = .ok (.iload_n 2, 1) := by decide +kernel
theorem dX0_ageOf_118 : decode cX0_ageOf 118 = .ok (.invokevirtual 101, 3) := by decide +kernel
theorem dX0_ageOf_121 : decode cX0_ageOf 121 = .ok (.ifCond .eq 7, 3) := by decide +kernel
theorem dX0_ageOf_124 : decode cX0_ageOf 124 = .ok (.iconst 1, 1) := by decide +kernel
theorem dX0_ageOf_125 : decode cX0_ageOf 125 = .ok (.goto 4, 3) := by decide +kernel
theorem dX0_ageOf_128 : decode cX0_ageOf 128 = .ok (.iconst 0, 1) := by decide +kernel
theorem dX0_ageOf_129 : decode cX0_ageOf 129 = .ok (.iastore, 1) := by decide +kernel
theorem dX0_ageOf_130 : decode cX0_ageOf 130 = .ok (.aload_n 0, 1) := by decide +kernel
theorem dX0_ageOf_131 : decode cX0_ageOf 131 = .ok (.getfield 46, 3) := by decide +kernel
theorem dX0_ageOf_134 : decode cX0_ageOf 134 = .ok (.bipush 8, 2) := by decide +kernel
theorem dX0_ageOf_136 : decode cX0_ageOf 136 = .ok (.aload_n 1, 1) := by decide +kernel
theorem dX0_ageOf_137 : decode cX0_ageOf 137 = .ok (.getfield 105, 3) := by decide +kernel
theorem dX0_ageOf_140 : decode cX0_ageOf 140 = .ok (.iastore, 1) := by decide +kernel
theorem dX0_ageOf_141 : decode cX0_ageOf 141 = .ok (.aload_n 0, 1) := by decide +kernel
theorem dX0_ageOf_142 : decode cX0_ageOf 142 = .ok (.getfield 40, 3) := by decide +kernel
theorem dX0_ageOf_145 : decode cX0_ageOf 145 = .ok (.aload_n 0, 1) := by decide +kernel
theorem dX0_ageOf_146 : decode cX0_ageOf 146 = .ok (.getfield 46, 3) := by decide +kernel
theorem dX0_ageOf_149 : decode cX0_ageOf 149 = .ok (.invokevirtual 108, 3) := by decide +kernel
theorem dX0_ageOf_152 : decode cX0_ageOf 152 = .ok (.ireturn, 1) := by decide +kernel
theorem dX0_stayOf_0 : decode cX0_stayOf 0 = .ok (.aload_n 0, 1) := by decide +kernel
theorem dX0_stayOf_1 : decode cX0_stayOf 1 = .ok (.aload_n 1, 1) := by decide +kernel
theorem dX0_stayOf_2 : decode cX0_stayOf 2 = .ok (.aload_n 0, 1) := by decide +kernel
theorem dX0_stayOf_3 : decode cX0_stayOf 3 = .ok (.getfield 57, 3) := by decide +kernel
theorem dX0_stayOf_6 : decode cX0_stayOf 6 = .ok (.invokevirtual 112, 3) := by decide +kernel
theorem dX0_stayOf_9 : decode cX0_stayOf 9 = .ok (.istore_n 2, 1) := by decide +kernel
theorem dX0_stayOf_10 : decode cX0_stayOf 10 = .ok (.iconst 1, 1) := by decide +kernel
theorem dX0_stayOf_11 : decode cX0_stayOf 11 = .ok (.istore_n 3, 1) := by decide +kernel
theorem dX0_stayOf_12 : decode cX0_stayOf 12 = .ok (.iload_n 3, 1) := by decide +kernel
theorem dX0_stayOf_13 : decode cX0_stayOf 13 = .ok (.sipush 400, 3) := by decide +kernel
theorem dX0_stayOf_16 : decode cX0_stayOf 16 = .ok (.if_icmp .ge 24, 3) := by decide +kernel
theorem dX0_stayOf_19 : decode cX0_stayOf 19 = .ok (.aload_n 0, 1) := by decide +kernel
theorem dX0_stayOf_20 : decode cX0_stayOf 20 = .ok (.aload_n 1, 1) := by decide +kernel
theorem dX0_stayOf_21 : decode cX0_stayOf 21 = .ok (.aload_n 0, 1) := by decide +kernel
theorem dX0_stayOf_22 : decode cX0_stayOf 22 = .ok (.getfield 57, 3) := by decide +kernel
theorem dX0_stayOf_25 : decode cX0_stayOf 25 = .ok (.iload_n 3, 1) := by decide +kernel
theorem dX0_stayOf_26 : decode cX0_stayOf 26 = .ok (.iadd, 1) := by decide +kernel
theorem dX0_stayOf_27 : decode cX0_stayOf 27 = .ok (.invokevirtual 112, 3) := by decide +kernel
theorem dX0_stayOf_30 : decode cX0_stayOf 30 = .ok (.iload_n 2, 1) := by decide +kernel
theorem dX0_stayOf_31 : decode cX0_stayOf 31 = .ok (.if_icmp .ne 9, 3) := by decide +kernel
theorem dX0_stayOf_34 : decode cX0_stayOf 34 = .ok (.iinc 3 1, 3) := by decide +kernel
theorem dX0_stayOf_37 : decode cX0_stayOf 37 = .ok (.goto (-25), 3) := by decide +kernel
theorem dX0_stayOf_40 : decode cX0_stayOf 40 = .ok (.iload_n 3, 1) := by decide +kernel
theorem dX0_stayOf_41 : decode cX0_stayOf 41 = .ok (.ireturn, 1) := by decide +kernel
theorem dX0_changeShelves_0 : decode cX0_changeShelves 0 = .ok (.iconst 0, 1) := by decide +kernel
theorem dX0_changeShelves_1 : decode cX0_changeShelves 1 = .ok (.istore_n 3, 1) := by decide +kernel
theorem dX0_changeShelves_2 : decode cX0_changeShelves 2 = .ok (.iload_n 3, 1) := by decide +kernel
theorem dX0_changeShelves_3 : decode cX0_changeShelves 3 = .ok (.aload_n 0, 1) := by decide +kernel
theorem dX0_changeShelves_4 : decode cX0_changeShelves 4 = .ok (.getfield 54, 3) := by decide +kernel
theorem dX0_changeShelves_7 : decode cX0_changeShelves 7 = .ok (.if_icmp .ge 58, 3) := by decide +kernel
theorem dX0_changeShelves_10 : decode cX0_changeShelves 10 = .ok (.aload_n 0, 1) := by decide +kernel
theorem dX0_changeShelves_11 : decode cX0_changeShelves 11 = .ok (.getfield 19, 3) := by decide +kernel
theorem dX0_changeShelves_14 : decode cX0_changeShelves 14 = .ok (.iload_n 3, 1) := by decide +kernel
theorem dX0_changeShelves_15 : decode cX0_changeShelves 15 = .ok (.aaload, 1) := by decide +kernel
theorem dX0_changeShelves_16 : decode cX0_changeShelves 16 = .ok (.getfield 95, 3) := by decide +kernel
theorem dX0_changeShelves_19 : decode cX0_changeShelves 19 = .ok (.iload_n 1, 1) := by decide +kernel
theorem dX0_changeShelves_20 : decode cX0_changeShelves 20 = .ok (.if_icmp .ne 16, 3) := by decide +kernel
theorem dX0_changeShelves_23 : decode cX0_changeShelves 23 = .ok (.aload_n 0, 1) := by decide +kernel
theorem dX0_changeShelves_24 : decode cX0_changeShelves 24 = .ok (.getfield 19, 3) := by decide +kernel
theorem dX0_changeShelves_27 : decode cX0_changeShelves 27 = .ok (.iload_n 3, 1) := by decide +kernel
theorem dX0_changeShelves_28 : decode cX0_changeShelves 28 = .ok (.aaload, 1) := by decide +kernel
theorem dX0_changeShelves_29 : decode cX0_changeShelves 29 = .ok (.iload_n 2, 1) := by decide +kernel
theorem dX0_changeShelves_30 : decode cX0_changeShelves 30 = .ok (.putfield 95, 3) := by decide +kernel
theorem dX0_changeShelves_33 : decode cX0_changeShelves 33 = .ok (.goto 26, 3) := by decide +kernel
theorem dX0_changeShelves_36 : decode cX0_changeShelves 36 = .ok (.aload_n 0, 1) := by decide +kernel
theorem dX0_changeShelves_37 : decode cX0_changeShelves 37 = .ok (.getfield 19, 3) := by decide +kernel
theorem dX0_changeShelves_40 : decode cX0_changeShelves 40 = .ok (.iload_n 3, 1) := by decide +kernel
theorem dX0_changeShelves_41 : decode cX0_changeShelves 41 = .ok (.aaload, 1) := by decide +kernel
theorem dX0_changeShelves_42 : decode cX0_changeShelves 42 = .ok (.getfield 95, 3) := by decide +kernel
theorem dX0_changeShelves_45 : decode cX0_changeShelves 45 = .ok (.iload_n 2, 1) := by decide +kernel
theorem dX0_changeShelves_46 : decode cX0_changeShelves 46 = .ok (.if_icmp .ne 13, 3) := by decide +kernel
theorem dX0_changeShelves_49 : decode cX0_changeShelves 49 = .ok (.aload_n 0, 1) := by decide +kernel
theorem dX0_changeShelves_50 : decode cX0_changeShelves 50 = .ok (.getfield 19, 3) := by decide +kernel
theorem dX0_changeShelves_53 : decode cX0_changeShelves 53 = .ok (.iload_n 3, 1) := by decide +kernel
theorem dX0_changeShelves_54 : decode cX0_changeShelves 54 = .ok (.aaload, 1) := by decide +kernel
theorem dX0_changeShelves_55 : decode cX0_changeShelves 55 = .ok (.iload_n 1, 1) := by decide +kernel
theorem dX0_changeShelves_56 : decode cX0_changeShelves 56 = .ok (.putfield 95, 3) := by decide +kernel
theorem dX0_changeShelves_59 : decode cX0_changeShelves 59 = .ok (.iinc 3 1, 3) := by decide +kernel
theorem dX0_changeShelves_62 : decode cX0_changeShelves 62 = .ok (.goto (-60), 3) := by decide +kernel
theorem dX0_changeShelves_65 : decode cX0_changeShelves 65 = .ok (.return_, 1) := by decide +kernel
theorem dX0_burn_0 : decode cX0_burn 0 = .ok (.iconst 0, 1) := by decide +kernel
theorem dX0_burn_1 : decode cX0_burn 1 = .ok (.istore_n 2, 1) := by decide +kernel
theorem dX0_burn_2 : decode cX0_burn 2 = .ok (.iload_n 2, 1) := by decide +kernel
theorem dX0_burn_3 : decode cX0_burn 3 = .ok (.aload_n 0, 1) := by decide +kernel
theorem dX0_burn_4 : decode cX0_burn 4 = .ok (.getfield 54, 3) := by decide +kernel
theorem dX0_burn_7 : decode cX0_burn 7 = .ok (.if_icmp .ge 35, 3) := by decide +kernel
theorem dX0_burn_10 : decode cX0_burn 10 = .ok (.aload_n 0, 1) := by decide +kernel
theorem dX0_burn_11 : decode cX0_burn 11 = .ok (.getfield 19, 3) := by decide +kernel
theorem dX0_burn_14 : decode cX0_burn 14 = .ok (.iload_n 2, 1) := by decide +kernel
theorem dX0_burn_15 : decode cX0_burn 15 = .ok (.aaload, 1) := by decide +kernel
theorem dX0_burn_16 : decode cX0_burn 16 = .ok (.getfield 95, 3) := by decide +kernel
theorem dX0_burn_19 : decode cX0_burn 19 = .ok (.iload_n 1, 1) := by decide +kernel
theorem dX0_burn_20 : decode cX0_burn 20 = .ok (.if_icmp .ne 16, 3) := by decide +kernel
theorem dX0_burn_23 : decode cX0_burn 23 = .ok (.aload_n 0, 1) := by decide +kernel
theorem dX0_burn_24 : decode cX0_burn 24 = .ok (.getfield 19, 3) := by decide +kernel
theorem dX0_burn_27 : decode cX0_burn 27 = .ok (.iload_n 2, 1) := by decide +kernel
theorem dX0_burn_28 : decode cX0_burn 28 = .ok (.aaload, 1) := by decide +kernel
theorem dX0_burn_29 : decode cX0_burn 29 = .ok (.aload_n 0, 1) := by decide +kernel
theorem dX0_burn_30 : decode cX0_burn 30 = .ok (.getfield 57, 3) := by decide +kernel
theorem dX0_burn_33 : decode cX0_burn 33 = .ok (.invokevirtual 116, 3) := by decide +kernel
theorem dX0_burn_36 : decode cX0_burn 36 = .ok (.iinc 2 1, 3) := by decide +kernel
theorem dX0_burn_39 : decode cX0_burn 39 = .ok (.goto (-37), 3) := by decide +kernel
theorem dX0_burn_42 : decode cX0_burn 42 = .ok (.aload_n 0, 1) := by decide +kernel
theorem dX0_burn_43 : decode cX0_burn 43 = .ok (.iload_n 1, 1) := by decide +kernel
theorem dX0_burn_44 : decode cX0_burn 44 = .ok (.invokevirtual 120, 3) := by decide +kernel
theorem dX0_burn_47 : decode cX0_burn 47 = .ok (.ireturn, 1) := by decide +kernel
theorem dX0_papersOn_0 : decode cX0_papersOn 0 = .ok (.iconst 0, 1) := by decide +kernel
theorem dX0_papersOn_1 : decode cX0_papersOn 1 = .ok (.istore_n 2, 1) := by decide +kernel
theorem dX0_papersOn_2 : decode cX0_papersOn 2 = .ok (.iconst 0, 1) := by decide +kernel
theorem dX0_papersOn_3 : decode cX0_papersOn 3 = .ok (.istore_n 3, 1) := by decide +kernel
theorem dX0_papersOn_4 : decode cX0_papersOn 4 = .ok (.iload_n 3, 1) := by decide +kernel
theorem dX0_papersOn_5 : decode cX0_papersOn 5 = .ok (.aload_n 0, 1) := by decide +kernel
theorem dX0_papersOn_6 : decode cX0_papersOn 6 = .ok (.getfield 54, 3) := by decide +kernel
theorem dX0_papersOn_9 : decode cX0_papersOn 9 = .ok (.if_icmp .ge 25, 3) := by decide +kernel
theorem dX0_papersOn_12 : decode cX0_papersOn 12 = .ok (.aload_n 0, 1) := by decide +kernel
theorem dX0_papersOn_13 : decode cX0_papersOn 13 = .ok (.getfield 19, 3) := by decide +kernel
theorem dX0_papersOn_16 : decode cX0_papersOn 16 = .ok (.iload_n 3, 1) := by decide +kernel
theorem dX0_papersOn_17 : decode cX0_papersOn 17 = .ok (.aaload, 1) := by decide +kernel
theorem dX0_papersOn_18 : decode cX0_papersOn 18 = .ok (.getfield 95, 3) := by decide +kernel
theorem dX0_papersOn_21 : decode cX0_papersOn 21 = .ok (.iload_n 1, 1) := by decide +kernel
theorem dX0_papersOn_22 : decode cX0_papersOn 22 = .ok (.if_icmp .ne 6, 3) := by decide +kernel
theorem dX0_papersOn_25 : decode cX0_papersOn 25 = .ok (.iinc 2 1, 3) := by decide +kernel
theorem dX0_papersOn_28 : decode cX0_papersOn 28 = .ok (.iinc 3 1, 3) := by decide +kernel
theorem dX0_papersOn_31 : decode cX0_papersOn 31 = .ok (.goto (-27), 3) := by decide +kernel
theorem dX0_papersOn_34 : decode cX0_papersOn 34 = .ok (.iload_n 2, 1) := by decide +kernel
theorem dX0_papersOn_35 : decode cX0_papersOn 35 = .ok (.ireturn, 1) := by decide +kernel
theorem dX0_agesOn_0 : decode cX0_agesOn 0 = .ok (.iconst 0, 1) := by decide +kernel
theorem dX0_agesOn_1 : decode cX0_agesOn 1 = .ok (.istore_n 2, 1) := by decide +kernel
theorem dX0_agesOn_2 : decode cX0_agesOn 2 = .ok (.iconst 0, 1) := by decide +kernel
theorem dX0_agesOn_3 : decode cX0_agesOn 3 = .ok (.istore_n 3, 1) := by decide +kernel
theorem dX0_agesOn_4 : decode cX0_agesOn 4 = .ok (.iload_n 3, 1) := by decide +kernel
theorem dX0_agesOn_5 : decode cX0_agesOn 5 = .ok (.aload_n 0, 1) := by decide +kernel
theorem dX0_agesOn_6 : decode cX0_agesOn 6 = .ok (.getfield 54, 3) := by decide +kernel
theorem dX0_agesOn_9 : decode cX0_agesOn 9 = .ok (.if_icmp .ge 39, 3) := by decide +kernel
theorem dX0_agesOn_12 : decode cX0_agesOn 12 = .ok (.aload_n 0, 1) := by decide +kernel
theorem dX0_agesOn_13 : decode cX0_agesOn 13 = .ok (.getfield 19, 3) := by decide +kernel
theorem dX0_agesOn_16 : decode cX0_agesOn 16 = .ok (.iload_n 3, 1) := by decide +kernel
theorem dX0_agesOn_17 : decode cX0_agesOn 17 = .ok (.aaload, 1) := by decide +kernel
theorem dX0_agesOn_18 : decode cX0_agesOn 18 = .ok (.getfield 95, 3) := by decide +kernel
theorem dX0_agesOn_21 : decode cX0_agesOn 21 = .ok (.iload_n 1, 1) := by decide +kernel
theorem dX0_agesOn_22 : decode cX0_agesOn 22 = .ok (.if_icmp .ne 20, 3) := by decide +kernel
theorem dX0_agesOn_25 : decode cX0_agesOn 25 = .ok (.iload_n 2, 1) := by decide +kernel
theorem dX0_agesOn_26 : decode cX0_agesOn 26 = .ok (.aload_n 0, 1) := by decide +kernel
theorem dX0_agesOn_27 : decode cX0_agesOn 27 = .ok (.aload_n 0, 1) := by decide +kernel
theorem dX0_agesOn_28 : decode cX0_agesOn 28 = .ok (.getfield 19, 3) := by decide +kernel
theorem dX0_agesOn_31 : decode cX0_agesOn 31 = .ok (.iload_n 3, 1) := by decide +kernel
theorem dX0_agesOn_32 : decode cX0_agesOn 32 = .ok (.aaload, 1) := by decide +kernel
theorem dX0_agesOn_33 : decode cX0_agesOn 33 = .ok (.aload_n 0, 1) := by decide +kernel
theorem dX0_agesOn_34 : decode cX0_agesOn 34 = .ok (.getfield 57, 3) := by decide +kernel
theorem dX0_agesOn_37 : decode cX0_agesOn 37 = .ok (.invokevirtual 112, 3) := by decide +kernel
theorem dX0_agesOn_40 : decode cX0_agesOn 40 = .ok (.iadd, 1) := by decide +kernel
theorem dX0_agesOn_41 : decode cX0_agesOn 41 = .ok (.istore_n 2, 1) := by decide +kernel
theorem dX0_agesOn_42 : decode cX0_agesOn 42 = .ok (.iinc 3 1, 3) := by decide +kernel
theorem dX0_agesOn_45 : decode cX0_agesOn 45 = .ok (.goto (-41), 3) := by decide +kernel
theorem dX0_agesOn_48 : decode cX0_agesOn 48 = .ok (.iload_n 2, 1) := by decide +kernel
theorem dX0_agesOn_49 : decode cX0_agesOn 49 = .ok (.ireturn, 1) := by decide +kernel
theorem dX0_endDay_0 : decode cX0_endDay 0 = .ok (.aload_n 0, 1) := by decide +kernel
theorem dX0_endDay_1 : decode cX0_endDay 1 = .ok (.dup, 1) := by decide +kernel
theorem dX0_endDay_2 : decode cX0_endDay 2 = .ok (.getfield 57, 3) := by decide +kernel
theorem dX0_endDay_5 : decode cX0_endDay 5 = .ok (.iconst 1, 1) := by decide +kernel
theorem dX0_endDay_6 : decode cX0_endDay 6 = .ok (.iadd, 1) := by decide +kernel
theorem dX0_endDay_7 : decode cX0_endDay 7 = .ok (.putfield 57, 3) := by decide +kernel
theorem dX0_endDay_10 : decode cX0_endDay 10 = .ok (.aload_n 0, 1) := by decide +kernel
theorem dX0_endDay_11 : decode cX0_endDay 11 = .ok (.invokevirtual 123, 3) := by decide +kernel
theorem dX0_endDay_14 : decode cX0_endDay 14 = .ok (.istore_n 1, 1) := by decide +kernel
theorem dX0_endDay_15 : decode cX0_endDay 15 = .ok (.aload_n 0, 1) := by decide +kernel
theorem dX0_endDay_16 : decode cX0_endDay 16 = .ok (.dup, 1) := by decide +kernel
theorem dX0_endDay_17 : decode cX0_endDay 17 = .ok (.getfield 63, 3) := by decide +kernel
theorem dX0_endDay_20 : decode cX0_endDay 20 = .ok (.iload_n 1, 1) := by decide +kernel
theorem dX0_endDay_21 : decode cX0_endDay 21 = .ok (.iadd, 1) := by decide +kernel
theorem dX0_endDay_22 : decode cX0_endDay 22 = .ok (.putfield 63, 3) := by decide +kernel
theorem dX0_endDay_25 : decode cX0_endDay 25 = .ok (.aload_n 0, 1) := by decide +kernel
theorem dX0_endDay_26 : decode cX0_endDay 26 = .ok (.invokevirtual 127, 3) := by decide +kernel
theorem dX0_endDay_29 : decode cX0_endDay 29 = .ok (.iload_n 1, 1) := by decide +kernel
theorem dX0_endDay_30 : decode cX0_endDay 30 = .ok (.ireturn, 1) := by decide +kernel
theorem dX0_drawDeaths_0 : decode cX0_drawDeaths 0 = .ok (.iconst 0, 1) := by decide +kernel
theorem dX0_drawDeaths_1 : decode cX0_drawDeaths 1 = .ok (.istore_n 1, 1) := by decide +kernel
theorem dX0_drawDeaths_2 : decode cX0_drawDeaths 2 = .ok (.iconst 0, 1) := by decide +kernel
theorem dX0_drawDeaths_3 : decode cX0_drawDeaths 3 = .ok (.istore_n 2, 1) := by decide +kernel
theorem dX0_drawDeaths_4 : decode cX0_drawDeaths 4 = .ok (.iload_n 2, 1) := by decide +kernel
theorem dX0_drawDeaths_5 : decode cX0_drawDeaths 5 = .ok (.aload_n 0, 1) := by decide +kernel
theorem dX0_drawDeaths_6 : decode cX0_drawDeaths 6 = .ok (.getfield 50, 3) := by decide +kernel
theorem dX0_drawDeaths_9 : decode cX0_drawDeaths 9 = .ok (.if_icmp .ge 56, 3) := by decide +kernel
theorem dX0_drawDeaths_12 : decode cX0_drawDeaths 12 = .ok (.aload_n 0, 1) := by decide +kernel
theorem dX0_drawDeaths_13 : decode cX0_drawDeaths 13 = .ok (.getfield 11, 3) := by decide +kernel
theorem dX0_drawDeaths_16 : decode cX0_drawDeaths 16 = .ok (.iload_n 2, 1) := by decide +kernel
theorem dX0_drawDeaths_17 : decode cX0_drawDeaths 17 = .ok (.aaload, 1) := by decide +kernel
theorem dX0_drawDeaths_18 : decode cX0_drawDeaths 18 = .ok (.astore_n 3, 1) := by decide +kernel
theorem dX0_drawDeaths_19 : decode cX0_drawDeaths 19 = .ok (.aload_n 3, 1) := by decide +kernel
theorem dX0_drawDeaths_20 : decode cX0_drawDeaths 20 = .ok (.aload_n 0, 1) := by decide +kernel
theorem dX0_drawDeaths_21 : decode cX0_drawDeaths 21 = .ok (.getfield 57, 3) := by decide +kernel
theorem dX0_drawDeaths_24 : decode cX0_drawDeaths 24 = .ok (.invokevirtual 101, 3) := by decide +kernel
theorem dX0_drawDeaths_27 : decode cX0_drawDeaths 27 = .ok (.ifCond .eq 32, 3) := by decide +kernel
theorem dX0_drawDeaths_30 : decode cX0_drawDeaths 30 = .ok (.aload_n 3, 1) := by decide +kernel
theorem dX0_drawDeaths_31 : decode cX0_drawDeaths 31 = .ok (.getfield 130, 3) := by decide +kernel
theorem dX0_drawDeaths_34 : decode cX0_drawDeaths 34 = .ok (.ifCond .le 25, 3) := by decide +kernel
theorem dX0_drawDeaths_37 : decode cX0_drawDeaths 37 = .ok (.aload_n 0, 1) := by decide +kernel
theorem dX0_drawDeaths_38 : decode cX0_drawDeaths 38 = .ok (.invokevirtual 133, 3) := by decide +kernel
theorem dX0_drawDeaths_41 : decode cX0_drawDeaths 41 = .ok (.aload_n 3, 1) := by decide +kernel
theorem dX0_drawDeaths_42 : decode cX0_drawDeaths 42 = .ok (.getfield 130, 3) := by decide +kernel
theorem dX0_drawDeaths_45 : decode cX0_drawDeaths 45 = .ok (.if_icmp .ge 14, 3) := by decide +kernel
theorem dX0_drawDeaths_48 : decode cX0_drawDeaths 48 = .ok (.aload_n 3, 1) := by decide +kernel
theorem dX0_drawDeaths_49 : decode cX0_drawDeaths 49 = .ok (.aload_n 0, 1) := by decide +kernel
theorem dX0_drawDeaths_50 : decode cX0_drawDeaths 50 = .ok (.getfield 57, 3) := by decide +kernel
theorem dX0_drawDeaths_53 : decode cX0_drawDeaths 53 = .ok (.putfield 136, 3) := by decide +kernel
theorem dX0_drawDeaths_56 : decode cX0_drawDeaths 56 = .ok (.iinc 1 1, 3) := by decide +kernel
theorem dX0_drawDeaths_59 : decode cX0_drawDeaths 59 = .ok (.iinc 2 1, 3) := by decide +kernel
theorem dX0_drawDeaths_62 : decode cX0_drawDeaths 62 = .ok (.goto (-58), 3) := by decide +kernel
theorem dX0_drawDeaths_65 : decode cX0_drawDeaths 65 = .ok (.iload_n 1, 1) := by decide +kernel
theorem dX0_drawDeaths_66 : decode cX0_drawDeaths 66 = .ok (.ireturn, 1) := by decide +kernel
theorem dX0_drawTenThousandth_0 : decode cX0_drawTenThousandth 0 = .ok (.aload_n 0, 1) := by decide +kernel
theorem dX0_drawTenThousandth_1 : decode cX0_drawTenThousandth 1 = .ok (.ldc 139, 2) := by decide +kernel
theorem dX0_drawTenThousandth_3 : decode cX0_drawTenThousandth 3 = .ok (.aload_n 0, 1) := by decide +kernel
theorem dX0_drawTenThousandth_4 : decode cX0_drawTenThousandth 4 = .ok (.getfield 60, 3) := by decide +kernel
theorem dX0_drawTenThousandth_7 : decode cX0_drawTenThousandth 7 = .ok (.imul, 1) := by decide +kernel
theorem dX0_drawTenThousandth_8 : decode cX0_drawTenThousandth 8 = .ok (.ldc 140, 2) := by decide +kernel
theorem dX0_drawTenThousandth_10 : decode cX0_drawTenThousandth 10 = .ok (.iadd, 1) := by decide +kernel
theorem dX0_drawTenThousandth_11 : decode cX0_drawTenThousandth 11 = .ok (.putfield 60, 3) := by decide +kernel
theorem dX0_drawTenThousandth_14 : decode cX0_drawTenThousandth 14 = .ok (.aload_n 0, 1) := by decide +kernel
theorem dX0_drawTenThousandth_15 : decode cX0_drawTenThousandth 15 = .ok (.getfield 60, 3) := by decide +kernel
theorem dX0_drawTenThousandth_18 : decode cX0_drawTenThousandth 18 = .ok (.bipush 8, 2) := by decide +kernel
theorem dX0_drawTenThousandth_20 : decode cX0_drawTenThousandth 20 = .ok (.iushr, 1) := by decide +kernel
theorem dX0_drawTenThousandth_21 : decode cX0_drawTenThousandth 21 = .ok (.sipush 10000, 3) := by decide +kernel
theorem dX0_drawTenThousandth_24 : decode cX0_drawTenThousandth 24 = .ok (.irem, 1) := by decide +kernel
theorem dX0_drawTenThousandth_25 : decode cX0_drawTenThousandth 25 = .ok (.ireturn, 1) := by decide +kernel
theorem dX0_passLeases_0 : decode cX0_passLeases 0 = .ok (.iconst 0, 1) := by decide +kernel
theorem dX0_passLeases_1 : decode cX0_passLeases 1 = .ok (.istore_n 1, 1) := by decide +kernel
theorem dX0_passLeases_2 : decode cX0_passLeases 2 = .ok (.iload_n 1, 1) := by decide +kernel
theorem dX0_passLeases_3 : decode cX0_passLeases 3 = .ok (.aload_n 0, 1) := by decide +kernel
theorem dX0_passLeases_4 : decode cX0_passLeases 4 = .ok (.getfield 54, 3) := by decide +kernel
theorem dX0_passLeases_7 : decode cX0_passLeases 7 = .ok (.if_icmp .ge 51, 3) := by decide +kernel
theorem dX0_passLeases_10 : decode cX0_passLeases 10 = .ok (.aload_n 0, 1) := by decide +kernel
theorem dX0_passLeases_11 : decode cX0_passLeases 11 = .ok (.aload_n 0, 1) := by decide +kernel
theorem dX0_passLeases_12 : decode cX0_passLeases 12 = .ok (.getfield 19, 3) := by decide +kernel
theorem dX0_passLeases_15 : decode cX0_passLeases 15 = .ok (.iload_n 1, 1) := by decide +kernel
theorem dX0_passLeases_16 : decode cX0_passLeases 16 = .ok (.aaload, 1) := by decide +kernel
theorem dX0_passLeases_17 : decode cX0_passLeases 17 = .ok (.getfield 141, 3) := by decide +kernel
theorem dX0_passLeases_20 : decode cX0_passLeases 20 = .ok (.invokevirtual 75, 3) := by decide +kernel
theorem dX0_passLeases_23 : decode cX0_passLeases 23 = .ok (.astore_n 2, 1) := by decide +kernel
theorem dX0_passLeases_24 : decode cX0_passLeases 24 = .ok (.aload_n 2, 1) := by decide +kernel
theorem dX0_passLeases_25 : decode cX0_passLeases 25 = .ok (.ifnull 27, 3) := by decide +kernel
theorem dX0_passLeases_28 : decode cX0_passLeases 28 = .ok (.aload_n 2, 1) := by decide +kernel
theorem dX0_passLeases_29 : decode cX0_passLeases 29 = .ok (.aload_n 0, 1) := by decide +kernel
theorem dX0_passLeases_30 : decode cX0_passLeases 30 = .ok (.getfield 57, 3) := by decide +kernel
theorem dX0_passLeases_33 : decode cX0_passLeases 33 = .ok (.invokevirtual 101, 3) := by decide +kernel
theorem dX0_passLeases_36 : decode cX0_passLeases 36 = .ok (.ifCond .ne 16, 3) := by decide +kernel
theorem dX0_passLeases_39 : decode cX0_passLeases 39 = .ok (.aload_n 0, 1) := by decide +kernel
theorem dX0_passLeases_40 : decode cX0_passLeases 40 = .ok (.getfield 19, 3) := by decide +kernel
theorem dX0_passLeases_43 : decode cX0_passLeases 43 = .ok (.iload_n 1, 1) := by decide +kernel
theorem dX0_passLeases_44 : decode cX0_passLeases 44 = .ok (.aaload, 1) := by decide +kernel
theorem dX0_passLeases_45 : decode cX0_passLeases 45 = .ok (.aload_n 0, 1) := by decide +kernel
theorem dX0_passLeases_46 : decode cX0_passLeases 46 = .ok (.invokevirtual 144, 3) := by decide +kernel
theorem dX0_passLeases_49 : decode cX0_passLeases 49 = .ok (.putfield 141, 3) := by decide +kernel
theorem dX0_passLeases_52 : decode cX0_passLeases 52 = .ok (.iinc 1 1, 3) := by decide +kernel
theorem dX0_passLeases_55 : decode cX0_passLeases 55 = .ok (.goto (-53), 3) := by decide +kernel
theorem dX0_passLeases_58 : decode cX0_passLeases 58 = .ok (.return_, 1) := by decide +kernel
theorem dX0_nextForLease_0 : decode cX0_nextForLease 0 = .ok (.iconst (-1), 1) := by decide +kernel
theorem dX0_nextForLease_1 : decode cX0_nextForLease 1 = .ok (.istore_n 1, 1) := by decide +kernel
theorem dX0_nextForLease_2 : decode cX0_nextForLease 2 = .ok (.iconst (-1), 1) := by decide +kernel
theorem dX0_nextForLease_3 : decode cX0_nextForLease 3 = .ok (.istore_n 2, 1) := by decide +kernel
theorem dX0_nextForLease_4 : decode cX0_nextForLease 4 = .ok (.iconst 0, 1) := by decide +kernel
theorem dX0_nextForLease_5 : decode cX0_nextForLease 5 = .ok (.istore_n 3, 1) := by decide +kernel
theorem dX0_nextForLease_6 : decode cX0_nextForLease 6 = .ok (.iload_n 3, 1) := by decide +kernel
theorem dX0_nextForLease_7 : decode cX0_nextForLease 7 = .ok (.aload_n 0, 1) := by decide +kernel
theorem dX0_nextForLease_8 : decode cX0_nextForLease 8 = .ok (.getfield 50, 3) := by decide +kernel
theorem dX0_nextForLease_11 : decode cX0_nextForLease 11 = .ok (.if_icmp .ge 62, 3) := by decide +kernel
theorem dX0_nextForLease_14 : decode cX0_nextForLease 14 = .ok (.aload_n 0, 1) := by decide +kernel
theorem dX0_nextForLease_15 : decode cX0_nextForLease 15 = .ok (.getfield 11, 3) := by decide +kernel
theorem dX0_nextForLease_18 : decode cX0_nextForLease 18 = .ok (.iload_n 3, 1) := by decide +kernel
theorem dX0_nextForLease_19 : decode cX0_nextForLease 19 = .ok (.aaload, 1) := by decide +kernel
theorem dX0_nextForLease_20 : decode cX0_nextForLease 20 = .ok (.astore 4, 2) := by decide +kernel
theorem dX0_nextForLease_22 : decode cX0_nextForLease 22 = .ok (.aload 4, 2) := by decide +kernel
theorem dX0_nextForLease_24 : decode cX0_nextForLease 24 = .ok (.aload_n 0, 1) := by decide +kernel
theorem dX0_nextForLease_25 : decode cX0_nextForLease 25 = .ok (.getfield 57, 3) := by decide +kernel
theorem dX0_nextForLease_28 : decode cX0_nextForLease 28 = .ok (.invokevirtual 101, 3) := by decide +kernel
theorem dX0_nextForLease_31 : decode cX0_nextForLease 31 = .ok (.ifCond .eq 36, 3) := by decide +kernel
theorem dX0_nextForLease_34 : decode cX0_nextForLease 34 = .ok (.aload 4, 2) := by decide +kernel
theorem dX0_nextForLease_36 : decode cX0_nextForLease 36 = .ok (.aload_n 0, 1) := by decide +kernel
theorem dX0_nextForLease_37 : decode cX0_nextForLease 37 = .ok (.getfield 57, 3) := by decide +kernel
theorem dX0_nextForLease_40 : decode cX0_nextForLease 40 = .ok (.invokevirtual 82, 3) := by decide +kernel
theorem dX0_nextForLease_43 : decode cX0_nextForLease 43 = .ok (.iload_n 2, 1) := by decide +kernel
theorem dX0_nextForLease_44 : decode cX0_nextForLease 44 = .ok (.if_icmp .le 23, 3) := by decide +kernel
theorem dX0_nextForLease_47 : decode cX0_nextForLease 47 = .ok (.aload_n 0, 1) := by decide +kernel
theorem dX0_nextForLease_48 : decode cX0_nextForLease 48 = .ok (.iload_n 3, 1) := by decide +kernel
theorem dX0_nextForLease_49 : decode cX0_nextForLease 49 = .ok (.invokevirtual 147, 3) := by decide +kernel
theorem dX0_nextForLease_52 : decode cX0_nextForLease 52 = .ok (.ifCond .ne 15, 3) := by decide +kernel
theorem dX0_nextForLease_55 : decode cX0_nextForLease 55 = .ok (.aload 4, 2) := by decide +kernel
theorem dX0_nextForLease_57 : decode cX0_nextForLease 57 = .ok (.aload_n 0, 1) := by decide +kernel
theorem dX0_nextForLease_58 : decode cX0_nextForLease 58 = .ok (.getfield 57, 3) := by decide +kernel
theorem dX0_nextForLease_61 : decode cX0_nextForLease 61 = .ok (.invokevirtual 82, 3) := by decide +kernel
theorem dX0_nextForLease_64 : decode cX0_nextForLease 64 = .ok (.istore_n 2, 1) := by decide +kernel
theorem dX0_nextForLease_65 : decode cX0_nextForLease 65 = .ok (.iload_n 3, 1) := by decide +kernel
theorem dX0_nextForLease_66 : decode cX0_nextForLease 66 = .ok (.istore_n 1, 1) := by decide +kernel
theorem dX0_nextForLease_67 : decode cX0_nextForLease 67 = .ok (.iinc 3 1, 3) := by decide +kernel
theorem dX0_nextForLease_70 : decode cX0_nextForLease 70 = .ok (.goto (-64), 3) := by decide +kernel
theorem dX0_nextForLease_73 : decode cX0_nextForLease 73 = .ok (.iload_n 1, 1) := by decide +kernel
theorem dX0_nextForLease_74 : decode cX0_nextForLease 74 = .ok (.ireturn, 1) := by decide +kernel
theorem dX0_leasesOf_0 : decode cX0_leasesOf 0 = .ok (.iconst 0, 1) := by decide +kernel
theorem dX0_leasesOf_1 : decode cX0_leasesOf 1 = .ok (.istore_n 2, 1) := by decide +kernel
theorem dX0_leasesOf_2 : decode cX0_leasesOf 2 = .ok (.iconst 0, 1) := by decide +kernel
theorem dX0_leasesOf_3 : decode cX0_leasesOf 3 = .ok (.istore_n 3, 1) := by decide +kernel
theorem dX0_leasesOf_4 : decode cX0_leasesOf 4 = .ok (.iload_n 3, 1) := by decide +kernel
theorem dX0_leasesOf_5 : decode cX0_leasesOf 5 = .ok (.aload_n 0, 1) := by decide +kernel
theorem dX0_leasesOf_6 : decode cX0_leasesOf 6 = .ok (.getfield 54, 3) := by decide +kernel
theorem dX0_leasesOf_9 : decode cX0_leasesOf 9 = .ok (.if_icmp .ge 25, 3) := by decide +kernel
theorem dX0_leasesOf_12 : decode cX0_leasesOf 12 = .ok (.aload_n 0, 1) := by decide +kernel
theorem dX0_leasesOf_13 : decode cX0_leasesOf 13 = .ok (.getfield 19, 3) := by decide +kernel
theorem dX0_leasesOf_16 : decode cX0_leasesOf 16 = .ok (.iload_n 3, 1) := by decide +kernel
theorem dX0_leasesOf_17 : decode cX0_leasesOf 17 = .ok (.aaload, 1) := by decide +kernel
theorem dX0_leasesOf_18 : decode cX0_leasesOf 18 = .ok (.getfield 141, 3) := by decide +kernel
theorem dX0_leasesOf_21 : decode cX0_leasesOf 21 = .ok (.iload_n 1, 1) := by decide +kernel
theorem dX0_leasesOf_22 : decode cX0_leasesOf 22 = .ok (.if_icmp .ne 6, 3) := by decide +kernel
theorem dX0_leasesOf_25 : decode cX0_leasesOf 25 = .ok (.iinc 2 1, 3) := by decide +kernel
theorem dX0_leasesOf_28 : decode cX0_leasesOf 28 = .ok (.iinc 3 1, 3) := by decide +kernel
theorem dX0_leasesOf_31 : decode cX0_leasesOf 31 = .ok (.goto (-27), 3) := by decide +kernel
theorem dX0_leasesOf_34 : decode cX0_leasesOf 34 = .ok (.iload_n 2, 1) := by decide +kernel
theorem dX0_leasesOf_35 : decode cX0_leasesOf 35 = .ok (.ireturn, 1) := by decide +kernel
theorem dX0_countLeaps_0 : decode cX0_countLeaps 0 = .ok (.iconst 0, 1) := by decide +kernel
theorem dX0_countLeaps_1 : decode cX0_countLeaps 1 = .ok (.istore_n 3, 1) := by decide +kernel
theorem dX0_countLeaps_2 : decode cX0_countLeaps 2 = .ok (.iconst 0, 1) := by decide +kernel
theorem dX0_countLeaps_3 : decode cX0_countLeaps 3 = .ok (.istore 4, 2) := by decide +kernel
theorem dX0_countLeaps_5 : decode cX0_countLeaps 5 = .ok (.iload 4, 2) := by decide +kernel
theorem dX0_countLeaps_7 : decode cX0_countLeaps 7 = .ok (.aload_n 0, 1) := by decide +kernel
theorem dX0_countLeaps_8 : decode cX0_countLeaps 8 = .ok (.getfield 26, 3) := by decide +kernel
theorem dX0_countLeaps_11 : decode cX0_countLeaps 11 = .ok (.getfield 150, 3) := by decide +kernel
theorem dX0_countLeaps_14 : decode cX0_countLeaps 14 = .ok (.if_icmp .ge 23, 3) := by decide +kernel
theorem dX0_countLeaps_17 : decode cX0_countLeaps 17 = .ok (.aload_n 0, 1) := by decide +kernel
theorem dX0_countLeaps_18 : decode cX0_countLeaps 18 = .ok (.iload 4, 2) := by decide +kernel
theorem dX0_countLeaps_20 : decode cX0_countLeaps 20 = .ok (.iload_n 1, 1) := by decide +kernel
theorem dX0_countLeaps_21 : decode cX0_countLeaps 21 = .ok (.iload_n 2, 1) := by decide +kernel
theorem dX0_countLeaps_22 : decode cX0_countLeaps 22 = .ok (.invokevirtual 153, 3) := by decide +kernel
theorem dX0_countLeaps_25 : decode cX0_countLeaps 25 = .ok (.ifCond .eq 6, 3) := by decide +kernel
theorem dX0_countLeaps_28 : decode cX0_countLeaps 28 = .ok (.iinc 3 1, 3) := by decide +kernel
theorem dX0_countLeaps_31 : decode cX0_countLeaps 31 = .ok (.iinc 4 1, 3) := by decide +kernel
theorem dX0_countLeaps_34 : decode cX0_countLeaps 34 = .ok (.goto (-29), 3) := by decide +kernel
theorem dX0_countLeaps_37 : decode cX0_countLeaps 37 = .ok (.iload_n 3, 1) := by decide +kernel
theorem dX0_countLeaps_38 : decode cX0_countLeaps 38 = .ok (.ireturn, 1) := by decide +kernel
theorem dX0_firstLeap_0 : decode cX0_firstLeap 0 = .ok (.iconst 0, 1) := by decide +kernel
theorem dX0_firstLeap_1 : decode cX0_firstLeap 1 = .ok (.istore_n 3, 1) := by decide +kernel
theorem dX0_firstLeap_2 : decode cX0_firstLeap 2 = .ok (.iload_n 3, 1) := by decide +kernel
theorem dX0_firstLeap_3 : decode cX0_firstLeap 3 = .ok (.aload_n 0, 1) := by decide +kernel
theorem dX0_firstLeap_4 : decode cX0_firstLeap 4 = .ok (.getfield 26, 3) := by decide +kernel
theorem dX0_firstLeap_7 : decode cX0_firstLeap 7 = .ok (.getfield 150, 3) := by decide +kernel
theorem dX0_firstLeap_10 : decode cX0_firstLeap 10 = .ok (.if_icmp .ge 21, 3) := by decide +kernel
theorem dX0_firstLeap_13 : decode cX0_firstLeap 13 = .ok (.aload_n 0, 1) := by decide +kernel
theorem dX0_firstLeap_14 : decode cX0_firstLeap 14 = .ok (.iload_n 3, 1) := by decide +kernel
theorem dX0_firstLeap_15 : decode cX0_firstLeap 15 = .ok (.iload_n 1, 1) := by decide +kernel
theorem dX0_firstLeap_16 : decode cX0_firstLeap 16 = .ok (.iload_n 2, 1) := by decide +kernel
theorem dX0_firstLeap_17 : decode cX0_firstLeap 17 = .ok (.invokevirtual 153, 3) := by decide +kernel
theorem dX0_firstLeap_20 : decode cX0_firstLeap 20 = .ok (.ifCond .eq 5, 3) := by decide +kernel
theorem dX0_firstLeap_23 : decode cX0_firstLeap 23 = .ok (.iload_n 3, 1) := by decide +kernel
theorem dX0_firstLeap_24 : decode cX0_firstLeap 24 = .ok (.ireturn, 1) := by decide +kernel
theorem dX0_firstLeap_25 : decode cX0_firstLeap 25 = .ok (.iinc 3 1, 3) := by decide +kernel
theorem dX0_firstLeap_28 : decode cX0_firstLeap 28 = .ok (.goto (-26), 3) := by decide +kernel
theorem dX0_firstLeap_31 : decode cX0_firstLeap 31 = .ok (.iconst (-1), 1) := by decide +kernel
theorem dX0_firstLeap_32 : decode cX0_firstLeap 32 = .ok (.ireturn, 1) := by decide +kernel
theorem dX0_isLeap_0 : decode cX0_isLeap 0 = .ok (.aload_n 0, 1) := by decide +kernel
theorem dX0_isLeap_1 : decode cX0_isLeap 1 = .ok (.aload_n 0, 1) := by decide +kernel
theorem dX0_isLeap_2 : decode cX0_isLeap 2 = .ok (.getfield 26, 3) := by decide +kernel
theorem dX0_isLeap_5 : decode cX0_isLeap 5 = .ok (.iload_n 1, 1) := by decide +kernel
theorem dX0_isLeap_6 : decode cX0_isLeap 6 = .ok (.iconst 1, 1) := by decide +kernel
theorem dX0_isLeap_7 : decode cX0_isLeap 7 = .ok (.invokevirtual 156, 3) := by decide +kernel
theorem dX0_isLeap_10 : decode cX0_isLeap 10 = .ok (.invokevirtual 75, 3) := by decide +kernel
theorem dX0_isLeap_13 : decode cX0_isLeap 13 = .ok (.astore 4, 2) := by decide +kernel
theorem dX0_isLeap_15 : decode cX0_isLeap 15 = .ok (.aload 4, 2) := by decide +kernel
theorem dX0_isLeap_17 : decode cX0_isLeap 17 = .ok (.ifnull 28, 3) := by decide +kernel
theorem dX0_isLeap_20 : decode cX0_isLeap 20 = .ok (.aload 4, 2) := by decide +kernel
theorem dX0_isLeap_22 : decode cX0_isLeap 22 = .ok (.getfield 98, 3) := by decide +kernel
theorem dX0_isLeap_25 : decode cX0_isLeap 25 = .ok (.iload_n 2, 1) := by decide +kernel
theorem dX0_isLeap_26 : decode cX0_isLeap 26 = .ok (.if_icmp .ne 19, 3) := by decide +kernel
theorem dX0_isLeap_29 : decode cX0_isLeap 29 = .ok (.aload_n 0, 1) := by decide +kernel
theorem dX0_isLeap_30 : decode cX0_isLeap 30 = .ok (.getfield 26, 3) := by decide +kernel
theorem dX0_isLeap_33 : decode cX0_isLeap 33 = .ok (.iload_n 1, 1) := by decide +kernel
theorem dX0_isLeap_34 : decode cX0_isLeap 34 = .ok (.invokevirtual 160, 3) := by decide +kernel
theorem dX0_isLeap_37 : decode cX0_isLeap 37 = .ok (.iload_n 3, 1) := by decide +kernel
theorem dX0_isLeap_38 : decode cX0_isLeap 38 = .ok (.if_icmp .lt 7, 3) := by decide +kernel
theorem dX0_isLeap_41 : decode cX0_isLeap 41 = .ok (.iconst 1, 1) := by decide +kernel
theorem dX0_isLeap_42 : decode cX0_isLeap 42 = .ok (.goto 4, 3) := by decide +kernel
theorem dX0_isLeap_45 : decode cX0_isLeap 45 = .ok (.iconst 0, 1) := by decide +kernel
theorem dX0_isLeap_46 : decode cX0_isLeap 46 = .ok (.ireturn, 1) := by decide +kernel
theorem dX0_copyFrom_0 : decode cX0_copyFrom 0 = .ok (.iconst 0, 1) := by decide +kernel
theorem dX0_copyFrom_1 : decode cX0_copyFrom 1 = .ok (.istore_n 2, 1) := by decide +kernel
theorem dX0_copyFrom_2 : decode cX0_copyFrom 2 = .ok (.iload_n 2, 1) := by decide +kernel
theorem dX0_copyFrom_3 : decode cX0_copyFrom 3 = .ok (.bipush 12, 2) := by decide +kernel
theorem dX0_copyFrom_5 : decode cX0_copyFrom 5 = .ok (.if_icmp .ge 24, 3) := by decide +kernel
theorem dX0_copyFrom_8 : decode cX0_copyFrom 8 = .ok (.aload_n 0, 1) := by decide +kernel
theorem dX0_copyFrom_9 : decode cX0_copyFrom 9 = .ok (.getfield 11, 3) := by decide +kernel
theorem dX0_copyFrom_12 : decode cX0_copyFrom 12 = .ok (.iload_n 2, 1) := by decide +kernel
theorem dX0_copyFrom_13 : decode cX0_copyFrom 13 = .ok (.aaload, 1) := by decide +kernel
theorem dX0_copyFrom_14 : decode cX0_copyFrom 14 = .ok (.aload_n 1, 1) := by decide +kernel
theorem dX0_copyFrom_15 : decode cX0_copyFrom 15 = .ok (.getfield 11, 3) := by decide +kernel
theorem dX0_copyFrom_18 : decode cX0_copyFrom 18 = .ok (.iload_n 2, 1) := by decide +kernel
theorem dX0_copyFrom_19 : decode cX0_copyFrom 19 = .ok (.aaload, 1) := by decide +kernel
theorem dX0_copyFrom_20 : decode cX0_copyFrom 20 = .ok (.invokevirtual 163, 3) := by decide +kernel
theorem dX0_copyFrom_23 : decode cX0_copyFrom 23 = .ok (.iinc 2 1, 3) := by decide +kernel
theorem dX0_copyFrom_26 : decode cX0_copyFrom 26 = .ok (.goto (-24), 3) := by decide +kernel
theorem dX0_copyFrom_29 : decode cX0_copyFrom 29 = .ok (.iconst 0, 1) := by decide +kernel
theorem dX0_copyFrom_30 : decode cX0_copyFrom 30 = .ok (.istore_n 2, 1) := by decide +kernel
theorem dX0_copyFrom_31 : decode cX0_copyFrom 31 = .ok (.iload_n 2, 1) := by decide +kernel
theorem dX0_copyFrom_32 : decode cX0_copyFrom 32 = .ok (.bipush 12, 2) := by decide +kernel
theorem dX0_copyFrom_34 : decode cX0_copyFrom 34 = .ok (.if_icmp .ge 24, 3) := by decide +kernel
theorem dX0_copyFrom_37 : decode cX0_copyFrom 37 = .ok (.aload_n 0, 1) := by decide +kernel
theorem dX0_copyFrom_38 : decode cX0_copyFrom 38 = .ok (.getfield 19, 3) := by decide +kernel
theorem dX0_copyFrom_41 : decode cX0_copyFrom 41 = .ok (.iload_n 2, 1) := by decide +kernel
theorem dX0_copyFrom_42 : decode cX0_copyFrom 42 = .ok (.aaload, 1) := by decide +kernel
theorem dX0_copyFrom_43 : decode cX0_copyFrom 43 = .ok (.aload_n 1, 1) := by decide +kernel
theorem dX0_copyFrom_44 : decode cX0_copyFrom 44 = .ok (.getfield 19, 3) := by decide +kernel
theorem dX0_copyFrom_47 : decode cX0_copyFrom 47 = .ok (.iload_n 2, 1) := by decide +kernel
theorem dX0_copyFrom_48 : decode cX0_copyFrom 48 = .ok (.aaload, 1) := by decide +kernel
theorem dX0_copyFrom_49 : decode cX0_copyFrom 49 = .ok (.invokevirtual 167, 3) := by decide +kernel
theorem dX0_copyFrom_52 : decode cX0_copyFrom 52 = .ok (.iinc 2 1, 3) := by decide +kernel
theorem dX0_copyFrom_55 : decode cX0_copyFrom 55 = .ok (.goto (-24), 3) := by decide +kernel
theorem dX0_copyFrom_58 : decode cX0_copyFrom 58 = .ok (.aload_n 0, 1) := by decide +kernel
theorem dX0_copyFrom_59 : decode cX0_copyFrom 59 = .ok (.getfield 26, 3) := by decide +kernel
theorem dX0_copyFrom_62 : decode cX0_copyFrom 62 = .ok (.aload_n 1, 1) := by decide +kernel
theorem dX0_copyFrom_63 : decode cX0_copyFrom 63 = .ok (.getfield 26, 3) := by decide +kernel
theorem dX0_copyFrom_66 : decode cX0_copyFrom 66 = .ok (.invokevirtual 170, 3) := by decide +kernel
theorem dX0_copyFrom_69 : decode cX0_copyFrom 69 = .ok (.aload_n 0, 1) := by decide +kernel
theorem dX0_copyFrom_70 : decode cX0_copyFrom 70 = .ok (.getfield 33, 3) := by decide +kernel
theorem dX0_copyFrom_73 : decode cX0_copyFrom 73 = .ok (.aload_n 1, 1) := by decide +kernel
theorem dX0_copyFrom_74 : decode cX0_copyFrom 74 = .ok (.getfield 33, 3) := by decide +kernel
theorem dX0_copyFrom_77 : decode cX0_copyFrom 77 = .ok (.invokevirtual 173, 3) := by decide +kernel
theorem dX0_copyFrom_80 : decode cX0_copyFrom 80 = .ok (.aload_n 0, 1) := by decide +kernel
theorem dX0_copyFrom_81 : decode cX0_copyFrom 81 = .ok (.getfield 40, 3) := by decide +kernel
theorem dX0_copyFrom_84 : decode cX0_copyFrom 84 = .ok (.aload_n 1, 1) := by decide +kernel
theorem dX0_copyFrom_85 : decode cX0_copyFrom 85 = .ok (.getfield 40, 3) := by decide +kernel
theorem dX0_copyFrom_88 : decode cX0_copyFrom 88 = .ok (.invokevirtual 176, 3) := by decide +kernel
theorem dX0_copyFrom_91 : decode cX0_copyFrom 91 = .ok (.aload_n 0, 1) := by decide +kernel
theorem dX0_copyFrom_92 : decode cX0_copyFrom 92 = .ok (.aload_n 1, 1) := by decide +kernel
theorem dX0_copyFrom_93 : decode cX0_copyFrom 93 = .ok (.getfield 50, 3) := by decide +kernel
theorem dX0_copyFrom_96 : decode cX0_copyFrom 96 = .ok (.putfield 50, 3) := by decide +kernel
theorem dX0_copyFrom_99 : decode cX0_copyFrom 99 = .ok (.aload_n 0, 1) := by decide +kernel
theorem dX0_copyFrom_100 : decode cX0_copyFrom 100 = .ok (.aload_n 1, 1) := by decide +kernel
theorem dX0_copyFrom_101 : decode cX0_copyFrom 101 = .ok (.getfield 54, 3) := by decide +kernel
theorem dX0_copyFrom_104 : decode cX0_copyFrom 104 = .ok (.putfield 54, 3) := by decide +kernel
theorem dX0_copyFrom_107 : decode cX0_copyFrom 107 = .ok (.aload_n 0, 1) := by decide +kernel
theorem dX0_copyFrom_108 : decode cX0_copyFrom 108 = .ok (.aload_n 1, 1) := by decide +kernel
theorem dX0_copyFrom_109 : decode cX0_copyFrom 109 = .ok (.getfield 57, 3) := by decide +kernel
theorem dX0_copyFrom_112 : decode cX0_copyFrom 112 = .ok (.putfield 57, 3) := by decide +kernel
theorem dX0_copyFrom_115 : decode cX0_copyFrom 115 = .ok (.aload_n 0, 1) := by decide +kernel
theorem dX0_copyFrom_116 : decode cX0_copyFrom 116 = .ok (.aload_n 1, 1) := by decide +kernel
theorem dX0_copyFrom_117 : decode cX0_copyFrom 117 = .ok (.getfield 60, 3) := by decide +kernel
theorem dX0_copyFrom_120 : decode cX0_copyFrom 120 = .ok (.putfield 60, 3) := by decide +kernel
theorem dX0_copyFrom_123 : decode cX0_copyFrom 123 = .ok (.aload_n 0, 1) := by decide +kernel
theorem dX0_copyFrom_124 : decode cX0_copyFrom 124 = .ok (.aload_n 1, 1) := by decide +kernel
theorem dX0_copyFrom_125 : decode cX0_copyFrom 125 = .ok (.getfield 63, 3) := by decide +kernel
theorem dX0_copyFrom_128 : decode cX0_copyFrom 128 = .ok (.putfield 63, 3) := by decide +kernel
theorem dX0_copyFrom_131 : decode cX0_copyFrom 131 = .ok (.return_, 1) := by decide +kernel
theorem dX1_init_0 : decode cX1_init 0 = .ok (.aload_n 0, 1) := by decide +kernel
theorem dX1_init_1 : decode cX1_init 1 = .ok (.invokespecial 3, 3) := by decide +kernel
theorem dX1_init_4 : decode cX1_init 4 = .ok (.aload_n 0, 1) := by decide +kernel
theorem dX1_init_5 : decode cX1_init 5 = .ok (.sipush 600, 3) := by decide +kernel
theorem dX1_init_8 : decode cX1_init 8 = .ok (.newarray .int, 2) := by decide +kernel
theorem dX1_init_10 : decode cX1_init 10 = .ok (.putfield 11, 3) := by decide +kernel
theorem dX1_init_13 : decode cX1_init 13 = .ok (.aload_n 0, 1) := by decide +kernel
theorem dX1_init_14 : decode cX1_init 14 = .ok (.iconst 0, 1) := by decide +kernel
theorem dX1_init_15 : decode cX1_init 15 = .ok (.putfield 15, 3) := by decide +kernel
theorem dX1_init_18 : decode cX1_init 18 = .ok (.return_, 1) := by decide +kernel
theorem dX1_hasRoom_0 : decode cX1_hasRoom 0 = .ok (.aload_n 0, 1) := by decide +kernel
theorem dX1_hasRoom_1 : decode cX1_hasRoom 1 = .ok (.getfield 15, 3) := by decide +kernel
theorem dX1_hasRoom_4 : decode cX1_hasRoom 4 = .ok (.bipush 120, 2) := by decide +kernel
theorem dX1_hasRoom_6 : decode cX1_hasRoom 6 = .ok (.if_icmp .ge 7, 3) := by decide +kernel
theorem dX1_hasRoom_9 : decode cX1_hasRoom 9 = .ok (.iconst 1, 1) := by decide +kernel
theorem dX1_hasRoom_10 : decode cX1_hasRoom 10 = .ok (.goto 4, 3) := by decide +kernel
theorem dX1_hasRoom_13 : decode cX1_hasRoom 13 = .ok (.iconst 0, 1) := by decide +kernel
theorem dX1_hasRoom_14 : decode cX1_hasRoom 14 = .ok (.ireturn, 1) := by decide +kernel
theorem dX1_write_0 : decode cX1_write 0 = .ok (.aload_n 0, 1) := by decide +kernel
theorem dX1_write_1 : decode cX1_write 1 = .ok (.invokevirtual 19, 3) := by decide +kernel
theorem dX1_write_4 : decode cX1_write 4 = .ok (.ifCond .ne 4, 3) := by decide +kernel
theorem dX1_write_7 : decode cX1_write 7 = .ok (.return_, 1) := by decide +kernel
theorem dX1_write_8 : decode cX1_write 8 = .ok (.aload_n 0, 1) := by decide +kernel
theorem dX1_write_9 : decode cX1_write 9 = .ok (.getfield 15, 3) := by decide +kernel
theorem dX1_write_12 : decode cX1_write 12 = .ok (.iconst 5, 1) := by decide +kernel
theorem dX1_write_13 : decode cX1_write 13 = .ok (.imul, 1) := by decide +kernel
theorem dX1_write_14 : decode cX1_write 14 = .ok (.istore 6, 2) := by decide +kernel
theorem dX1_write_16 : decode cX1_write 16 = .ok (.aload_n 0, 1) := by decide +kernel
theorem dX1_write_17 : decode cX1_write 17 = .ok (.getfield 11, 3) := by decide +kernel
theorem dX1_write_20 : decode cX1_write 20 = .ok (.iload 6, 2) := by decide +kernel
theorem dX1_write_22 : decode cX1_write 22 = .ok (.iload_n 1, 1) := by decide +kernel
theorem dX1_write_23 : decode cX1_write 23 = .ok (.iastore, 1) := by decide +kernel
theorem dX1_write_24 : decode cX1_write 24 = .ok (.aload_n 0, 1) := by decide +kernel
theorem dX1_write_25 : decode cX1_write 25 = .ok (.getfield 11, 3) := by decide +kernel
theorem dX1_write_28 : decode cX1_write 28 = .ok (.iload 6, 2) := by decide +kernel
theorem dX1_write_30 : decode cX1_write 30 = .ok (.iconst 1, 1) := by decide +kernel
theorem dX1_write_31 : decode cX1_write 31 = .ok (.iadd, 1) := by decide +kernel
theorem dX1_write_32 : decode cX1_write 32 = .ok (.iload_n 2, 1) := by decide +kernel
theorem dX1_write_33 : decode cX1_write 33 = .ok (.iastore, 1) := by decide +kernel
theorem dX1_write_34 : decode cX1_write 34 = .ok (.aload_n 0, 1) := by decide +kernel
theorem dX1_write_35 : decode cX1_write 35 = .ok (.getfield 11, 3) := by decide +kernel
theorem dX1_write_38 : decode cX1_write 38 = .ok (.iload 6, 2) := by decide +kernel
theorem dX1_write_40 : decode cX1_write 40 = .ok (.iconst 2, 1) := by decide +kernel
theorem dX1_write_41 : decode cX1_write 41 = .ok (.iadd, 1) := by decide +kernel
theorem dX1_write_42 : decode cX1_write 42 = .ok (.iload_n 3, 1) := by decide +kernel
theorem dX1_write_43 : decode cX1_write 43 = .ok (.iastore, 1) := by decide +kernel
theorem dX1_write_44 : decode cX1_write 44 = .ok (.aload_n 0, 1) := by decide +kernel
theorem dX1_write_45 : decode cX1_write 45 = .ok (.getfield 11, 3) := by decide +kernel
theorem dX1_write_48 : decode cX1_write 48 = .ok (.iload 6, 2) := by decide +kernel
theorem dX1_write_50 : decode cX1_write 50 = .ok (.iconst 3, 1) := by decide +kernel
theorem dX1_write_51 : decode cX1_write 51 = .ok (.iadd, 1) := by decide +kernel
theorem dX1_write_52 : decode cX1_write 52 = .ok (.iload 4, 2) := by decide +kernel
theorem dX1_write_54 : decode cX1_write 54 = .ok (.iastore, 1) := by decide +kernel
theorem dX1_write_55 : decode cX1_write 55 = .ok (.aload_n 0, 1) := by decide +kernel
theorem dX1_write_56 : decode cX1_write 56 = .ok (.getfield 11, 3) := by decide +kernel
theorem dX1_write_59 : decode cX1_write 59 = .ok (.iload 6, 2) := by decide +kernel
theorem dX1_write_61 : decode cX1_write 61 = .ok (.iconst 4, 1) := by decide +kernel
theorem dX1_write_62 : decode cX1_write 62 = .ok (.iadd, 1) := by decide +kernel
theorem dX1_write_63 : decode cX1_write 63 = .ok (.iload 5, 2) := by decide +kernel
theorem dX1_write_65 : decode cX1_write 65 = .ok (.iastore, 1) := by decide +kernel
theorem dX1_write_66 : decode cX1_write 66 = .ok (.aload_n 0, 1) := by decide +kernel
theorem dX1_write_67 : decode cX1_write 67 = .ok (.dup, 1) := by decide +kernel
theorem dX1_write_68 : decode cX1_write 68 = .ok (.getfield 15, 3) := by decide +kernel
theorem dX1_write_71 : decode cX1_write 71 = .ok (.iconst 1, 1) := by decide +kernel
theorem dX1_write_72 : decode cX1_write 72 = .ok (.iadd, 1) := by decide +kernel
theorem dX1_write_73 : decode cX1_write 73 = .ok (.putfield 15, 3) := by decide +kernel
theorem dX1_write_76 : decode cX1_write 76 = .ok (.return_, 1) := by decide +kernel
theorem dX1_dropLast_0 : decode cX1_dropLast 0 = .ok (.aload_n 0, 1) := by decide +kernel
theorem dX1_dropLast_1 : decode cX1_dropLast 1 = .ok (.getfield 15, 3) := by decide +kernel
theorem dX1_dropLast_4 : decode cX1_dropLast 4 = .ok (.ifCond .le 13, 3) := by decide +kernel
theorem dX1_dropLast_7 : decode cX1_dropLast 7 = .ok (.aload_n 0, 1) := by decide +kernel
theorem dX1_dropLast_8 : decode cX1_dropLast 8 = .ok (.dup, 1) := by decide +kernel
theorem dX1_dropLast_9 : decode cX1_dropLast 9 = .ok (.getfield 15, 3) := by decide +kernel
theorem dX1_dropLast_12 : decode cX1_dropLast 12 = .ok (.iconst 1, 1) := by decide +kernel
theorem dX1_dropLast_13 : decode cX1_dropLast 13 = .ok (.isub, 1) := by decide +kernel
theorem dX1_dropLast_14 : decode cX1_dropLast 14 = .ok (.putfield 15, 3) := by decide +kernel
theorem dX1_dropLast_17 : decode cX1_dropLast 17 = .ok (.return_, 1) := by decide +kernel
theorem dX1_entry_0 : decode cX1_entry 0 = .ok (.iload_n 1, 1) := by decide +kernel
theorem dX1_entry_1 : decode cX1_entry 1 = .ok (.iconst 0, 1) := by decide +kernel
theorem dX1_entry_2 : decode cX1_entry 2 = .ok (.aload_n 0, 1) := by decide +kernel
theorem dX1_entry_3 : decode cX1_entry 3 = .ok (.getfield 15, 3) := by decide +kernel
theorem dX1_entry_6 : decode cX1_entry 6 = .ok (.iconst 1, 1) := by decide +kernel
theorem dX1_entry_7 : decode cX1_entry 7 = .ok (.isub, 1) := by decide +kernel
theorem dX1_entry_8 : decode cX1_entry 8 = .ok (.invokestatic 23, 3) := by decide +kernel
theorem dX1_entry_11 : decode cX1_entry 11 = .ok (.ifCond .eq 16, 3) := by decide +kernel
theorem dX1_entry_14 : decode cX1_entry 14 = .ok (.iload_n 2, 1) := by decide +kernel
theorem dX1_entry_15 : decode cX1_entry 15 = .ok (.iconst 0, 1) := by decide +kernel
theorem dX1_entry_16 : decode cX1_entry 16 = .ok (.iconst 4, 1) := by decide +kernel
theorem dX1_entry_17 : decode cX1_entry 17 = .ok (.invokestatic 23, 3) := by decide +kernel
theorem dX1_entry_20 : decode cX1_entry 20 = .ok (.ifCond .eq 7, 3) := by decide +kernel
theorem dX1_entry_23 : decode cX1_entry 23 = .ok (.iconst 1, 1) := by decide +kernel
theorem dX1_entry_24 : decode cX1_entry 24 = .ok (.goto 4, 3) := by decide +kernel
theorem dX1_entry_27 : decode cX1_entry 27 = .ok (.iconst 0, 1) := by decide +kernel
theorem dX1_entry_28 : decode cX1_entry 28 = .ok (.istore_n 3, 1) := by decide +kernel
theorem dX1_entry_29 : decode cX1_entry 29 = .ok (.iload_n 3, 1) := by decide +kernel
theorem dX1_entry_30 : decode cX1_entry 30 = .ok (.ifCond .eq 16, 3) := by decide +kernel
theorem dX1_entry_33 : decode cX1_entry 33 = .ok (.aload_n 0, 1) := by decide +kernel
theorem dX1_entry_34 : decode cX1_entry 34 = .ok (.getfield 11, 3) := by decide +kernel
theorem dX1_entry_37 : decode cX1_entry 37 = .ok (.iload_n 1, 1) := by decide +kernel
theorem dX1_entry_38 : decode cX1_entry 38 = .ok (.iconst 5, 1) := by decide +kernel
theorem dX1_entry_39 : decode cX1_entry 39 = .ok (.imul, 1) := by decide +kernel
theorem dX1_entry_40 : decode cX1_entry 40 = .ok (.iload_n 2, 1) := by decide +kernel
theorem dX1_entry_41 : decode cX1_entry 41 = .ok (.iadd, 1) := by decide +kernel
theorem dX1_entry_42 : decode cX1_entry 42 = .ok (.iaload, 1) := by decide +kernel
theorem dX1_entry_43 : decode cX1_entry 43 = .ok (.goto 4, 3) := by decide +kernel
theorem dX1_entry_46 : decode cX1_entry 46 = .ok (.iconst (-1), 1) := by decide +kernel
theorem dX1_entry_47 : decode cX1_entry 47 = .ok (.ireturn, 1) := by decide +kernel
theorem dX1_leapOf_0 : decode cX1_leapOf 0 = .ok (.aload_n 0, 1) := by decide +kernel
theorem dX1_leapOf_1 : decode cX1_leapOf 1 = .ok (.iload_n 1, 1) := by decide +kernel
theorem dX1_leapOf_2 : decode cX1_leapOf 2 = .ok (.iconst 4, 1) := by decide +kernel
theorem dX1_leapOf_3 : decode cX1_leapOf 3 = .ok (.invokevirtual 27, 3) := by decide +kernel
theorem dX1_leapOf_6 : decode cX1_leapOf 6 = .ok (.aload_n 0, 1) := by decide +kernel
theorem dX1_leapOf_7 : decode cX1_leapOf 7 = .ok (.iload_n 1, 1) := by decide +kernel
theorem dX1_leapOf_8 : decode cX1_leapOf 8 = .ok (.iconst 3, 1) := by decide +kernel
theorem dX1_leapOf_9 : decode cX1_leapOf 9 = .ok (.invokevirtual 27, 3) := by decide +kernel
theorem dX1_leapOf_12 : decode cX1_leapOf 12 = .ok (.isub, 1) := by decide +kernel
theorem dX1_leapOf_13 : decode cX1_leapOf 13 = .ok (.invokestatic 31, 3) := by decide +kernel
theorem dX1_leapOf_16 : decode cX1_leapOf 16 = .ok (.ireturn, 1) := by decide +kernel
theorem dX1_copyFrom_0 : decode cX1_copyFrom 0 = .ok (.aload_n 1, 1) := by decide +kernel
theorem dX1_copyFrom_1 : decode cX1_copyFrom 1 = .ok (.getfield 11, 3) := by decide +kernel
theorem dX1_copyFrom_4 : decode cX1_copyFrom 4 = .ok (.iconst 0, 1) := by decide +kernel
theorem dX1_copyFrom_5 : decode cX1_copyFrom 5 = .ok (.aload_n 0, 1) := by decide +kernel
theorem dX1_copyFrom_6 : decode cX1_copyFrom 6 = .ok (.getfield 11, 3) := by decide +kernel
theorem dX1_copyFrom_9 : decode cX1_copyFrom 9 = .ok (.iconst 0, 1) := by decide +kernel
theorem dX1_copyFrom_10 : decode cX1_copyFrom 10 = .ok (.sipush 600, 3) := by decide +kernel
theorem dX1_copyFrom_13 : decode cX1_copyFrom 13 = .ok (.invokestatic 37, 3) := by decide +kernel
theorem dX1_copyFrom_16 : decode cX1_copyFrom 16 = .ok (.aload_n 0, 1) := by decide +kernel
theorem dX1_copyFrom_17 : decode cX1_copyFrom 17 = .ok (.aload_n 1, 1) := by decide +kernel
theorem dX1_copyFrom_18 : decode cX1_copyFrom 18 = .ok (.getfield 15, 3) := by decide +kernel
theorem dX1_copyFrom_21 : decode cX1_copyFrom 21 = .ok (.putfield 15, 3) := by decide +kernel
theorem dX1_copyFrom_24 : decode cX1_copyFrom 24 = .ok (.return_, 1) := by decide +kernel
theorem dX2_init_0 : decode cX2_init 0 = .ok (.aload_n 0, 1) := by decide +kernel
theorem dX2_init_1 : decode cX2_init 1 = .ok (.invokespecial 3, 3) := by decide +kernel
theorem dX2_init_4 : decode cX2_init 4 = .ok (.aload_n 0, 1) := by decide +kernel
theorem dX2_init_5 : decode cX2_init 5 = .ok (.bipush 6, 2) := by decide +kernel
theorem dX2_init_7 : decode cX2_init 7 = .ok (.newarray .int, 2) := by decide +kernel
theorem dX2_init_9 : decode cX2_init 9 = .ok (.putfield 11, 3) := by decide +kernel
theorem dX2_init_12 : decode cX2_init 12 = .ok (.aload_n 0, 1) := by decide +kernel
theorem dX2_init_13 : decode cX2_init 13 = .ok (.bipush 6, 2) := by decide +kernel
theorem dX2_init_15 : decode cX2_init 15 = .ok (.newarray .int, 2) := by decide +kernel
theorem dX2_init_17 : decode cX2_init 17 = .ok (.putfield 15, 3) := by decide +kernel
theorem dX2_init_20 : decode cX2_init 20 = .ok (.aload_n 0, 1) := by decide +kernel
theorem dX2_init_21 : decode cX2_init 21 = .ok (.bipush 6, 2) := by decide +kernel
theorem dX2_init_23 : decode cX2_init 23 = .ok (.newarray .int, 2) := by decide +kernel
theorem dX2_init_25 : decode cX2_init 25 = .ok (.putfield 18, 3) := by decide +kernel
theorem dX2_init_28 : decode cX2_init 28 = .ok (.aload_n 0, 1) := by decide +kernel
theorem dX2_init_29 : decode cX2_init 29 = .ok (.bipush 6, 2) := by decide +kernel
theorem dX2_init_31 : decode cX2_init 31 = .ok (.newarray .int, 2) := by decide +kernel
theorem dX2_init_33 : decode cX2_init 33 = .ok (.putfield 21, 3) := by decide +kernel
theorem dX2_init_36 : decode cX2_init 36 = .ok (.aload_n 0, 1) := by decide +kernel
theorem dX2_init_37 : decode cX2_init 37 = .ok (.iconst 0, 1) := by decide +kernel
theorem dX2_init_38 : decode cX2_init 38 = .ok (.putfield 24, 3) := by decide +kernel
theorem dX2_init_41 : decode cX2_init 41 = .ok (.return_, 1) := by decide +kernel
theorem dX2_hasRoom_0 : decode cX2_hasRoom 0 = .ok (.aload_n 0, 1) := by decide +kernel
theorem dX2_hasRoom_1 : decode cX2_hasRoom 1 = .ok (.getfield 24, 3) := by decide +kernel
theorem dX2_hasRoom_4 : decode cX2_hasRoom 4 = .ok (.bipush 6, 2) := by decide +kernel
theorem dX2_hasRoom_6 : decode cX2_hasRoom 6 = .ok (.if_icmp .ge 7, 3) := by decide +kernel
theorem dX2_hasRoom_9 : decode cX2_hasRoom 9 = .ok (.iconst 1, 1) := by decide +kernel
theorem dX2_hasRoom_10 : decode cX2_hasRoom 10 = .ok (.goto 4, 3) := by decide +kernel
theorem dX2_hasRoom_13 : decode cX2_hasRoom 13 = .ok (.iconst 0, 1) := by decide +kernel
theorem dX2_hasRoom_14 : decode cX2_hasRoom 14 = .ok (.ireturn, 1) := by decide +kernel
theorem dX2_add_0 : decode cX2_add 0 = .ok (.aload_n 0, 1) := by decide +kernel
theorem dX2_add_1 : decode cX2_add 1 = .ok (.invokevirtual 28, 3) := by decide +kernel
theorem dX2_add_4 : decode cX2_add 4 = .ok (.ifCond .ne 5, 3) := by decide +kernel
theorem dX2_add_7 : decode cX2_add 7 = .ok (.iconst (-1), 1) := by decide +kernel
theorem dX2_add_8 : decode cX2_add 8 = .ok (.ireturn, 1) := by decide +kernel
theorem dX2_add_9 : decode cX2_add 9 = .ok (.aload_n 0, 1) := by decide +kernel
theorem dX2_add_10 : decode cX2_add 10 = .ok (.getfield 11, 3) := by decide +kernel
theorem dX2_add_13 : decode cX2_add 13 = .ok (.aload_n 0, 1) := by decide +kernel
theorem dX2_add_14 : decode cX2_add 14 = .ok (.getfield 24, 3) := by decide +kernel
theorem dX2_add_17 : decode cX2_add 17 = .ok (.iload_n 1, 1) := by decide +kernel
theorem dX2_add_18 : decode cX2_add 18 = .ok (.iastore, 1) := by decide +kernel
theorem dX2_add_19 : decode cX2_add 19 = .ok (.aload_n 0, 1) := by decide +kernel
theorem dX2_add_20 : decode cX2_add 20 = .ok (.getfield 15, 3) := by decide +kernel
theorem dX2_add_23 : decode cX2_add 23 = .ok (.aload_n 0, 1) := by decide +kernel
theorem dX2_add_24 : decode cX2_add 24 = .ok (.getfield 24, 3) := by decide +kernel
theorem dX2_add_27 : decode cX2_add 27 = .ok (.iload_n 2, 1) := by decide +kernel
theorem dX2_add_28 : decode cX2_add 28 = .ok (.iastore, 1) := by decide +kernel
theorem dX2_add_29 : decode cX2_add 29 = .ok (.aload_n 0, 1) := by decide +kernel
theorem dX2_add_30 : decode cX2_add 30 = .ok (.getfield 18, 3) := by decide +kernel
theorem dX2_add_33 : decode cX2_add 33 = .ok (.aload_n 0, 1) := by decide +kernel
theorem dX2_add_34 : decode cX2_add 34 = .ok (.getfield 24, 3) := by decide +kernel
theorem dX2_add_37 : decode cX2_add 37 = .ok (.iload_n 3, 1) := by decide +kernel
theorem dX2_add_38 : decode cX2_add 38 = .ok (.iastore, 1) := by decide +kernel
theorem dX2_add_39 : decode cX2_add 39 = .ok (.aload_n 0, 1) := by decide +kernel
theorem dX2_add_40 : decode cX2_add 40 = .ok (.getfield 21, 3) := by decide +kernel
theorem dX2_add_43 : decode cX2_add 43 = .ok (.aload_n 0, 1) := by decide +kernel
theorem dX2_add_44 : decode cX2_add 44 = .ok (.getfield 24, 3) := by decide +kernel
theorem dX2_add_47 : decode cX2_add 47 = .ok (.iload 4, 2) := by decide +kernel
theorem dX2_add_49 : decode cX2_add 49 = .ok (.iastore, 1) := by decide +kernel
theorem dX2_add_50 : decode cX2_add 50 = .ok (.aload_n 0, 1) := by decide +kernel
theorem dX2_add_51 : decode cX2_add 51 = .ok (.dup, 1) := by decide +kernel
theorem dX2_add_52 : decode cX2_add 52 = .ok (.getfield 24, 3) := by decide +kernel
theorem dX2_add_55 : decode cX2_add 55 = .ok (.iconst 1, 1) := by decide +kernel
theorem dX2_add_56 : decode cX2_add 56 = .ok (.iadd, 1) := by decide +kernel
theorem dX2_add_57 : decode cX2_add 57 = .ok (.putfield 24, 3) := by decide +kernel
theorem dX2_add_60 : decode cX2_add 60 = .ok (.aload_n 0, 1) := by decide +kernel
theorem dX2_add_61 : decode cX2_add 61 = .ok (.getfield 24, 3) := by decide +kernel
theorem dX2_add_64 : decode cX2_add 64 = .ok (.iconst 1, 1) := by decide +kernel
theorem dX2_add_65 : decode cX2_add 65 = .ok (.isub, 1) := by decide +kernel
theorem dX2_add_66 : decode cX2_add 66 = .ok (.ireturn, 1) := by decide +kernel
theorem dX2_anyWentBy_0 : decode cX2_anyWentBy 0 = .ok (.iconst 0, 1) := by decide +kernel
theorem dX2_anyWentBy_1 : decode cX2_anyWentBy 1 = .ok (.istore_n 2, 1) := by decide +kernel
theorem dX2_anyWentBy_2 : decode cX2_anyWentBy 2 = .ok (.iload_n 2, 1) := by decide +kernel
theorem dX2_anyWentBy_3 : decode cX2_anyWentBy 3 = .ok (.aload_n 0, 1) := by decide +kernel
theorem dX2_anyWentBy_4 : decode cX2_anyWentBy 4 = .ok (.getfield 24, 3) := by decide +kernel
theorem dX2_anyWentBy_7 : decode cX2_anyWentBy 7 = .ok (.if_icmp .ge 21, 3) := by decide +kernel
theorem dX2_anyWentBy_10 : decode cX2_anyWentBy 10 = .ok (.aload_n 0, 1) := by decide +kernel
theorem dX2_anyWentBy_11 : decode cX2_anyWentBy 11 = .ok (.getfield 15, 3) := by decide +kernel
theorem dX2_anyWentBy_14 : decode cX2_anyWentBy 14 = .ok (.iload_n 2, 1) := by decide +kernel
theorem dX2_anyWentBy_15 : decode cX2_anyWentBy 15 = .ok (.iaload, 1) := by decide +kernel
theorem dX2_anyWentBy_16 : decode cX2_anyWentBy 16 = .ok (.iload_n 1, 1) := by decide +kernel
theorem dX2_anyWentBy_17 : decode cX2_anyWentBy 17 = .ok (.if_icmp .ge 5, 3) := by decide +kernel
theorem dX2_anyWentBy_20 : decode cX2_anyWentBy 20 = .ok (.iconst 1, 1) := by decide +kernel
theorem dX2_anyWentBy_21 : decode cX2_anyWentBy 21 = .ok (.ireturn, 1) := by decide +kernel
theorem dX2_anyWentBy_22 : decode cX2_anyWentBy 22 = .ok (.iinc 2 1, 3) := by decide +kernel
theorem dX2_anyWentBy_25 : decode cX2_anyWentBy 25 = .ok (.goto (-23), 3) := by decide +kernel
theorem dX2_anyWentBy_28 : decode cX2_anyWentBy 28 = .ok (.iconst 0, 1) := by decide +kernel
theorem dX2_anyWentBy_29 : decode cX2_anyWentBy 29 = .ok (.ireturn, 1) := by decide +kernel
theorem dX2_copyFrom_0 : decode cX2_copyFrom 0 = .ok (.aload_n 1, 1) := by decide +kernel
theorem dX2_copyFrom_1 : decode cX2_copyFrom 1 = .ok (.getfield 11, 3) := by decide +kernel
theorem dX2_copyFrom_4 : decode cX2_copyFrom 4 = .ok (.iconst 0, 1) := by decide +kernel
theorem dX2_copyFrom_5 : decode cX2_copyFrom 5 = .ok (.aload_n 0, 1) := by decide +kernel
theorem dX2_copyFrom_6 : decode cX2_copyFrom 6 = .ok (.getfield 11, 3) := by decide +kernel
theorem dX2_copyFrom_9 : decode cX2_copyFrom 9 = .ok (.iconst 0, 1) := by decide +kernel
theorem dX2_copyFrom_10 : decode cX2_copyFrom 10 = .ok (.bipush 6, 2) := by decide +kernel
theorem dX2_copyFrom_12 : decode cX2_copyFrom 12 = .ok (.invokestatic 32, 3) := by decide +kernel
theorem dX2_copyFrom_15 : decode cX2_copyFrom 15 = .ok (.aload_n 1, 1) := by decide +kernel
theorem dX2_copyFrom_16 : decode cX2_copyFrom 16 = .ok (.getfield 15, 3) := by decide +kernel
theorem dX2_copyFrom_19 : decode cX2_copyFrom 19 = .ok (.iconst 0, 1) := by decide +kernel
theorem dX2_copyFrom_20 : decode cX2_copyFrom 20 = .ok (.aload_n 0, 1) := by decide +kernel
theorem dX2_copyFrom_21 : decode cX2_copyFrom 21 = .ok (.getfield 15, 3) := by decide +kernel
theorem dX2_copyFrom_24 : decode cX2_copyFrom 24 = .ok (.iconst 0, 1) := by decide +kernel
theorem dX2_copyFrom_25 : decode cX2_copyFrom 25 = .ok (.bipush 6, 2) := by decide +kernel
theorem dX2_copyFrom_27 : decode cX2_copyFrom 27 = .ok (.invokestatic 32, 3) := by decide +kernel
theorem dX2_copyFrom_30 : decode cX2_copyFrom 30 = .ok (.aload_n 1, 1) := by decide +kernel
theorem dX2_copyFrom_31 : decode cX2_copyFrom 31 = .ok (.getfield 18, 3) := by decide +kernel
theorem dX2_copyFrom_34 : decode cX2_copyFrom 34 = .ok (.iconst 0, 1) := by decide +kernel
theorem dX2_copyFrom_35 : decode cX2_copyFrom 35 = .ok (.aload_n 0, 1) := by decide +kernel
theorem dX2_copyFrom_36 : decode cX2_copyFrom 36 = .ok (.getfield 18, 3) := by decide +kernel
theorem dX2_copyFrom_39 : decode cX2_copyFrom 39 = .ok (.iconst 0, 1) := by decide +kernel
theorem dX2_copyFrom_40 : decode cX2_copyFrom 40 = .ok (.bipush 6, 2) := by decide +kernel
theorem dX2_copyFrom_42 : decode cX2_copyFrom 42 = .ok (.invokestatic 32, 3) := by decide +kernel
theorem dX2_copyFrom_45 : decode cX2_copyFrom 45 = .ok (.aload_n 1, 1) := by decide +kernel
theorem dX2_copyFrom_46 : decode cX2_copyFrom 46 = .ok (.getfield 21, 3) := by decide +kernel
theorem dX2_copyFrom_49 : decode cX2_copyFrom 49 = .ok (.iconst 0, 1) := by decide +kernel
theorem dX2_copyFrom_50 : decode cX2_copyFrom 50 = .ok (.aload_n 0, 1) := by decide +kernel
theorem dX2_copyFrom_51 : decode cX2_copyFrom 51 = .ok (.getfield 21, 3) := by decide +kernel
theorem dX2_copyFrom_54 : decode cX2_copyFrom 54 = .ok (.iconst 0, 1) := by decide +kernel
theorem dX2_copyFrom_55 : decode cX2_copyFrom 55 = .ok (.bipush 6, 2) := by decide +kernel
theorem dX2_copyFrom_57 : decode cX2_copyFrom 57 = .ok (.invokestatic 32, 3) := by decide +kernel
theorem dX2_copyFrom_60 : decode cX2_copyFrom 60 = .ok (.aload_n 0, 1) := by decide +kernel
theorem dX2_copyFrom_61 : decode cX2_copyFrom 61 = .ok (.aload_n 1, 1) := by decide +kernel
theorem dX2_copyFrom_62 : decode cX2_copyFrom 62 = .ok (.getfield 24, 3) := by decide +kernel
theorem dX2_copyFrom_65 : decode cX2_copyFrom 65 = .ok (.putfield 24, 3) := by decide +kernel
theorem dX2_copyFrom_68 : decode cX2_copyFrom 68 = .ok (.return_, 1) := by decide +kernel
theorem dX3_init_0 : decode cX3_init 0 = .ok (.aload_n 0, 1) := by decide +kernel
theorem dX3_init_1 : decode cX3_init 1 = .ok (.invokespecial 3, 3) := by decide +kernel
theorem dX3_init_4 : decode cX3_init 4 = .ok (.aload_n 0, 1) := by decide +kernel
theorem dX3_init_5 : decode cX3_init 5 = .ok (.sipush 400, 3) := by decide +kernel
theorem dX3_init_8 : decode cX3_init 8 = .ok (.newarray .int, 2) := by decide +kernel
theorem dX3_init_10 : decode cX3_init 10 = .ok (.putfield 11, 3) := by decide +kernel
theorem dX3_init_13 : decode cX3_init 13 = .ok (.aload_n 0, 1) := by decide +kernel
theorem dX3_init_14 : decode cX3_init 14 = .ok (.bipush 16, 2) := by decide +kernel
theorem dX3_init_16 : decode cX3_init 16 = .ok (.newarray .int, 2) := by decide +kernel
theorem dX3_init_18 : decode cX3_init 18 = .ok (.putfield 17, 3) := by decide +kernel
theorem dX3_init_21 : decode cX3_init 21 = .ok (.aload_n 0, 1) := by decide +kernel
theorem dX3_init_22 : decode cX3_init 22 = .ok (.bipush 16, 2) := by decide +kernel
theorem dX3_init_24 : decode cX3_init 24 = .ok (.newarray .int, 2) := by decide +kernel
theorem dX3_init_26 : decode cX3_init 26 = .ok (.putfield 20, 3) := by decide +kernel
theorem dX3_init_29 : decode cX3_init 29 = .ok (.aload_n 0, 1) := by decide +kernel
theorem dX3_init_30 : decode cX3_init 30 = .ok (.bipush 16, 2) := by decide +kernel
theorem dX3_init_32 : decode cX3_init 32 = .ok (.newarray .int, 2) := by decide +kernel
theorem dX3_init_34 : decode cX3_init 34 = .ok (.putfield 23, 3) := by decide +kernel
theorem dX3_init_37 : decode cX3_init 37 = .ok (.aload_n 0, 1) := by decide +kernel
theorem dX3_init_38 : decode cX3_init 38 = .ok (.bipush 40, 2) := by decide +kernel
theorem dX3_init_40 : decode cX3_init 40 = .ok (.newarray .int, 2) := by decide +kernel
theorem dX3_init_42 : decode cX3_init 42 = .ok (.putfield 26, 3) := by decide +kernel
theorem dX3_init_45 : decode cX3_init 45 = .ok (.aload_n 0, 1) := by decide +kernel
theorem dX3_init_46 : decode cX3_init 46 = .ok (.iconst 0, 1) := by decide +kernel
theorem dX3_init_47 : decode cX3_init 47 = .ok (.putfield 29, 3) := by decide +kernel
theorem dX3_init_50 : decode cX3_init 50 = .ok (.aload_n 0, 1) := by decide +kernel
theorem dX3_init_51 : decode cX3_init 51 = .ok (.iconst 0, 1) := by decide +kernel
theorem dX3_init_52 : decode cX3_init 52 = .ok (.putfield 33, 3) := by decide +kernel
theorem dX3_init_55 : decode cX3_init 55 = .ok (.return_, 1) := by decide +kernel
theorem dX3_clear_0 : decode cX3_clear 0 = .ok (.aload_n 0, 1) := by decide +kernel
theorem dX3_clear_1 : decode cX3_clear 1 = .ok (.iconst 0, 1) := by decide +kernel
theorem dX3_clear_2 : decode cX3_clear 2 = .ok (.putfield 29, 3) := by decide +kernel
theorem dX3_clear_5 : decode cX3_clear 5 = .ok (.aload_n 0, 1) := by decide +kernel
theorem dX3_clear_6 : decode cX3_clear 6 = .ok (.iconst 0, 1) := by decide +kernel
theorem dX3_clear_7 : decode cX3_clear 7 = .ok (.putfield 33, 3) := by decide +kernel
theorem dX3_clear_10 : decode cX3_clear 10 = .ok (.return_, 1) := by decide +kernel
theorem dX3_isFull_0 : decode cX3_isFull 0 = .ok (.aload_n 0, 1) := by decide +kernel
theorem dX3_isFull_1 : decode cX3_isFull 1 = .ok (.getfield 33, 3) := by decide +kernel
theorem dX3_isFull_4 : decode cX3_isFull 4 = .ok (.bipush 16, 2) := by decide +kernel
theorem dX3_isFull_6 : decode cX3_isFull 6 = .ok (.if_icmp .lt 7, 3) := by decide +kernel
theorem dX3_isFull_9 : decode cX3_isFull 9 = .ok (.iconst 1, 1) := by decide +kernel
theorem dX3_isFull_10 : decode cX3_isFull 10 = .ok (.goto 4, 3) := by decide +kernel
theorem dX3_isFull_13 : decode cX3_isFull 13 = .ok (.iconst 0, 1) := by decide +kernel
theorem dX3_isFull_14 : decode cX3_isFull 14 = .ok (.ireturn, 1) := by decide +kernel
theorem dX3_startLine_0 : decode cX3_startLine 0 = .ok (.aload_n 0, 1) := by decide +kernel
theorem dX3_startLine_1 : decode cX3_startLine 1 = .ok (.invokevirtual 36, 3) := by decide +kernel
theorem dX3_startLine_4 : decode cX3_startLine 4 = .ok (.ifCond .ne 16, 3) := by decide +kernel
theorem dX3_startLine_7 : decode cX3_startLine 7 = .ok (.aload_n 0, 1) := by decide +kernel
theorem dX3_startLine_8 : decode cX3_startLine 8 = .ok (.getfield 17, 3) := by decide +kernel
theorem dX3_startLine_11 : decode cX3_startLine 11 = .ok (.aload_n 0, 1) := by decide +kernel
theorem dX3_startLine_12 : decode cX3_startLine 12 = .ok (.getfield 33, 3) := by decide +kernel
theorem dX3_startLine_15 : decode cX3_startLine 15 = .ok (.aload_n 0, 1) := by decide +kernel
theorem dX3_startLine_16 : decode cX3_startLine 16 = .ok (.getfield 29, 3) := by decide +kernel
theorem dX3_startLine_19 : decode cX3_startLine 19 = .ok (.iastore, 1) := by decide +kernel
theorem dX3_startLine_20 : decode cX3_startLine 20 = .ok (.return_, 1) := by decide +kernel
theorem dX3_endAge_0 : decode cX3_endAge 0 = .ok (.aload_n 0, 1) := by decide +kernel
theorem dX3_endAge_1 : decode cX3_endAge 1 = .ok (.invokevirtual 36, 3) := by decide +kernel
theorem dX3_endAge_4 : decode cX3_endAge 4 = .ok (.ifCond .ne 16, 3) := by decide +kernel
theorem dX3_endAge_7 : decode cX3_endAge 7 = .ok (.aload_n 0, 1) := by decide +kernel
theorem dX3_endAge_8 : decode cX3_endAge 8 = .ok (.getfield 20, 3) := by decide +kernel
theorem dX3_endAge_11 : decode cX3_endAge 11 = .ok (.aload_n 0, 1) := by decide +kernel
theorem dX3_endAge_12 : decode cX3_endAge 12 = .ok (.getfield 33, 3) := by decide +kernel
theorem dX3_endAge_15 : decode cX3_endAge 15 = .ok (.aload_n 0, 1) := by decide +kernel
theorem dX3_endAge_16 : decode cX3_endAge 16 = .ok (.getfield 29, 3) := by decide +kernel
theorem dX3_endAge_19 : decode cX3_endAge 19 = .ok (.iastore, 1) := by decide +kernel
theorem dX3_endAge_20 : decode cX3_endAge 20 = .ok (.return_, 1) := by decide +kernel
theorem dX3_endLine_0 : decode cX3_endLine 0 = .ok (.aload_n 0, 1) := by decide +kernel
theorem dX3_endLine_1 : decode cX3_endLine 1 = .ok (.invokevirtual 36, 3) := by decide +kernel
theorem dX3_endLine_4 : decode cX3_endLine 4 = .ok (.ifCond .ne 26, 3) := by decide +kernel
theorem dX3_endLine_7 : decode cX3_endLine 7 = .ok (.aload_n 0, 1) := by decide +kernel
theorem dX3_endLine_8 : decode cX3_endLine 8 = .ok (.getfield 23, 3) := by decide +kernel
theorem dX3_endLine_11 : decode cX3_endLine 11 = .ok (.aload_n 0, 1) := by decide +kernel
theorem dX3_endLine_12 : decode cX3_endLine 12 = .ok (.getfield 33, 3) := by decide +kernel
theorem dX3_endLine_15 : decode cX3_endLine 15 = .ok (.aload_n 0, 1) := by decide +kernel
theorem dX3_endLine_16 : decode cX3_endLine 16 = .ok (.getfield 29, 3) := by decide +kernel
theorem dX3_endLine_19 : decode cX3_endLine 19 = .ok (.iastore, 1) := by decide +kernel
theorem dX3_endLine_20 : decode cX3_endLine 20 = .ok (.aload_n 0, 1) := by decide +kernel
theorem dX3_endLine_21 : decode cX3_endLine 21 = .ok (.dup, 1) := by decide +kernel
theorem dX3_endLine_22 : decode cX3_endLine 22 = .ok (.getfield 33, 3) := by decide +kernel
theorem dX3_endLine_25 : decode cX3_endLine 25 = .ok (.iconst 1, 1) := by decide +kernel
theorem dX3_endLine_26 : decode cX3_endLine 26 = .ok (.iadd, 1) := by decide +kernel
theorem dX3_endLine_27 : decode cX3_endLine 27 = .ok (.putfield 33, 3) := by decide +kernel
theorem dX3_endLine_30 : decode cX3_endLine 30 = .ok (.return_, 1) := by decide +kernel
theorem dX3_addFact_0 : decode cX3_addFact 0 = .ok (.aload_n 0, 1) := by decide +kernel
theorem dX3_addFact_1 : decode cX3_addFact 1 = .ok (.sipush 10000, 3) := by decide +kernel
theorem dX3_addFact_4 : decode cX3_addFact 4 = .ok (.iload_n 1, 1) := by decide +kernel
theorem dX3_addFact_5 : decode cX3_addFact 5 = .ok (.iadd, 1) := by decide +kernel
theorem dX3_addFact_6 : decode cX3_addFact 6 = .ok (.bipush 8, 2) := by decide +kernel
theorem dX3_addFact_8 : decode cX3_addFact 8 = .ok (.isub, 1) := by decide +kernel
theorem dX3_addFact_9 : decode cX3_addFact 9 = .ok (.invokevirtual 42, 3) := by decide +kernel
theorem dX3_addFact_12 : decode cX3_addFact 12 = .ok (.return_, 1) := by decide +kernel
theorem dX3_add_0 : decode cX3_add 0 = .ok (.aload_n 0, 1) := by decide +kernel
theorem dX3_add_1 : decode cX3_add 1 = .ok (.getfield 29, 3) := by decide +kernel
theorem dX3_add_4 : decode cX3_add 4 = .ok (.sipush 400, 3) := by decide +kernel
theorem dX3_add_7 : decode cX3_add 7 = .ok (.if_icmp .ge 23, 3) := by decide +kernel
theorem dX3_add_10 : decode cX3_add 10 = .ok (.aload_n 0, 1) := by decide +kernel
theorem dX3_add_11 : decode cX3_add 11 = .ok (.getfield 11, 3) := by decide +kernel
theorem dX3_add_14 : decode cX3_add 14 = .ok (.aload_n 0, 1) := by decide +kernel
theorem dX3_add_15 : decode cX3_add 15 = .ok (.getfield 29, 3) := by decide +kernel
theorem dX3_add_18 : decode cX3_add 18 = .ok (.iload_n 1, 1) := by decide +kernel
theorem dX3_add_19 : decode cX3_add 19 = .ok (.iastore, 1) := by decide +kernel
theorem dX3_add_20 : decode cX3_add 20 = .ok (.aload_n 0, 1) := by decide +kernel
theorem dX3_add_21 : decode cX3_add 21 = .ok (.dup, 1) := by decide +kernel
theorem dX3_add_22 : decode cX3_add 22 = .ok (.getfield 29, 3) := by decide +kernel
theorem dX3_add_25 : decode cX3_add 25 = .ok (.iconst 1, 1) := by decide +kernel
theorem dX3_add_26 : decode cX3_add 26 = .ok (.iadd, 1) := by decide +kernel
theorem dX3_add_27 : decode cX3_add 27 = .ok (.putfield 29, 3) := by decide +kernel
theorem dX3_add_30 : decode cX3_add 30 = .ok (.return_, 1) := by decide +kernel
theorem dX3_ageBy_0 : decode cX3_ageBy 0 = .ok (.iconst 0, 1) := by decide +kernel
theorem dX3_ageBy_1 : decode cX3_ageBy 1 = .ok (.istore_n 2, 1) := by decide +kernel
theorem dX3_ageBy_2 : decode cX3_ageBy 2 = .ok (.iload_n 2, 1) := by decide +kernel
theorem dX3_ageBy_3 : decode cX3_ageBy 3 = .ok (.aload_n 0, 1) := by decide +kernel
theorem dX3_ageBy_4 : decode cX3_ageBy 4 = .ok (.getfield 33, 3) := by decide +kernel
theorem dX3_ageBy_7 : decode cX3_ageBy 7 = .ok (.if_icmp .ge 75, 3) := by decide +kernel
theorem dX3_ageBy_10 : decode cX3_ageBy 10 = .ok (.aload_n 0, 1) := by decide +kernel
theorem dX3_ageBy_11 : decode cX3_ageBy 11 = .ok (.getfield 20, 3) := by decide +kernel
theorem dX3_ageBy_14 : decode cX3_ageBy 14 = .ok (.iload_n 2, 1) := by decide +kernel
theorem dX3_ageBy_15 : decode cX3_ageBy 15 = .ok (.iaload, 1) := by decide +kernel
theorem dX3_ageBy_16 : decode cX3_ageBy 16 = .ok (.aload_n 0, 1) := by decide +kernel
theorem dX3_ageBy_17 : decode cX3_ageBy 17 = .ok (.getfield 23, 3) := by decide +kernel
theorem dX3_ageBy_20 : decode cX3_ageBy 20 = .ok (.iload_n 2, 1) := by decide +kernel
theorem dX3_ageBy_21 : decode cX3_ageBy 21 = .ok (.iaload, 1) := by decide +kernel
theorem dX3_ageBy_22 : decode cX3_ageBy 22 = .ok (.if_icmp .ne 7, 3) := by decide +kernel
theorem dX3_ageBy_25 : decode cX3_ageBy 25 = .ok (.iconst 1, 1) := by decide +kernel
theorem dX3_ageBy_26 : decode cX3_ageBy 26 = .ok (.goto 4, 3) := by decide +kernel
theorem dX3_ageBy_29 : decode cX3_ageBy 29 = .ok (.iconst 0, 1) := by decide +kernel
theorem dX3_ageBy_30 : decode cX3_ageBy 30 = .ok (.istore_n 3, 1) := by decide +kernel
theorem dX3_ageBy_31 : decode cX3_ageBy 31 = .ok (.iload_n 3, 1) := by decide +kernel
theorem dX3_ageBy_32 : decode cX3_ageBy 32 = .ok (.ifCond .ne 23, 3) := by decide +kernel
theorem dX3_ageBy_35 : decode cX3_ageBy 35 = .ok (.aload_n 0, 1) := by decide +kernel
theorem dX3_ageBy_36 : decode cX3_ageBy 36 = .ok (.aload_n 0, 1) := by decide +kernel
theorem dX3_ageBy_37 : decode cX3_ageBy 37 = .ok (.getfield 20, 3) := by decide +kernel
theorem dX3_ageBy_40 : decode cX3_ageBy 40 = .ok (.iload_n 2, 1) := by decide +kernel
theorem dX3_ageBy_41 : decode cX3_ageBy 41 = .ok (.iaload, 1) := by decide +kernel
theorem dX3_ageBy_42 : decode cX3_ageBy 42 = .ok (.aload_n 0, 1) := by decide +kernel
theorem dX3_ageBy_43 : decode cX3_ageBy 43 = .ok (.getfield 23, 3) := by decide +kernel
theorem dX3_ageBy_46 : decode cX3_ageBy 46 = .ok (.iload_n 2, 1) := by decide +kernel
theorem dX3_ageBy_47 : decode cX3_ageBy 47 = .ok (.iaload, 1) := by decide +kernel
theorem dX3_ageBy_48 : decode cX3_ageBy 48 = .ok (.aload_n 1, 1) := by decide +kernel
theorem dX3_ageBy_49 : decode cX3_ageBy 49 = .ok (.invokevirtual 46, 3) := by decide +kernel
theorem dX3_ageBy_52 : decode cX3_ageBy 52 = .ok (.ifCond .eq 24, 3) := by decide +kernel
theorem dX3_ageBy_55 : decode cX3_ageBy 55 = .ok (.aload_n 0, 1) := by decide +kernel
theorem dX3_ageBy_56 : decode cX3_ageBy 56 = .ok (.aload_n 0, 1) := by decide +kernel
theorem dX3_ageBy_57 : decode cX3_ageBy 57 = .ok (.getfield 17, 3) := by decide +kernel
theorem dX3_ageBy_60 : decode cX3_ageBy 60 = .ok (.iload_n 2, 1) := by decide +kernel
theorem dX3_ageBy_61 : decode cX3_ageBy 61 = .ok (.iaload, 1) := by decide +kernel
theorem dX3_ageBy_62 : decode cX3_ageBy 62 = .ok (.aload_n 0, 1) := by decide +kernel
theorem dX3_ageBy_63 : decode cX3_ageBy 63 = .ok (.getfield 20, 3) := by decide +kernel
theorem dX3_ageBy_66 : decode cX3_ageBy 66 = .ok (.iload_n 2, 1) := by decide +kernel
theorem dX3_ageBy_67 : decode cX3_ageBy 67 = .ok (.iaload, 1) := by decide +kernel
theorem dX3_ageBy_68 : decode cX3_ageBy 68 = .ok (.aload_n 1, 1) := by decide +kernel
theorem dX3_ageBy_69 : decode cX3_ageBy 69 = .ok (.invokevirtual 46, 3) := by decide +kernel
theorem dX3_ageBy_72 : decode cX3_ageBy 72 = .ok (.invokestatic 50, 3) := by decide +kernel
theorem dX3_ageBy_75 : decode cX3_ageBy 75 = .ok (.ireturn, 1) := by decide +kernel
theorem dX3_ageBy_76 : decode cX3_ageBy 76 = .ok (.iinc 2 1, 3) := by decide +kernel
theorem dX3_ageBy_79 : decode cX3_ageBy 79 = .ok (.goto (-77), 3) := by decide +kernel
theorem dX3_ageBy_82 : decode cX3_ageBy 82 = .ok (.aload_n 1, 1) := by decide +kernel
theorem dX3_ageBy_83 : decode cX3_ageBy 83 = .ok (.iconst 0, 1) := by decide +kernel
theorem dX3_ageBy_84 : decode cX3_ageBy 84 = .ok (.iaload, 1) := by decide +kernel
theorem dX3_ageBy_85 : decode cX3_ageBy 85 = .ok (.invokestatic 50, 3) := by decide +kernel
theorem dX3_ageBy_88 : decode cX3_ageBy 88 = .ok (.ireturn, 1) := by decide +kernel
theorem dX3_held_0 : decode cX3_held 0 = .ok (.iconst 0, 1) := by decide +kernel
theorem dX3_held_1 : decode cX3_held 1 = .ok (.sipush 999, 3) := by decide +kernel
theorem dX3_held_4 : decode cX3_held 4 = .ok (.iload_n 0, 1) := by decide +kernel
theorem dX3_held_5 : decode cX3_held 5 = .ok (.invokestatic 54, 3) := by decide +kernel
theorem dX3_held_8 : decode cX3_held 8 = .ok (.invokestatic 60, 3) := by decide +kernel
theorem dX3_held_11 : decode cX3_held 11 = .ok (.ireturn, 1) := by decide +kernel
theorem dX3_work_0 : decode cX3_work 0 = .ok (.iconst 0, 1) := by decide +kernel
theorem dX3_work_1 : decode cX3_work 1 = .ok (.istore 4, 2) := by decide +kernel
theorem dX3_work_3 : decode cX3_work 3 = .ok (.iload_n 1, 1) := by decide +kernel
theorem dX3_work_4 : decode cX3_work 4 = .ok (.istore 5, 2) := by decide +kernel
theorem dX3_work_6 : decode cX3_work 6 = .ok (.iload 5, 2) := by decide +kernel
theorem dX3_work_8 : decode cX3_work 8 = .ok (.iload_n 2, 1) := by decide +kernel
theorem dX3_work_9 : decode cX3_work 9 = .ok (.if_icmp .ge 130, 3) := by decide +kernel
theorem dX3_work_12 : decode cX3_work 12 = .ok (.aload_n 0, 1) := by decide +kernel
theorem dX3_work_13 : decode cX3_work 13 = .ok (.getfield 11, 3) := by decide +kernel
theorem dX3_work_16 : decode cX3_work 16 = .ok (.iload 5, 2) := by decide +kernel
theorem dX3_work_18 : decode cX3_work 18 = .ok (.iaload, 1) := by decide +kernel
theorem dX3_work_19 : decode cX3_work 19 = .ok (.istore 6, 2) := by decide +kernel
theorem dX3_work_21 : decode cX3_work 21 = .ok (.iload 6, 2) := by decide +kernel
theorem dX3_work_23 : decode cX3_work 23 = .ok (.ifCond .lt 29, 3) := by decide +kernel
theorem dX3_work_26 : decode cX3_work 26 = .ok (.iload 4, 2) := by decide +kernel
theorem dX3_work_28 : decode cX3_work 28 = .ok (.bipush 40, 2) := by decide +kernel
theorem dX3_work_30 : decode cX3_work 30 = .ok (.if_icmp .ge 22, 3) := by decide +kernel
theorem dX3_work_33 : decode cX3_work 33 = .ok (.aload_n 0, 1) := by decide +kernel
theorem dX3_work_34 : decode cX3_work 34 = .ok (.getfield 26, 3) := by decide +kernel
theorem dX3_work_37 : decode cX3_work 37 = .ok (.iload 4, 2) := by decide +kernel
theorem dX3_work_39 : decode cX3_work 39 = .ok (.iload 6, 2) := by decide +kernel
theorem dX3_work_41 : decode cX3_work 41 = .ok (.aload_n 3, 1) := by decide +kernel
theorem dX3_work_42 : decode cX3_work 42 = .ok (.invokestatic 63, 3) := by decide +kernel
theorem dX3_work_45 : decode cX3_work 45 = .ok (.iastore, 1) := by decide +kernel
theorem dX3_work_46 : decode cX3_work 46 = .ok (.iinc 4 1, 3) := by decide +kernel
theorem dX3_work_49 : decode cX3_work 49 = .ok (.goto 84, 3) := by decide +kernel
theorem dX3_work_52 : decode cX3_work 52 = .ok (.iload 6, 2) := by decide +kernel
theorem dX3_work_54 : decode cX3_work 54 = .ok (.bipush (-7), 2) := by decide +kernel
theorem dX3_work_56 : decode cX3_work 56 = .ok (.if_icmp .ne 32, 3) := by decide +kernel
theorem dX3_work_59 : decode cX3_work 59 = .ok (.iload 4, 2) := by decide +kernel
theorem dX3_work_61 : decode cX3_work 61 = .ok (.iconst 1, 1) := by decide +kernel
theorem dX3_work_62 : decode cX3_work 62 = .ok (.if_icmp .lt 26, 3) := by decide +kernel
theorem dX3_work_65 : decode cX3_work 65 = .ok (.aload_n 0, 1) := by decide +kernel
theorem dX3_work_66 : decode cX3_work 66 = .ok (.getfield 26, 3) := by decide +kernel
theorem dX3_work_69 : decode cX3_work 69 = .ok (.iload 4, 2) := by decide +kernel
theorem dX3_work_71 : decode cX3_work 71 = .ok (.iconst 1, 1) := by decide +kernel
theorem dX3_work_72 : decode cX3_work 72 = .ok (.isub, 1) := by decide +kernel
theorem dX3_work_73 : decode cX3_work 73 = .ok (.iconst 1, 1) := by decide +kernel
theorem dX3_work_74 : decode cX3_work 74 = .ok (.aload_n 0, 1) := by decide +kernel
theorem dX3_work_75 : decode cX3_work 75 = .ok (.getfield 26, 3) := by decide +kernel
theorem dX3_work_78 : decode cX3_work 78 = .ok (.iload 4, 2) := by decide +kernel
theorem dX3_work_80 : decode cX3_work 80 = .ok (.iconst 1, 1) := by decide +kernel
theorem dX3_work_81 : decode cX3_work 81 = .ok (.isub, 1) := by decide +kernel
theorem dX3_work_82 : decode cX3_work 82 = .ok (.iaload, 1) := by decide +kernel
theorem dX3_work_83 : decode cX3_work 83 = .ok (.isub, 1) := by decide +kernel
theorem dX3_work_84 : decode cX3_work 84 = .ok (.iastore, 1) := by decide +kernel
theorem dX3_work_85 : decode cX3_work 85 = .ok (.goto 48, 3) := by decide +kernel
theorem dX3_work_88 : decode cX3_work 88 = .ok (.iload 6, 2) := by decide +kernel
theorem dX3_work_90 : decode cX3_work 90 = .ok (.ifCond .ge 43, 3) := by decide +kernel
theorem dX3_work_93 : decode cX3_work 93 = .ok (.iload 4, 2) := by decide +kernel
theorem dX3_work_95 : decode cX3_work 95 = .ok (.iconst 2, 1) := by decide +kernel
theorem dX3_work_96 : decode cX3_work 96 = .ok (.if_icmp .lt 37, 3) := by decide +kernel
theorem dX3_work_99 : decode cX3_work 99 = .ok (.iinc 4 (-1), 3) := by decide +kernel
theorem dX3_work_102 : decode cX3_work 102 = .ok (.aload_n 0, 1) := by decide +kernel
theorem dX3_work_103 : decode cX3_work 103 = .ok (.getfield 26, 3) := by decide +kernel
theorem dX3_work_106 : decode cX3_work 106 = .ok (.iload 4, 2) := by decide +kernel
theorem dX3_work_108 : decode cX3_work 108 = .ok (.iconst 1, 1) := by decide +kernel
theorem dX3_work_109 : decode cX3_work 109 = .ok (.isub, 1) := by decide +kernel
theorem dX3_work_110 : decode cX3_work 110 = .ok (.iload 6, 2) := by decide +kernel
theorem dX3_work_112 : decode cX3_work 112 = .ok (.ineg, 1) := by decide +kernel
theorem dX3_work_113 : decode cX3_work 113 = .ok (.aload_n 0, 1) := by decide +kernel
theorem dX3_work_114 : decode cX3_work 114 = .ok (.getfield 26, 3) := by decide +kernel
theorem dX3_work_117 : decode cX3_work 117 = .ok (.iload 4, 2) := by decide +kernel
theorem dX3_work_119 : decode cX3_work 119 = .ok (.iconst 1, 1) := by decide +kernel
theorem dX3_work_120 : decode cX3_work 120 = .ok (.isub, 1) := by decide +kernel
theorem dX3_work_121 : decode cX3_work 121 = .ok (.iaload, 1) := by decide +kernel
theorem dX3_work_122 : decode cX3_work 122 = .ok (.aload_n 0, 1) := by decide +kernel
theorem dX3_work_123 : decode cX3_work 123 = .ok (.getfield 26, 3) := by decide +kernel
theorem dX3_work_126 : decode cX3_work 126 = .ok (.iload 4, 2) := by decide +kernel
theorem dX3_work_128 : decode cX3_work 128 = .ok (.iaload, 1) := by decide +kernel
theorem dX3_work_129 : decode cX3_work 129 = .ok (.invokestatic 67, 3) := by decide +kernel
theorem dX3_work_132 : decode cX3_work 132 = .ok (.iastore, 1) := by decide +kernel
theorem dX3_work_133 : decode cX3_work 133 = .ok (.iinc 5 1, 3) := by decide +kernel
theorem dX3_work_136 : decode cX3_work 136 = .ok (.goto (-130), 3) := by decide +kernel
theorem dX3_work_139 : decode cX3_work 139 = .ok (.iload 4, 2) := by decide +kernel
theorem dX3_work_141 : decode cX3_work 141 = .ok (.ifCond .le 12, 3) := by decide +kernel
theorem dX3_work_144 : decode cX3_work 144 = .ok (.aload_n 0, 1) := by decide +kernel
theorem dX3_work_145 : decode cX3_work 145 = .ok (.getfield 26, 3) := by decide +kernel
theorem dX3_work_148 : decode cX3_work 148 = .ok (.iconst 0, 1) := by decide +kernel
theorem dX3_work_149 : decode cX3_work 149 = .ok (.iaload, 1) := by decide +kernel
theorem dX3_work_150 : decode cX3_work 150 = .ok (.goto 4, 3) := by decide +kernel
theorem dX3_work_153 : decode cX3_work 153 = .ok (.iconst 0, 1) := by decide +kernel
theorem dX3_work_154 : decode cX3_work 154 = .ok (.ireturn, 1) := by decide +kernel
theorem dX3_operand_0 : decode cX3_operand 0 = .ok (.iload_n 0, 1) := by decide +kernel
theorem dX3_operand_1 : decode cX3_operand 1 = .ok (.sipush 10000, 3) := by decide +kernel
theorem dX3_operand_4 : decode cX3_operand 4 = .ok (.isub, 1) := by decide +kernel
theorem dX3_operand_5 : decode cX3_operand 5 = .ok (.istore_n 2, 1) := by decide +kernel
theorem dX3_operand_6 : decode cX3_operand 6 = .ok (.iload_n 2, 1) := by decide +kernel
theorem dX3_operand_7 : decode cX3_operand 7 = .ok (.ifCond .ge 5, 3) := by decide +kernel
theorem dX3_operand_10 : decode cX3_operand 10 = .ok (.iload_n 0, 1) := by decide +kernel
theorem dX3_operand_11 : decode cX3_operand 11 = .ok (.ireturn, 1) := by decide +kernel
theorem dX3_operand_12 : decode cX3_operand 12 = .ok (.iload_n 2, 1) := by decide +kernel
theorem dX3_operand_13 : decode cX3_operand 13 = .ok (.aload_n 1, 1) := by decide +kernel
theorem dX3_operand_14 : decode cX3_operand 14 = .ok (.arraylength, 1) := by decide +kernel
theorem dX3_operand_15 : decode cX3_operand 15 = .ok (.if_icmp .ge 9, 3) := by decide +kernel
theorem dX3_operand_18 : decode cX3_operand 18 = .ok (.aload_n 1, 1) := by decide +kernel
theorem dX3_operand_19 : decode cX3_operand 19 = .ok (.iload_n 2, 1) := by decide +kernel
theorem dX3_operand_20 : decode cX3_operand 20 = .ok (.iaload, 1) := by decide +kernel
theorem dX3_operand_21 : decode cX3_operand 21 = .ok (.goto 4, 3) := by decide +kernel
theorem dX3_operand_24 : decode cX3_operand 24 = .ok (.iconst 0, 1) := by decide +kernel
theorem dX3_operand_25 : decode cX3_operand 25 = .ok (.ireturn, 1) := by decide +kernel
theorem dX3_joined_0 : decode cX3_joined 0 = .ok (.iload_n 0, 1) := by decide +kernel
theorem dX3_joined_1 : decode cX3_joined 1 = .ok (.tableswitch 160 6 26 #[156, 160, 160, 160, 160, 160, 160, 160, 160, 160, 160, 160, 99, 103, 107, 111, 160, 160, 123, 134, 145], 99) := by decide +kernel
theorem dX3_joined_100 : decode cX3_joined 100 = .ok (.iload_n 1, 1) := by decide +kernel
theorem dX3_joined_101 : decode cX3_joined 101 = .ok (.iload_n 2, 1) := by decide +kernel
theorem dX3_joined_102 : decode cX3_joined 102 = .ok (.iadd, 1) := by decide +kernel
theorem dX3_joined_103 : decode cX3_joined 103 = .ok (.ireturn, 1) := by decide +kernel
theorem dX3_joined_104 : decode cX3_joined 104 = .ok (.iload_n 1, 1) := by decide +kernel
theorem dX3_joined_105 : decode cX3_joined 105 = .ok (.iload_n 2, 1) := by decide +kernel
theorem dX3_joined_106 : decode cX3_joined 106 = .ok (.isub, 1) := by decide +kernel
theorem dX3_joined_107 : decode cX3_joined 107 = .ok (.ireturn, 1) := by decide +kernel
theorem dX3_joined_108 : decode cX3_joined 108 = .ok (.iload_n 1, 1) := by decide +kernel
theorem dX3_joined_109 : decode cX3_joined 109 = .ok (.iload_n 2, 1) := by decide +kernel
theorem dX3_joined_110 : decode cX3_joined 110 = .ok (.imul, 1) := by decide +kernel
theorem dX3_joined_111 : decode cX3_joined 111 = .ok (.ireturn, 1) := by decide +kernel
theorem dX3_joined_112 : decode cX3_joined 112 = .ok (.iload_n 2, 1) := by decide +kernel
theorem dX3_joined_113 : decode cX3_joined 113 = .ok (.ifCond .ne 7, 3) := by decide +kernel
theorem dX3_joined_116 : decode cX3_joined 116 = .ok (.iconst 0, 1) := by decide +kernel
theorem dX3_joined_117 : decode cX3_joined 117 = .ok (.goto 6, 3) := by decide +kernel
theorem dX3_joined_120 : decode cX3_joined 120 = .ok (.iload_n 1, 1) := by decide +kernel
theorem dX3_joined_121 : decode cX3_joined 121 = .ok (.iload_n 2, 1) := by decide +kernel
theorem dX3_joined_122 : decode cX3_joined 122 = .ok (.idiv, 1) := by decide +kernel
theorem dX3_joined_123 : decode cX3_joined 123 = .ok (.ireturn, 1) := by decide +kernel
theorem dX3_joined_124 : decode cX3_joined 124 = .ok (.iload_n 1, 1) := by decide +kernel
theorem dX3_joined_125 : decode cX3_joined 125 = .ok (.iload_n 2, 1) := by decide +kernel
theorem dX3_joined_126 : decode cX3_joined 126 = .ok (.if_icmp .ge 7, 3) := by decide +kernel
theorem dX3_joined_129 : decode cX3_joined 129 = .ok (.iconst 1, 1) := by decide +kernel
theorem dX3_joined_130 : decode cX3_joined 130 = .ok (.goto 4, 3) := by decide +kernel
theorem dX3_joined_133 : decode cX3_joined 133 = .ok (.iconst 0, 1) := by decide +kernel
theorem dX3_joined_134 : decode cX3_joined 134 = .ok (.ireturn, 1) := by decide +kernel
theorem dX3_joined_135 : decode cX3_joined 135 = .ok (.iload_n 1, 1) := by decide +kernel
theorem dX3_joined_136 : decode cX3_joined 136 = .ok (.iload_n 2, 1) := by decide +kernel
theorem dX3_joined_137 : decode cX3_joined 137 = .ok (.if_icmp .ne 7, 3) := by decide +kernel
theorem dX3_joined_140 : decode cX3_joined 140 = .ok (.iconst 1, 1) := by decide +kernel
theorem dX3_joined_141 : decode cX3_joined 141 = .ok (.goto 4, 3) := by decide +kernel
theorem dX3_joined_144 : decode cX3_joined 144 = .ok (.iconst 0, 1) := by decide +kernel
theorem dX3_joined_145 : decode cX3_joined 145 = .ok (.ireturn, 1) := by decide +kernel
theorem dX3_joined_146 : decode cX3_joined 146 = .ok (.iload_n 1, 1) := by decide +kernel
theorem dX3_joined_147 : decode cX3_joined 147 = .ok (.iload_n 2, 1) := by decide +kernel
theorem dX3_joined_148 : decode cX3_joined 148 = .ok (.if_icmp .le 7, 3) := by decide +kernel
theorem dX3_joined_151 : decode cX3_joined 151 = .ok (.iconst 1, 1) := by decide +kernel
theorem dX3_joined_152 : decode cX3_joined 152 = .ok (.goto 4, 3) := by decide +kernel
theorem dX3_joined_155 : decode cX3_joined 155 = .ok (.iconst 0, 1) := by decide +kernel
theorem dX3_joined_156 : decode cX3_joined 156 = .ok (.ireturn, 1) := by decide +kernel
theorem dX3_joined_157 : decode cX3_joined 157 = .ok (.iload_n 1, 1) := by decide +kernel
theorem dX3_joined_158 : decode cX3_joined 158 = .ok (.iload_n 2, 1) := by decide +kernel
theorem dX3_joined_159 : decode cX3_joined 159 = .ok (.iand, 1) := by decide +kernel
theorem dX3_joined_160 : decode cX3_joined 160 = .ok (.ireturn, 1) := by decide +kernel
theorem dX3_joined_161 : decode cX3_joined 161 = .ok (.iload_n 1, 1) := by decide +kernel
theorem dX3_joined_162 : decode cX3_joined 162 = .ok (.iload_n 2, 1) := by decide +kernel
theorem dX3_joined_163 : decode cX3_joined 163 = .ok (.ior, 1) := by decide +kernel
theorem dX3_joined_164 : decode cX3_joined 164 = .ok (.ireturn, 1) := by decide +kernel
theorem dX3_copyFrom_0 : decode cX3_copyFrom 0 = .ok (.aload_n 1, 1) := by decide +kernel
theorem dX3_copyFrom_1 : decode cX3_copyFrom 1 = .ok (.getfield 11, 3) := by decide +kernel
theorem dX3_copyFrom_4 : decode cX3_copyFrom 4 = .ok (.iconst 0, 1) := by decide +kernel
theorem dX3_copyFrom_5 : decode cX3_copyFrom 5 = .ok (.aload_n 0, 1) := by decide +kernel
theorem dX3_copyFrom_6 : decode cX3_copyFrom 6 = .ok (.getfield 11, 3) := by decide +kernel
theorem dX3_copyFrom_9 : decode cX3_copyFrom 9 = .ok (.iconst 0, 1) := by decide +kernel
theorem dX3_copyFrom_10 : decode cX3_copyFrom 10 = .ok (.sipush 400, 3) := by decide +kernel
theorem dX3_copyFrom_13 : decode cX3_copyFrom 13 = .ok (.invokestatic 71, 3) := by decide +kernel
theorem dX3_copyFrom_16 : decode cX3_copyFrom 16 = .ok (.aload_n 1, 1) := by decide +kernel
theorem dX3_copyFrom_17 : decode cX3_copyFrom 17 = .ok (.getfield 17, 3) := by decide +kernel
theorem dX3_copyFrom_20 : decode cX3_copyFrom 20 = .ok (.iconst 0, 1) := by decide +kernel
theorem dX3_copyFrom_21 : decode cX3_copyFrom 21 = .ok (.aload_n 0, 1) := by decide +kernel
theorem dX3_copyFrom_22 : decode cX3_copyFrom 22 = .ok (.getfield 17, 3) := by decide +kernel
theorem dX3_copyFrom_25 : decode cX3_copyFrom 25 = .ok (.iconst 0, 1) := by decide +kernel
theorem dX3_copyFrom_26 : decode cX3_copyFrom 26 = .ok (.bipush 16, 2) := by decide +kernel
theorem dX3_copyFrom_28 : decode cX3_copyFrom 28 = .ok (.invokestatic 71, 3) := by decide +kernel
theorem dX3_copyFrom_31 : decode cX3_copyFrom 31 = .ok (.aload_n 1, 1) := by decide +kernel
theorem dX3_copyFrom_32 : decode cX3_copyFrom 32 = .ok (.getfield 20, 3) := by decide +kernel
theorem dX3_copyFrom_35 : decode cX3_copyFrom 35 = .ok (.iconst 0, 1) := by decide +kernel
theorem dX3_copyFrom_36 : decode cX3_copyFrom 36 = .ok (.aload_n 0, 1) := by decide +kernel
theorem dX3_copyFrom_37 : decode cX3_copyFrom 37 = .ok (.getfield 20, 3) := by decide +kernel
theorem dX3_copyFrom_40 : decode cX3_copyFrom 40 = .ok (.iconst 0, 1) := by decide +kernel
theorem dX3_copyFrom_41 : decode cX3_copyFrom 41 = .ok (.bipush 16, 2) := by decide +kernel
theorem dX3_copyFrom_43 : decode cX3_copyFrom 43 = .ok (.invokestatic 71, 3) := by decide +kernel
theorem dX3_copyFrom_46 : decode cX3_copyFrom 46 = .ok (.aload_n 1, 1) := by decide +kernel
theorem dX3_copyFrom_47 : decode cX3_copyFrom 47 = .ok (.getfield 23, 3) := by decide +kernel
theorem dX3_copyFrom_50 : decode cX3_copyFrom 50 = .ok (.iconst 0, 1) := by decide +kernel
theorem dX3_copyFrom_51 : decode cX3_copyFrom 51 = .ok (.aload_n 0, 1) := by decide +kernel
theorem dX3_copyFrom_52 : decode cX3_copyFrom 52 = .ok (.getfield 23, 3) := by decide +kernel
theorem dX3_copyFrom_55 : decode cX3_copyFrom 55 = .ok (.iconst 0, 1) := by decide +kernel
theorem dX3_copyFrom_56 : decode cX3_copyFrom 56 = .ok (.bipush 16, 2) := by decide +kernel
theorem dX3_copyFrom_58 : decode cX3_copyFrom 58 = .ok (.invokestatic 71, 3) := by decide +kernel
theorem dX3_copyFrom_61 : decode cX3_copyFrom 61 = .ok (.aload_n 0, 1) := by decide +kernel
theorem dX3_copyFrom_62 : decode cX3_copyFrom 62 = .ok (.aload_n 1, 1) := by decide +kernel
theorem dX3_copyFrom_63 : decode cX3_copyFrom 63 = .ok (.getfield 29, 3) := by decide +kernel
theorem dX3_copyFrom_66 : decode cX3_copyFrom 66 = .ok (.putfield 29, 3) := by decide +kernel
theorem dX3_copyFrom_69 : decode cX3_copyFrom 69 = .ok (.aload_n 0, 1) := by decide +kernel
theorem dX3_copyFrom_70 : decode cX3_copyFrom 70 = .ok (.aload_n 1, 1) := by decide +kernel
theorem dX3_copyFrom_71 : decode cX3_copyFrom 71 = .ok (.getfield 33, 3) := by decide +kernel
theorem dX3_copyFrom_74 : decode cX3_copyFrom 74 = .ok (.putfield 33, 3) := by decide +kernel
theorem dX3_copyFrom_77 : decode cX3_copyFrom 77 = .ok (.return_, 1) := by decide +kernel
theorem dX4_init_0 : decode cX4_init 0 = .ok (.aload_n 0, 1) := by decide +kernel
theorem dX4_init_1 : decode cX4_init 1 = .ok (.invokespecial 3, 3) := by decide +kernel
theorem dX4_init_4 : decode cX4_init 4 = .ok (.aload_n 0, 1) := by decide +kernel
theorem dX4_init_5 : decode cX4_init 5 = .ok (.new 9, 3) := by decide +kernel
theorem dX4_init_8 : decode cX4_init 8 = .ok (.dup, 1) := by decide +kernel
theorem dX4_init_9 : decode cX4_init 9 = .ok (.invokespecial 11, 3) := by decide +kernel
theorem dX4_init_12 : decode cX4_init 12 = .ok (.putfield 12, 3) := by decide +kernel
theorem dX4_init_15 : decode cX4_init 15 = .ok (.aload_n 0, 1) := by decide +kernel
theorem dX4_init_16 : decode cX4_init 16 = .ok (.new 18, 3) := by decide +kernel
theorem dX4_init_19 : decode cX4_init 19 = .ok (.dup, 1) := by decide +kernel
theorem dX4_init_20 : decode cX4_init 20 = .ok (.invokespecial 20, 3) := by decide +kernel
theorem dX4_init_23 : decode cX4_init 23 = .ok (.putfield 21, 3) := by decide +kernel
theorem dX4_init_26 : decode cX4_init 26 = .ok (.aload_n 0, 1) := by decide +kernel
theorem dX4_init_27 : decode cX4_init 27 = .ok (.bipush 40, 2) := by decide +kernel
theorem dX4_init_29 : decode cX4_init 29 = .ok (.newarray .int, 2) := by decide +kernel
theorem dX4_init_31 : decode cX4_init 31 = .ok (.putfield 25, 3) := by decide +kernel
theorem dX4_init_34 : decode cX4_init 34 = .ok (.aload_n 0, 1) := by decide +kernel
theorem dX4_init_35 : decode cX4_init 35 = .ok (.iconst 0, 1) := by decide +kernel
theorem dX4_init_36 : decode cX4_init 36 = .ok (.putfield 29, 3) := by decide +kernel
theorem dX4_init_39 : decode cX4_init 39 = .ok (.aload_n 0, 1) := by decide +kernel
theorem dX4_init_40 : decode cX4_init 40 = .ok (.iconst 0, 1) := by decide +kernel
theorem dX4_init_41 : decode cX4_init 41 = .ok (.putfield 33, 3) := by decide +kernel
theorem dX4_init_44 : decode cX4_init 44 = .ok (.aload_n 0, 1) := by decide +kernel
theorem dX4_init_45 : decode cX4_init 45 = .ok (.iconst 0, 1) := by decide +kernel
theorem dX4_init_46 : decode cX4_init 46 = .ok (.putfield 36, 3) := by decide +kernel
theorem dX4_init_49 : decode cX4_init 49 = .ok (.aload_n 0, 1) := by decide +kernel
theorem dX4_init_50 : decode cX4_init 50 = .ok (.iconst 0, 1) := by decide +kernel
theorem dX4_init_51 : decode cX4_init 51 = .ok (.putfield 39, 3) := by decide +kernel
theorem dX4_init_54 : decode cX4_init 54 = .ok (.aload_n 0, 1) := by decide +kernel
theorem dX4_init_55 : decode cX4_init 55 = .ok (.iconst 0, 1) := by decide +kernel
theorem dX4_init_56 : decode cX4_init 56 = .ok (.putfield 43, 3) := by decide +kernel
theorem dX4_init_59 : decode cX4_init 59 = .ok (.aload_n 0, 1) := by decide +kernel
theorem dX4_init_60 : decode cX4_init 60 = .ok (.iconst (-1), 1) := by decide +kernel
theorem dX4_init_61 : decode cX4_init 61 = .ok (.putfield 46, 3) := by decide +kernel
theorem dX4_init_64 : decode cX4_init 64 = .ok (.return_, 1) := by decide +kernel
theorem dX4_readAll_0 : decode cX4_readAll 0 = .ok (.aload_n 0, 1) := by decide +kernel
theorem dX4_readAll_1 : decode cX4_readAll 1 = .ok (.invokevirtual 49, 3) := by decide +kernel
theorem dX4_readAll_4 : decode cX4_readAll 4 = .ok (.iconst 0, 1) := by decide +kernel
theorem dX4_readAll_5 : decode cX4_readAll 5 = .ok (.istore_n 2, 1) := by decide +kernel
theorem dX4_readAll_6 : decode cX4_readAll 6 = .ok (.iload_n 2, 1) := by decide +kernel
theorem dX4_readAll_7 : decode cX4_readAll 7 = .ok (.sipush 400, 3) := by decide +kernel
theorem dX4_readAll_10 : decode cX4_readAll 10 = .ok (.if_icmp .gt 145, 3) := by decide +kernel
theorem dX4_readAll_13 : decode cX4_readAll 13 = .ok (.aload_n 0, 1) := by decide +kernel
theorem dX4_readAll_14 : decode cX4_readAll 14 = .ok (.getfield 39, 3) := by decide +kernel
theorem dX4_readAll_17 : decode cX4_readAll 17 = .ok (.ifCond .ne 138, 3) := by decide +kernel
theorem dX4_readAll_20 : decode cX4_readAll 20 = .ok (.aload_n 0, 1) := by decide +kernel
theorem dX4_readAll_21 : decode cX4_readAll 21 = .ok (.getfield 21, 3) := by decide +kernel
theorem dX4_readAll_24 : decode cX4_readAll 24 = .ok (.aload_n 1, 1) := by decide +kernel
theorem dX4_readAll_25 : decode cX4_readAll 25 = .ok (.invokevirtual 54, 3) := by decide +kernel
theorem dX4_readAll_28 : decode cX4_readAll 28 = .ok (.aload_n 0, 1) := by decide +kernel
theorem dX4_readAll_29 : decode cX4_readAll 29 = .ok (.getfield 33, 3) := by decide +kernel
theorem dX4_readAll_32 : decode cX4_readAll 32 = .ok (.tableswitch 106 0 4 #[36, 50, 64, 78, 92], 36) := by decide +kernel
theorem dX4_readAll_68 : decode cX4_readAll 68 = .ok (.aload_n 0, 1) := by decide +kernel
theorem dX4_readAll_69 : decode cX4_readAll 69 = .ok (.aload_n 0, 1) := by decide +kernel
theorem dX4_readAll_70 : decode cX4_readAll 70 = .ok (.getfield 21, 3) := by decide +kernel
theorem dX4_readAll_73 : decode cX4_readAll 73 = .ok (.getfield 58, 3) := by decide +kernel
theorem dX4_readAll_76 : decode cX4_readAll 76 = .ok (.invokevirtual 61, 3) := by decide +kernel
theorem dX4_readAll_79 : decode cX4_readAll 79 = .ok (.goto 70, 3) := by decide +kernel
theorem dX4_readAll_82 : decode cX4_readAll 82 = .ok (.aload_n 0, 1) := by decide +kernel
theorem dX4_readAll_83 : decode cX4_readAll 83 = .ok (.aload_n 0, 1) := by decide +kernel
theorem dX4_readAll_84 : decode cX4_readAll 84 = .ok (.getfield 21, 3) := by decide +kernel
theorem dX4_readAll_87 : decode cX4_readAll 87 = .ok (.getfield 58, 3) := by decide +kernel
theorem dX4_readAll_90 : decode cX4_readAll 90 = .ok (.invokevirtual 65, 3) := by decide +kernel
theorem dX4_readAll_93 : decode cX4_readAll 93 = .ok (.goto 56, 3) := by decide +kernel
theorem dX4_readAll_96 : decode cX4_readAll 96 = .ok (.aload_n 0, 1) := by decide +kernel
theorem dX4_readAll_97 : decode cX4_readAll 97 = .ok (.aload_n 0, 1) := by decide +kernel
theorem dX4_readAll_98 : decode cX4_readAll 98 = .ok (.getfield 21, 3) := by decide +kernel
theorem dX4_readAll_101 : decode cX4_readAll 101 = .ok (.getfield 58, 3) := by decide +kernel
theorem dX4_readAll_104 : decode cX4_readAll 104 = .ok (.invokevirtual 68, 3) := by decide +kernel
theorem dX4_readAll_107 : decode cX4_readAll 107 = .ok (.goto 42, 3) := by decide +kernel
theorem dX4_readAll_110 : decode cX4_readAll 110 = .ok (.aload_n 0, 1) := by decide +kernel
theorem dX4_readAll_111 : decode cX4_readAll 111 = .ok (.aload_n 0, 1) := by decide +kernel
theorem dX4_readAll_112 : decode cX4_readAll 112 = .ok (.getfield 21, 3) := by decide +kernel
theorem dX4_readAll_115 : decode cX4_readAll 115 = .ok (.getfield 58, 3) := by decide +kernel
theorem dX4_readAll_118 : decode cX4_readAll 118 = .ok (.invokevirtual 71, 3) := by decide +kernel
theorem dX4_readAll_121 : decode cX4_readAll 121 = .ok (.goto 28, 3) := by decide +kernel
theorem dX4_readAll_124 : decode cX4_readAll 124 = .ok (.aload_n 0, 1) := by decide +kernel
theorem dX4_readAll_125 : decode cX4_readAll 125 = .ok (.aload_n 0, 1) := by decide +kernel
theorem dX4_readAll_126 : decode cX4_readAll 126 = .ok (.getfield 21, 3) := by decide +kernel
theorem dX4_readAll_129 : decode cX4_readAll 129 = .ok (.getfield 58, 3) := by decide +kernel
theorem dX4_readAll_132 : decode cX4_readAll 132 = .ok (.invokevirtual 74, 3) := by decide +kernel
theorem dX4_readAll_135 : decode cX4_readAll 135 = .ok (.goto 14, 3) := by decide +kernel
theorem dX4_readAll_138 : decode cX4_readAll 138 = .ok (.aload_n 0, 1) := by decide +kernel
theorem dX4_readAll_139 : decode cX4_readAll 139 = .ok (.aload_n 0, 1) := by decide +kernel
theorem dX4_readAll_140 : decode cX4_readAll 140 = .ok (.getfield 21, 3) := by decide +kernel
theorem dX4_readAll_143 : decode cX4_readAll 143 = .ok (.getfield 58, 3) := by decide +kernel
theorem dX4_readAll_146 : decode cX4_readAll 146 = .ok (.invokevirtual 77, 3) := by decide +kernel
theorem dX4_readAll_149 : decode cX4_readAll 149 = .ok (.iinc 2 1, 3) := by decide +kernel
theorem dX4_readAll_152 : decode cX4_readAll 152 = .ok (.goto (-146), 3) := by decide +kernel
theorem dX4_readAll_155 : decode cX4_readAll 155 = .ok (.aload_n 0, 1) := by decide +kernel
theorem dX4_readAll_156 : decode cX4_readAll 156 = .ok (.getfield 43, 3) := by decide +kernel
theorem dX4_readAll_159 : decode cX4_readAll 159 = .ok (.ifCond .ne 7, 3) := by decide +kernel
theorem dX4_readAll_162 : decode cX4_readAll 162 = .ok (.iconst 1, 1) := by decide +kernel
theorem dX4_readAll_163 : decode cX4_readAll 163 = .ok (.goto 4, 3) := by decide +kernel
theorem dX4_readAll_166 : decode cX4_readAll 166 = .ok (.iconst 0, 1) := by decide +kernel
theorem dX4_readAll_167 : decode cX4_readAll 167 = .ok (.ireturn, 1) := by decide +kernel
theorem dX4_begin_0 : decode cX4_begin 0 = .ok (.aload_n 0, 1) := by decide +kernel
theorem dX4_begin_1 : decode cX4_begin 1 = .ok (.getfield 12, 3) := by decide +kernel
theorem dX4_begin_4 : decode cX4_begin 4 = .ok (.invokevirtual 80, 3) := by decide +kernel
theorem dX4_begin_7 : decode cX4_begin 7 = .ok (.aload_n 0, 1) := by decide +kernel
theorem dX4_begin_8 : decode cX4_begin 8 = .ok (.getfield 21, 3) := by decide +kernel
theorem dX4_begin_11 : decode cX4_begin 11 = .ok (.invokevirtual 83, 3) := by decide +kernel
theorem dX4_begin_14 : decode cX4_begin 14 = .ok (.aload_n 0, 1) := by decide +kernel
theorem dX4_begin_15 : decode cX4_begin 15 = .ok (.iconst 0, 1) := by decide +kernel
theorem dX4_begin_16 : decode cX4_begin 16 = .ok (.putfield 29, 3) := by decide +kernel
theorem dX4_begin_19 : decode cX4_begin 19 = .ok (.aload_n 0, 1) := by decide +kernel
theorem dX4_begin_20 : decode cX4_begin 20 = .ok (.iconst 0, 1) := by decide +kernel
theorem dX4_begin_21 : decode cX4_begin 21 = .ok (.putfield 33, 3) := by decide +kernel
theorem dX4_begin_24 : decode cX4_begin 24 = .ok (.aload_n 0, 1) := by decide +kernel
theorem dX4_begin_25 : decode cX4_begin 25 = .ok (.iconst 0, 1) := by decide +kernel
theorem dX4_begin_26 : decode cX4_begin 26 = .ok (.putfield 36, 3) := by decide +kernel
theorem dX4_begin_29 : decode cX4_begin 29 = .ok (.aload_n 0, 1) := by decide +kernel
theorem dX4_begin_30 : decode cX4_begin 30 = .ok (.iconst 0, 1) := by decide +kernel
theorem dX4_begin_31 : decode cX4_begin 31 = .ok (.putfield 39, 3) := by decide +kernel
theorem dX4_begin_34 : decode cX4_begin 34 = .ok (.aload_n 0, 1) := by decide +kernel
theorem dX4_begin_35 : decode cX4_begin 35 = .ok (.iconst 0, 1) := by decide +kernel
theorem dX4_begin_36 : decode cX4_begin 36 = .ok (.putfield 43, 3) := by decide +kernel
theorem dX4_begin_39 : decode cX4_begin 39 = .ok (.aload_n 0, 1) := by decide +kernel
theorem dX4_begin_40 : decode cX4_begin 40 = .ok (.iconst (-1), 1) := by decide +kernel
theorem dX4_begin_41 : decode cX4_begin 41 = .ok (.putfield 46, 3) := by decide +kernel
theorem dX4_begin_44 : decode cX4_begin 44 = .ok (.return_, 1) := by decide +kernel
theorem dX4_refuse_0 : decode cX4_refuse 0 = .ok (.aload_n 0, 1) := by decide +kernel
theorem dX4_refuse_1 : decode cX4_refuse 1 = .ok (.iload_n 1, 1) := by decide +kernel
theorem dX4_refuse_2 : decode cX4_refuse 2 = .ok (.putfield 43, 3) := by decide +kernel
theorem dX4_refuse_5 : decode cX4_refuse 5 = .ok (.aload_n 0, 1) := by decide +kernel
theorem dX4_refuse_6 : decode cX4_refuse 6 = .ok (.aload_n 0, 1) := by decide +kernel
theorem dX4_refuse_7 : decode cX4_refuse 7 = .ok (.getfield 21, 3) := by decide +kernel
theorem dX4_refuse_10 : decode cX4_refuse 10 = .ok (.getfield 84, 3) := by decide +kernel
theorem dX4_refuse_13 : decode cX4_refuse 13 = .ok (.putfield 46, 3) := by decide +kernel
theorem dX4_refuse_16 : decode cX4_refuse 16 = .ok (.aload_n 0, 1) := by decide +kernel
theorem dX4_refuse_17 : decode cX4_refuse 17 = .ok (.iconst 1, 1) := by decide +kernel
theorem dX4_refuse_18 : decode cX4_refuse 18 = .ok (.putfield 39, 3) := by decide +kernel
theorem dX4_refuse_21 : decode cX4_refuse 21 = .ok (.return_, 1) := by decide +kernel
theorem dX4_takeLine_0 : decode cX4_takeLine 0 = .ok (.iload_n 1, 1) := by decide +kernel
theorem dX4_takeLine_1 : decode cX4_takeLine 1 = .ok (.ifCond .ne 11, 3) := by decide +kernel
theorem dX4_takeLine_4 : decode cX4_takeLine 4 = .ok (.aload_n 0, 1) := by decide +kernel
theorem dX4_takeLine_5 : decode cX4_takeLine 5 = .ok (.iconst 1, 1) := by decide +kernel
theorem dX4_takeLine_6 : decode cX4_takeLine 6 = .ok (.putfield 39, 3) := by decide +kernel
theorem dX4_takeLine_9 : decode cX4_takeLine 9 = .ok (.goto 51, 3) := by decide +kernel
theorem dX4_takeLine_12 : decode cX4_takeLine 12 = .ok (.iload_n 1, 1) := by decide +kernel
theorem dX4_takeLine_13 : decode cX4_takeLine 13 = .ok (.iconst 3, 1) := by decide +kernel
theorem dX4_takeLine_14 : decode cX4_takeLine 14 = .ok (.if_icmp .eq 11, 3) := by decide +kernel
theorem dX4_takeLine_17 : decode cX4_takeLine 17 = .ok (.aload_n 0, 1) := by decide +kernel
theorem dX4_takeLine_18 : decode cX4_takeLine 18 = .ok (.iconst 1, 1) := by decide +kernel
theorem dX4_takeLine_19 : decode cX4_takeLine 19 = .ok (.invokevirtual 87, 3) := by decide +kernel
theorem dX4_takeLine_22 : decode cX4_takeLine 22 = .ok (.goto 38, 3) := by decide +kernel
theorem dX4_takeLine_25 : decode cX4_takeLine 25 = .ok (.aload_n 0, 1) := by decide +kernel
theorem dX4_takeLine_26 : decode cX4_takeLine 26 = .ok (.getfield 12, 3) := by decide +kernel
theorem dX4_takeLine_29 : decode cX4_takeLine 29 = .ok (.invokevirtual 90, 3) := by decide +kernel
theorem dX4_takeLine_32 : decode cX4_takeLine 32 = .ok (.ifCond .eq 11, 3) := by decide +kernel
theorem dX4_takeLine_35 : decode cX4_takeLine 35 = .ok (.aload_n 0, 1) := by decide +kernel
theorem dX4_takeLine_36 : decode cX4_takeLine 36 = .ok (.iconst 3, 1) := by decide +kernel
theorem dX4_takeLine_37 : decode cX4_takeLine 37 = .ok (.invokevirtual 87, 3) := by decide +kernel
theorem dX4_takeLine_40 : decode cX4_takeLine 40 = .ok (.goto 20, 3) := by decide +kernel
theorem dX4_takeLine_43 : decode cX4_takeLine 43 = .ok (.aload_n 0, 1) := by decide +kernel
theorem dX4_takeLine_44 : decode cX4_takeLine 44 = .ok (.getfield 12, 3) := by decide +kernel
theorem dX4_takeLine_47 : decode cX4_takeLine 47 = .ok (.invokevirtual 94, 3) := by decide +kernel
theorem dX4_takeLine_50 : decode cX4_takeLine 50 = .ok (.aload_n 0, 1) := by decide +kernel
theorem dX4_takeLine_51 : decode cX4_takeLine 51 = .ok (.iconst 0, 1) := by decide +kernel
theorem dX4_takeLine_52 : decode cX4_takeLine 52 = .ok (.putfield 36, 3) := by decide +kernel
theorem dX4_takeLine_55 : decode cX4_takeLine 55 = .ok (.aload_n 0, 1) := by decide +kernel
theorem dX4_takeLine_56 : decode cX4_takeLine 56 = .ok (.iconst 1, 1) := by decide +kernel
theorem dX4_takeLine_57 : decode cX4_takeLine 57 = .ok (.putfield 33, 3) := by decide +kernel
theorem dX4_takeLine_60 : decode cX4_takeLine 60 = .ok (.return_, 1) := by decide +kernel
theorem dX4_takeUnit_0 : decode cX4_takeUnit 0 = .ok (.aload_n 0, 1) := by decide +kernel
theorem dX4_takeUnit_1 : decode cX4_takeUnit 1 = .ok (.iconst 4, 1) := by decide +kernel
theorem dX4_takeUnit_2 : decode cX4_takeUnit 2 = .ok (.putfield 33, 3) := by decide +kernel
theorem dX4_takeUnit_5 : decode cX4_takeUnit 5 = .ok (.iload_n 1, 1) := by decide +kernel
theorem dX4_takeUnit_6 : decode cX4_takeUnit 6 = .ok (.iconst 2, 1) := by decide +kernel
theorem dX4_takeUnit_7 : decode cX4_takeUnit 7 = .ok (.if_icmp .ne 20, 3) := by decide +kernel
theorem dX4_takeUnit_10 : decode cX4_takeUnit 10 = .ok (.aload_n 0, 1) := by decide +kernel
theorem dX4_takeUnit_11 : decode cX4_takeUnit 11 = .ok (.getfield 12, 3) := by decide +kernel
theorem dX4_takeUnit_14 : decode cX4_takeUnit 14 = .ok (.aload_n 0, 1) := by decide +kernel
theorem dX4_takeUnit_15 : decode cX4_takeUnit 15 = .ok (.getfield 21, 3) := by decide +kernel
theorem dX4_takeUnit_18 : decode cX4_takeUnit 18 = .ok (.getfield 97, 3) := by decide +kernel
theorem dX4_takeUnit_21 : decode cX4_takeUnit 21 = .ok (.invokevirtual 100, 3) := by decide +kernel
theorem dX4_takeUnit_24 : decode cX4_takeUnit 24 = .ok (.goto 26, 3) := by decide +kernel
theorem dX4_takeUnit_27 : decode cX4_takeUnit 27 = .ok (.iload_n 1, 1) := by decide +kernel
theorem dX4_takeUnit_28 : decode cX4_takeUnit 28 = .ok (.invokestatic 103, 3) := by decide +kernel
theorem dX4_takeUnit_31 : decode cX4_takeUnit 31 = .ok (.ifCond .eq 14, 3) := by decide +kernel
theorem dX4_takeUnit_34 : decode cX4_takeUnit 34 = .ok (.aload_n 0, 1) := by decide +kernel
theorem dX4_takeUnit_35 : decode cX4_takeUnit 35 = .ok (.getfield 12, 3) := by decide +kernel
theorem dX4_takeUnit_38 : decode cX4_takeUnit 38 = .ok (.iload_n 1, 1) := by decide +kernel
theorem dX4_takeUnit_39 : decode cX4_takeUnit 39 = .ok (.invokevirtual 107, 3) := by decide +kernel
theorem dX4_takeUnit_42 : decode cX4_takeUnit 42 = .ok (.goto 8, 3) := by decide +kernel
theorem dX4_takeUnit_45 : decode cX4_takeUnit 45 = .ok (.aload_n 0, 1) := by decide +kernel
theorem dX4_takeUnit_46 : decode cX4_takeUnit 46 = .ok (.iconst 1, 1) := by decide +kernel
theorem dX4_takeUnit_47 : decode cX4_takeUnit 47 = .ok (.invokevirtual 87, 3) := by decide +kernel
theorem dX4_takeUnit_50 : decode cX4_takeUnit 50 = .ok (.return_, 1) := by decide +kernel
theorem dX4_takeDivisor_0 : decode cX4_takeDivisor 0 = .ok (.iload_n 1, 1) := by decide +kernel
theorem dX4_takeDivisor_1 : decode cX4_takeDivisor 1 = .ok (.iconst 2, 1) := by decide +kernel
theorem dX4_takeDivisor_2 : decode cX4_takeDivisor 2 = .ok (.if_icmp .eq 11, 3) := by decide +kernel
theorem dX4_takeDivisor_5 : decode cX4_takeDivisor 5 = .ok (.aload_n 0, 1) := by decide +kernel
theorem dX4_takeDivisor_6 : decode cX4_takeDivisor 6 = .ok (.iconst 1, 1) := by decide +kernel
theorem dX4_takeDivisor_7 : decode cX4_takeDivisor 7 = .ok (.invokevirtual 87, 3) := by decide +kernel
theorem dX4_takeDivisor_10 : decode cX4_takeDivisor 10 = .ok (.goto 40, 3) := by decide +kernel
theorem dX4_takeDivisor_13 : decode cX4_takeDivisor 13 = .ok (.aload_n 0, 1) := by decide +kernel
theorem dX4_takeDivisor_14 : decode cX4_takeDivisor 14 = .ok (.getfield 21, 3) := by decide +kernel
theorem dX4_takeDivisor_17 : decode cX4_takeDivisor 17 = .ok (.getfield 97, 3) := by decide +kernel
theorem dX4_takeDivisor_20 : decode cX4_takeDivisor 20 = .ok (.ifCond .ne 11, 3) := by decide +kernel
theorem dX4_takeDivisor_23 : decode cX4_takeDivisor 23 = .ok (.aload_n 0, 1) := by decide +kernel
theorem dX4_takeDivisor_24 : decode cX4_takeDivisor 24 = .ok (.iconst 2, 1) := by decide +kernel
theorem dX4_takeDivisor_25 : decode cX4_takeDivisor 25 = .ok (.invokevirtual 87, 3) := by decide +kernel
theorem dX4_takeDivisor_28 : decode cX4_takeDivisor 28 = .ok (.goto 22, 3) := by decide +kernel
theorem dX4_takeDivisor_31 : decode cX4_takeDivisor 31 = .ok (.aload_n 0, 1) := by decide +kernel
theorem dX4_takeDivisor_32 : decode cX4_takeDivisor 32 = .ok (.getfield 12, 3) := by decide +kernel
theorem dX4_takeDivisor_35 : decode cX4_takeDivisor 35 = .ok (.aload_n 0, 1) := by decide +kernel
theorem dX4_takeDivisor_36 : decode cX4_takeDivisor 36 = .ok (.getfield 21, 3) := by decide +kernel
theorem dX4_takeDivisor_39 : decode cX4_takeDivisor 39 = .ok (.getfield 97, 3) := by decide +kernel
theorem dX4_takeDivisor_42 : decode cX4_takeDivisor 42 = .ok (.invokevirtual 100, 3) := by decide +kernel
theorem dX4_takeDivisor_45 : decode cX4_takeDivisor 45 = .ok (.aload_n 0, 1) := by decide +kernel
theorem dX4_takeDivisor_46 : decode cX4_takeDivisor 46 = .ok (.iconst 4, 1) := by decide +kernel
theorem dX4_takeDivisor_47 : decode cX4_takeDivisor 47 = .ok (.putfield 33, 3) := by decide +kernel
theorem dX4_takeDivisor_50 : decode cX4_takeDivisor 50 = .ok (.return_, 1) := by decide +kernel
theorem dX4_takeTest_0 : decode cX4_takeTest 0 = .ok (.iload_n 1, 1) := by decide +kernel
theorem dX4_takeTest_1 : decode cX4_takeTest 1 = .ok (.bipush 7, 2) := by decide +kernel
theorem dX4_takeTest_3 : decode cX4_takeTest 3 = .ok (.if_icmp .eq 22, 3) := by decide +kernel
theorem dX4_takeTest_6 : decode cX4_takeTest 6 = .ok (.iload_n 1, 1) := by decide +kernel
theorem dX4_takeTest_7 : decode cX4_takeTest 7 = .ok (.bipush 22, 2) := by decide +kernel
theorem dX4_takeTest_9 : decode cX4_takeTest 9 = .ok (.if_icmp .eq 16, 3) := by decide +kernel
theorem dX4_takeTest_12 : decode cX4_takeTest 12 = .ok (.aload_n 0, 1) := by decide +kernel
theorem dX4_takeTest_13 : decode cX4_takeTest 13 = .ok (.iconst 1, 1) := by decide +kernel
theorem dX4_takeTest_14 : decode cX4_takeTest 14 = .ok (.putfield 36, 3) := by decide +kernel
theorem dX4_takeTest_17 : decode cX4_takeTest 17 = .ok (.aload_n 0, 1) := by decide +kernel
theorem dX4_takeTest_18 : decode cX4_takeTest 18 = .ok (.iload_n 1, 1) := by decide +kernel
theorem dX4_takeTest_19 : decode cX4_takeTest 19 = .ok (.invokevirtual 65, 3) := by decide +kernel
theorem dX4_takeTest_22 : decode cX4_takeTest 22 = .ok (.goto 34, 3) := by decide +kernel
theorem dX4_takeTest_25 : decode cX4_takeTest 25 = .ok (.aload_n 0, 1) := by decide +kernel
theorem dX4_takeTest_26 : decode cX4_takeTest 26 = .ok (.bipush 7, 2) := by decide +kernel
theorem dX4_takeTest_28 : decode cX4_takeTest 28 = .ok (.invokevirtual 110, 3) := by decide +kernel
theorem dX4_takeTest_31 : decode cX4_takeTest 31 = .ok (.aload_n 0, 1) := by decide +kernel
theorem dX4_takeTest_32 : decode cX4_takeTest 32 = .ok (.bipush 22, 2) := by decide +kernel
theorem dX4_takeTest_34 : decode cX4_takeTest 34 = .ok (.invokevirtual 110, 3) := by decide +kernel
theorem dX4_takeTest_37 : decode cX4_takeTest 37 = .ok (.iadd, 1) := by decide +kernel
theorem dX4_takeTest_38 : decode cX4_takeTest 38 = .ok (.bipush 8, 2) := by decide +kernel
theorem dX4_takeTest_40 : decode cX4_takeTest 40 = .ok (.if_icmp .lt 11, 3) := by decide +kernel
theorem dX4_takeTest_43 : decode cX4_takeTest 43 = .ok (.aload_n 0, 1) := by decide +kernel
theorem dX4_takeTest_44 : decode cX4_takeTest 44 = .ok (.iconst 3, 1) := by decide +kernel
theorem dX4_takeTest_45 : decode cX4_takeTest 45 = .ok (.invokevirtual 87, 3) := by decide +kernel
theorem dX4_takeTest_48 : decode cX4_takeTest 48 = .ok (.goto 8, 3) := by decide +kernel
theorem dX4_takeTest_51 : decode cX4_takeTest 51 = .ok (.aload_n 0, 1) := by decide +kernel
theorem dX4_takeTest_52 : decode cX4_takeTest 52 = .ok (.iload_n 1, 1) := by decide +kernel
theorem dX4_takeTest_53 : decode cX4_takeTest 53 = .ok (.invokevirtual 114, 3) := by decide +kernel
theorem dX4_takeTest_56 : decode cX4_takeTest 56 = .ok (.return_, 1) := by decide +kernel
theorem dX4_takeOperator_0 : decode cX4_takeOperator 0 = .ok (.iload_n 1, 1) := by decide +kernel
theorem dX4_takeOperator_1 : decode cX4_takeOperator 1 = .ok (.invokestatic 117, 3) := by decide +kernel
theorem dX4_takeOperator_4 : decode cX4_takeOperator 4 = .ok (.ifCond .eq 26, 3) := by decide +kernel
theorem dX4_takeOperator_7 : decode cX4_takeOperator 7 = .ok (.aload_n 0, 1) := by decide +kernel
theorem dX4_takeOperator_8 : decode cX4_takeOperator 8 = .ok (.iload_n 1, 1) := by decide +kernel
theorem dX4_takeOperator_9 : decode cX4_takeOperator 9 = .ok (.invokevirtual 120, 3) := by decide +kernel
theorem dX4_takeOperator_12 : decode cX4_takeOperator 12 = .ok (.aload_n 0, 1) := by decide +kernel
theorem dX4_takeOperator_13 : decode cX4_takeOperator 13 = .ok (.iload_n 1, 1) := by decide +kernel
theorem dX4_takeOperator_14 : decode cX4_takeOperator 14 = .ok (.bipush 21, 2) := by decide +kernel
theorem dX4_takeOperator_16 : decode cX4_takeOperator 16 = .ok (.if_icmp .ne 7, 3) := by decide +kernel
theorem dX4_takeOperator_19 : decode cX4_takeOperator 19 = .ok (.iconst 2, 1) := by decide +kernel
theorem dX4_takeOperator_20 : decode cX4_takeOperator 20 = .ok (.goto 4, 3) := by decide +kernel
theorem dX4_takeOperator_23 : decode cX4_takeOperator 23 = .ok (.iconst 1, 1) := by decide +kernel
theorem dX4_takeOperator_24 : decode cX4_takeOperator 24 = .ok (.putfield 33, 3) := by decide +kernel
theorem dX4_takeOperator_27 : decode cX4_takeOperator 27 = .ok (.goto 105, 3) := by decide +kernel
theorem dX4_takeOperator_30 : decode cX4_takeOperator 30 = .ok (.aload_n 0, 1) := by decide +kernel
theorem dX4_takeOperator_31 : decode cX4_takeOperator 31 = .ok (.getfield 36, 3) := by decide +kernel
theorem dX4_takeOperator_34 : decode cX4_takeOperator 34 = .ok (.iconst 1, 1) := by decide +kernel
theorem dX4_takeOperator_35 : decode cX4_takeOperator 35 = .ok (.if_icmp .ne 28, 3) := by decide +kernel
theorem dX4_takeOperator_38 : decode cX4_takeOperator 38 = .ok (.iload_n 1, 1) := by decide +kernel
theorem dX4_takeOperator_39 : decode cX4_takeOperator 39 = .ok (.invokestatic 123, 3) := by decide +kernel
theorem dX4_takeOperator_42 : decode cX4_takeOperator 42 = .ok (.ifCond .eq 21, 3) := by decide +kernel
