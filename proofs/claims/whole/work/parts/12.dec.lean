theorem dX12_isMarkSign_7 : decode cX12_isMarkSign 7 = .ok (.bipush 43, 2) := by decide +kernel
theorem dX12_isMarkSign_9 : decode cX12_isMarkSign 9 = .ok (.if_icmp .eq 51, 3) := by decide +kernel
theorem dX12_isMarkSign_12 : decode cX12_isMarkSign 12 = .ok (.iload_n 1, 1) := by decide +kernel
theorem dX12_isMarkSign_13 : decode cX12_isMarkSign 13 = .ok (.bipush 45, 2) := by decide +kernel
theorem dX12_isMarkSign_15 : decode cX12_isMarkSign 15 = .ok (.if_icmp .eq 45, 3) := by decide +kernel
theorem dX12_isMarkSign_18 : decode cX12_isMarkSign 18 = .ok (.iload_n 1, 1) := by decide +kernel
theorem dX12_isMarkSign_19 : decode cX12_isMarkSign 19 = .ok (.bipush 42, 2) := by decide +kernel
theorem dX12_isMarkSign_21 : decode cX12_isMarkSign 21 = .ok (.if_icmp .eq 39, 3) := by decide +kernel
theorem dX12_isMarkSign_24 : decode cX12_isMarkSign 24 = .ok (.iload_n 1, 1) := by decide +kernel
theorem dX12_isMarkSign_25 : decode cX12_isMarkSign 25 = .ok (.bipush 47, 2) := by decide +kernel
theorem dX12_isMarkSign_27 : decode cX12_isMarkSign 27 = .ok (.if_icmp .eq 33, 3) := by decide +kernel
theorem dX12_isMarkSign_30 : decode cX12_isMarkSign 30 = .ok (.iload_n 1, 1) := by decide +kernel
theorem dX12_isMarkSign_31 : decode cX12_isMarkSign 31 = .ok (.bipush 40, 2) := by decide +kernel
theorem dX12_isMarkSign_33 : decode cX12_isMarkSign 33 = .ok (.if_icmp .eq 27, 3) := by decide +kernel
theorem dX12_isMarkSign_36 : decode cX12_isMarkSign 36 = .ok (.iload_n 1, 1) := by decide +kernel
theorem dX12_isMarkSign_37 : decode cX12_isMarkSign 37 = .ok (.bipush 41, 2) := by decide +kernel
theorem dX12_isMarkSign_39 : decode cX12_isMarkSign 39 = .ok (.if_icmp .eq 21, 3) := by decide +kernel
theorem dX12_isMarkSign_42 : decode cX12_isMarkSign 42 = .ok (.iload_n 1, 1) := by decide +kernel
theorem dX12_isMarkSign_43 : decode cX12_isMarkSign 43 = .ok (.bipush 60, 2) := by decide +kernel
theorem dX12_isMarkSign_45 : decode cX12_isMarkSign 45 = .ok (.if_icmp .eq 15, 3) := by decide +kernel
theorem dX12_isMarkSign_48 : decode cX12_isMarkSign 48 = .ok (.iload_n 1, 1) := by decide +kernel
theorem dX12_isMarkSign_49 : decode cX12_isMarkSign 49 = .ok (.bipush 61, 2) := by decide +kernel
theorem dX12_isMarkSign_51 : decode cX12_isMarkSign 51 = .ok (.if_icmp .eq 9, 3) := by decide +kernel
theorem dX12_isMarkSign_54 : decode cX12_isMarkSign 54 = .ok (.iload_n 1, 1) := by decide +kernel
theorem dX12_isMarkSign_55 : decode cX12_isMarkSign 55 = .ok (.bipush 62, 2) := by decide +kernel
theorem dX12_isMarkSign_57 : decode cX12_isMarkSign 57 = .ok (.if_icmp .ne 7, 3) := by decide +kernel
theorem dX12_isMarkSign_60 : decode cX12_isMarkSign 60 = .ok (.iconst 1, 1) := by decide +kernel
theorem dX12_isMarkSign_61 : decode cX12_isMarkSign 61 = .ok (.goto 4, 3) := by decide +kernel
theorem dX12_isMarkSign_64 : decode cX12_isMarkSign 64 = .ok (.iconst 0, 1) := by decide +kernel
theorem dX12_isMarkSign_65 : decode cX12_isMarkSign 65 = .ok (.ireturn, 1) := by decide +kernel
theorem dX12_wordAt_0 : decode cX12_wordAt 0 = .ok (.iconst (-1), 1) := by decide +kernel
theorem dX12_wordAt_1 : decode cX12_wordAt 1 = .ok (.istore_n 3, 1) := by decide +kernel
theorem dX12_wordAt_2 : decode cX12_wordAt 2 = .ok (.iconst 0, 1) := by decide +kernel
theorem dX12_wordAt_3 : decode cX12_wordAt 3 = .ok (.istore 4, 2) := by decide +kernel
theorem dX12_wordAt_5 : decode cX12_wordAt 5 = .ok (.iload 4, 2) := by decide +kernel
theorem dX12_wordAt_7 : decode cX12_wordAt 7 = .ok (.bipush 66, 2) := by decide +kernel
theorem dX12_wordAt_9 : decode cX12_wordAt 9 = .ok (.if_icmp .ge 108, 3) := by decide +kernel
theorem dX12_wordAt_12 : decode cX12_wordAt 12 = .ok (.iconst 0, 1) := by decide +kernel
theorem dX12_wordAt_13 : decode cX12_wordAt 13 = .ok (.istore 5, 2) := by decide +kernel
theorem dX12_wordAt_15 : decode cX12_wordAt 15 = .ok (.iload_n 3, 1) := by decide +kernel
theorem dX12_wordAt_16 : decode cX12_wordAt 16 = .ok (.iconst 1, 1) := by decide +kernel
theorem dX12_wordAt_17 : decode cX12_wordAt 17 = .ok (.iadd, 1) := by decide +kernel
theorem dX12_wordAt_18 : decode cX12_wordAt 18 = .ok (.istore_n 3, 1) := by decide +kernel
theorem dX12_wordAt_19 : decode cX12_wordAt 19 = .ok (.iload_n 1, 1) := by decide +kernel
theorem dX12_wordAt_20 : decode cX12_wordAt 20 = .ok (.iload 5, 2) := by decide +kernel
theorem dX12_wordAt_22 : decode cX12_wordAt 22 = .ok (.iadd, 1) := by decide +kernel
theorem dX12_wordAt_23 : decode cX12_wordAt 23 = .ok (.iload_n 2, 1) := by decide +kernel
theorem dX12_wordAt_24 : decode cX12_wordAt 24 = .ok (.if_icmp .ge 36, 3) := by decide +kernel
theorem dX12_wordAt_27 : decode cX12_wordAt 27 = .ok (.aload_n 0, 1) := by decide +kernel
theorem dX12_wordAt_28 : decode cX12_wordAt 28 = .ok (.getfield 52, 3) := by decide +kernel
theorem dX12_wordAt_31 : decode cX12_wordAt 31 = .ok (.iload 4, 2) := by decide +kernel
theorem dX12_wordAt_33 : decode cX12_wordAt 33 = .ok (.iconst 1, 1) := by decide +kernel
theorem dX12_wordAt_34 : decode cX12_wordAt 34 = .ok (.iadd, 1) := by decide +kernel
theorem dX12_wordAt_35 : decode cX12_wordAt 35 = .ok (.iload 5, 2) := by decide +kernel
theorem dX12_wordAt_37 : decode cX12_wordAt 37 = .ok (.iadd, 1) := by decide +kernel
theorem dX12_wordAt_38 : decode cX12_wordAt 38 = .ok (.iaload, 1) := by decide +kernel
theorem dX12_wordAt_39 : decode cX12_wordAt 39 = .ok (.aload_n 0, 1) := by decide +kernel
theorem dX12_wordAt_40 : decode cX12_wordAt 40 = .ok (.getfield 49, 3) := by decide +kernel
theorem dX12_wordAt_43 : decode cX12_wordAt 43 = .ok (.iload_n 1, 1) := by decide +kernel
theorem dX12_wordAt_44 : decode cX12_wordAt 44 = .ok (.iload 5, 2) := by decide +kernel
theorem dX12_wordAt_46 : decode cX12_wordAt 46 = .ok (.iadd, 1) := by decide +kernel
theorem dX12_wordAt_47 : decode cX12_wordAt 47 = .ok (.iaload, 1) := by decide +kernel
theorem dX12_wordAt_48 : decode cX12_wordAt 48 = .ok (.if_icmp .ne 12, 3) := by decide +kernel
theorem dX12_wordAt_51 : decode cX12_wordAt 51 = .ok (.iload 5, 2) := by decide +kernel
theorem dX12_wordAt_53 : decode cX12_wordAt 53 = .ok (.iconst 1, 1) := by decide +kernel
theorem dX12_wordAt_54 : decode cX12_wordAt 54 = .ok (.iadd, 1) := by decide +kernel
theorem dX12_wordAt_55 : decode cX12_wordAt 55 = .ok (.istore 5, 2) := by decide +kernel
theorem dX12_wordAt_57 : decode cX12_wordAt 57 = .ok (.goto (-38), 3) := by decide +kernel
theorem dX12_wordAt_60 : decode cX12_wordAt 60 = .ok (.iload_n 1, 1) := by decide +kernel
theorem dX12_wordAt_61 : decode cX12_wordAt 61 = .ok (.iload 5, 2) := by decide +kernel
theorem dX12_wordAt_63 : decode cX12_wordAt 63 = .ok (.iadd, 1) := by decide +kernel
theorem dX12_wordAt_64 : decode cX12_wordAt 64 = .ok (.iload_n 2, 1) := by decide +kernel
theorem dX12_wordAt_65 : decode cX12_wordAt 65 = .ok (.if_icmp .ne 22, 3) := by decide +kernel
theorem dX12_wordAt_68 : decode cX12_wordAt 68 = .ok (.aload_n 0, 1) := by decide +kernel
theorem dX12_wordAt_69 : decode cX12_wordAt 69 = .ok (.getfield 52, 3) := by decide +kernel
theorem dX12_wordAt_72 : decode cX12_wordAt 72 = .ok (.iload 4, 2) := by decide +kernel
theorem dX12_wordAt_74 : decode cX12_wordAt 74 = .ok (.iconst 1, 1) := by decide +kernel
theorem dX12_wordAt_75 : decode cX12_wordAt 75 = .ok (.iadd, 1) := by decide +kernel
theorem dX12_wordAt_76 : decode cX12_wordAt 76 = .ok (.iload 5, 2) := by decide +kernel
theorem dX12_wordAt_78 : decode cX12_wordAt 78 = .ok (.iadd, 1) := by decide +kernel
theorem dX12_wordAt_79 : decode cX12_wordAt 79 = .ok (.iaload, 1) := by decide +kernel
theorem dX12_wordAt_80 : decode cX12_wordAt 80 = .ok (.bipush 32, 2) := by decide +kernel
theorem dX12_wordAt_82 : decode cX12_wordAt 82 = .ok (.if_icmp .ne 5, 3) := by decide +kernel
theorem dX12_wordAt_85 : decode cX12_wordAt 85 = .ok (.iload_n 3, 1) := by decide +kernel
theorem dX12_wordAt_86 : decode cX12_wordAt 86 = .ok (.ireturn, 1) := by decide +kernel
theorem dX12_wordAt_87 : decode cX12_wordAt 87 = .ok (.iload 4, 2) := by decide +kernel
theorem dX12_wordAt_89 : decode cX12_wordAt 89 = .ok (.iconst 1, 1) := by decide +kernel
theorem dX12_wordAt_90 : decode cX12_wordAt 90 = .ok (.iadd, 1) := by decide +kernel
theorem dX12_wordAt_91 : decode cX12_wordAt 91 = .ok (.istore 4, 2) := by decide +kernel
theorem dX12_wordAt_93 : decode cX12_wordAt 93 = .ok (.aload_n 0, 1) := by decide +kernel
theorem dX12_wordAt_94 : decode cX12_wordAt 94 = .ok (.getfield 52, 3) := by decide +kernel
theorem dX12_wordAt_97 : decode cX12_wordAt 97 = .ok (.iload 4, 2) := by decide +kernel
theorem dX12_wordAt_99 : decode cX12_wordAt 99 = .ok (.iaload, 1) := by decide +kernel
theorem dX12_wordAt_100 : decode cX12_wordAt 100 = .ok (.bipush 32, 2) := by decide +kernel
theorem dX12_wordAt_102 : decode cX12_wordAt 102 = .ok (.if_icmp .eq 12, 3) := by decide +kernel
theorem dX12_wordAt_105 : decode cX12_wordAt 105 = .ok (.iload 4, 2) := by decide +kernel
theorem dX12_wordAt_107 : decode cX12_wordAt 107 = .ok (.iconst 1, 1) := by decide +kernel
theorem dX12_wordAt_108 : decode cX12_wordAt 108 = .ok (.iadd, 1) := by decide +kernel
theorem dX12_wordAt_109 : decode cX12_wordAt 109 = .ok (.istore 4, 2) := by decide +kernel
theorem dX12_wordAt_111 : decode cX12_wordAt 111 = .ok (.goto (-18), 3) := by decide +kernel
theorem dX12_wordAt_114 : decode cX12_wordAt 114 = .ok (.goto (-109), 3) := by decide +kernel
theorem dX12_wordAt_117 : decode cX12_wordAt 117 = .ok (.iconst (-1), 1) := by decide +kernel
theorem dX12_wordAt_118 : decode cX12_wordAt 118 = .ok (.ireturn, 1) := by decide +kernel
theorem dX12_reads_0 : decode cX12_reads 0 = .ok (.aload_n 0, 1) := by decide +kernel
theorem dX12_reads_1 : decode cX12_reads 1 = .ok (.aload_n 0, 1) := by decide +kernel
theorem dX12_reads_2 : decode cX12_reads 2 = .ok (.getfield 153, 3) := by decide +kernel
theorem dX12_reads_5 : decode cX12_reads 5 = .ok (.invokevirtual 156, 3) := by decide +kernel
theorem dX12_reads_8 : decode cX12_reads 8 = .ok (.bipush 32, 2) := by decide +kernel
theorem dX12_reads_10 : decode cX12_reads 10 = .ok (.if_icmp .eq 16, 3) := by decide +kernel
theorem dX12_reads_13 : decode cX12_reads 13 = .ok (.aload_n 0, 1) := by decide +kernel
theorem dX12_reads_14 : decode cX12_reads 14 = .ok (.aload_n 0, 1) := by decide +kernel
theorem dX12_reads_15 : decode cX12_reads 15 = .ok (.getfield 153, 3) := by decide +kernel
theorem dX12_reads_18 : decode cX12_reads 18 = .ok (.invokevirtual 156, 3) := by decide +kernel
theorem dX12_reads_21 : decode cX12_reads 21 = .ok (.bipush 10, 2) := by decide +kernel
theorem dX12_reads_23 : decode cX12_reads 23 = .ok (.if_icmp .ne 16, 3) := by decide +kernel
theorem dX12_reads_26 : decode cX12_reads 26 = .ok (.aload_n 0, 1) := by decide +kernel
theorem dX12_reads_27 : decode cX12_reads 27 = .ok (.aload_n 0, 1) := by decide +kernel
theorem dX12_reads_28 : decode cX12_reads 28 = .ok (.getfield 153, 3) := by decide +kernel
theorem dX12_reads_31 : decode cX12_reads 31 = .ok (.iconst 1, 1) := by decide +kernel
theorem dX12_reads_32 : decode cX12_reads 32 = .ok (.iadd, 1) := by decide +kernel
theorem dX12_reads_33 : decode cX12_reads 33 = .ok (.putfield 153, 3) := by decide +kernel
theorem dX12_reads_36 : decode cX12_reads 36 = .ok (.goto (-36), 3) := by decide +kernel
theorem dX12_reads_39 : decode cX12_reads 39 = .ok (.aload_n 0, 1) := by decide +kernel
theorem dX12_reads_40 : decode cX12_reads 40 = .ok (.aload_n 0, 1) := by decide +kernel
theorem dX12_reads_41 : decode cX12_reads 41 = .ok (.getfield 153, 3) := by decide +kernel
theorem dX12_reads_44 : decode cX12_reads 44 = .ok (.putfield 160, 3) := by decide +kernel
theorem dX12_reads_47 : decode cX12_reads 47 = .ok (.aload_n 0, 1) := by decide +kernel
theorem dX12_reads_48 : decode cX12_reads 48 = .ok (.iconst 1, 1) := by decide +kernel
theorem dX12_reads_49 : decode cX12_reads 49 = .ok (.putfield 163, 3) := by decide +kernel
theorem dX12_reads_52 : decode cX12_reads 52 = .ok (.aload_n 0, 1) := by decide +kernel
theorem dX12_reads_53 : decode cX12_reads 53 = .ok (.aload_n 0, 1) := by decide +kernel
theorem dX12_reads_54 : decode cX12_reads 54 = .ok (.getfield 153, 3) := by decide +kernel
theorem dX12_reads_57 : decode cX12_reads 57 = .ok (.invokevirtual 156, 3) := by decide +kernel
theorem dX12_reads_60 : decode cX12_reads 60 = .ok (.istore_n 1, 1) := by decide +kernel
theorem dX12_reads_61 : decode cX12_reads 61 = .ok (.iload_n 1, 1) := by decide +kernel
theorem dX12_reads_62 : decode cX12_reads 62 = .ok (.iconst (-1), 1) := by decide +kernel
theorem dX12_reads_63 : decode cX12_reads 63 = .ok (.if_icmp .ne 9, 3) := by decide +kernel
theorem dX12_reads_66 : decode cX12_reads 66 = .ok (.aload_n 0, 1) := by decide +kernel
theorem dX12_reads_67 : decode cX12_reads 67 = .ok (.iconst 0, 1) := by decide +kernel
theorem dX12_reads_68 : decode cX12_reads 68 = .ok (.putfield 163, 3) := by decide +kernel
theorem dX12_reads_71 : decode cX12_reads 71 = .ok (.return_, 1) := by decide +kernel
theorem dX12_reads_72 : decode cX12_reads 72 = .ok (.aload_n 0, 1) := by decide +kernel
theorem dX12_reads_73 : decode cX12_reads 73 = .ok (.aload_n 0, 1) := by decide +kernel
theorem dX12_reads_74 : decode cX12_reads 74 = .ok (.getfield 153, 3) := by decide +kernel
theorem dX12_reads_77 : decode cX12_reads 77 = .ok (.iconst 1, 1) := by decide +kernel
theorem dX12_reads_78 : decode cX12_reads 78 = .ok (.iadd, 1) := by decide +kernel
theorem dX12_reads_79 : decode cX12_reads 79 = .ok (.putfield 153, 3) := by decide +kernel
theorem dX12_reads_82 : decode cX12_reads 82 = .ok (.aload_n 0, 1) := by decide +kernel
theorem dX12_reads_83 : decode cX12_reads 83 = .ok (.iload_n 1, 1) := by decide +kernel
theorem dX12_reads_84 : decode cX12_reads 84 = .ok (.putfield 166, 3) := by decide +kernel
theorem dX12_reads_87 : decode cX12_reads 87 = .ok (.aload_n 0, 1) := by decide +kernel
theorem dX12_reads_88 : decode cX12_reads 88 = .ok (.iload_n 1, 1) := by decide +kernel
theorem dX12_reads_89 : decode cX12_reads 89 = .ok (.invokevirtual 169, 3) := by decide +kernel
theorem dX12_reads_92 : decode cX12_reads 92 = .ok (.ifCond .eq 63, 3) := by decide +kernel
theorem dX12_reads_95 : decode cX12_reads 95 = .ok (.aload_n 0, 1) := by decide +kernel
theorem dX12_reads_96 : decode cX12_reads 96 = .ok (.aload_n 0, 1) := by decide +kernel
theorem dX12_reads_97 : decode cX12_reads 97 = .ok (.aload_n 0, 1) := by decide +kernel
theorem dX12_reads_98 : decode cX12_reads 98 = .ok (.getfield 153, 3) := by decide +kernel
theorem dX12_reads_101 : decode cX12_reads 101 = .ok (.invokevirtual 156, 3) := by decide +kernel
theorem dX12_reads_104 : decode cX12_reads 104 = .ok (.invokevirtual 169, 3) := by decide +kernel
theorem dX12_reads_107 : decode cX12_reads 107 = .ok (.ifCond .eq 16, 3) := by decide +kernel
theorem dX12_reads_110 : decode cX12_reads 110 = .ok (.aload_n 0, 1) := by decide +kernel
theorem dX12_reads_111 : decode cX12_reads 111 = .ok (.aload_n 0, 1) := by decide +kernel
theorem dX12_reads_112 : decode cX12_reads 112 = .ok (.getfield 153, 3) := by decide +kernel
theorem dX12_reads_115 : decode cX12_reads 115 = .ok (.iconst 1, 1) := by decide +kernel
theorem dX12_reads_116 : decode cX12_reads 116 = .ok (.iadd, 1) := by decide +kernel
theorem dX12_reads_117 : decode cX12_reads 117 = .ok (.putfield 153, 3) := by decide +kernel
theorem dX12_reads_120 : decode cX12_reads 120 = .ok (.goto (-25), 3) := by decide +kernel
theorem dX12_reads_123 : decode cX12_reads 123 = .ok (.aload_n 0, 1) := by decide +kernel
theorem dX12_reads_124 : decode cX12_reads 124 = .ok (.aload_n 0, 1) := by decide +kernel
theorem dX12_reads_125 : decode cX12_reads 125 = .ok (.aload_n 0, 1) := by decide +kernel
theorem dX12_reads_126 : decode cX12_reads 126 = .ok (.getfield 160, 3) := by decide +kernel
theorem dX12_reads_129 : decode cX12_reads 129 = .ok (.aload_n 0, 1) := by decide +kernel
theorem dX12_reads_130 : decode cX12_reads 130 = .ok (.getfield 153, 3) := by decide +kernel
theorem dX12_reads_133 : decode cX12_reads 133 = .ok (.invokevirtual 172, 3) := by decide +kernel
theorem dX12_reads_136 : decode cX12_reads 136 = .ok (.putfield 166, 3) := by decide +kernel
theorem dX12_reads_139 : decode cX12_reads 139 = .ok (.aload_n 0, 1) := by decide +kernel
theorem dX12_reads_140 : decode cX12_reads 140 = .ok (.getfield 166, 3) := by decide +kernel
theorem dX12_reads_143 : decode cX12_reads 143 = .ok (.iconst (-1), 1) := by decide +kernel
theorem dX12_reads_144 : decode cX12_reads 144 = .ok (.if_icmp .eq 129, 3) := by decide +kernel
theorem dX12_reads_147 : decode cX12_reads 147 = .ok (.aload_n 0, 1) := by decide +kernel
theorem dX12_reads_148 : decode cX12_reads 148 = .ok (.iconst 2, 1) := by decide +kernel
theorem dX12_reads_149 : decode cX12_reads 149 = .ok (.putfield 163, 3) := by decide +kernel
theorem dX12_reads_152 : decode cX12_reads 152 = .ok (.goto 121, 3) := by decide +kernel
theorem dX12_reads_155 : decode cX12_reads 155 = .ok (.aload_n 0, 1) := by decide +kernel
theorem dX12_reads_156 : decode cX12_reads 156 = .ok (.iload_n 1, 1) := by decide +kernel
theorem dX12_reads_157 : decode cX12_reads 157 = .ok (.invokevirtual 176, 3) := by decide +kernel
theorem dX12_reads_160 : decode cX12_reads 160 = .ok (.ifCond .eq 100, 3) := by decide +kernel
theorem dX12_reads_163 : decode cX12_reads 163 = .ok (.aload_n 0, 1) := by decide +kernel
theorem dX12_reads_164 : decode cX12_reads 164 = .ok (.iload_n 1, 1) := by decide +kernel
theorem dX12_reads_165 : decode cX12_reads 165 = .ok (.bipush 48, 2) := by decide +kernel
theorem dX12_reads_167 : decode cX12_reads 167 = .ok (.isub, 1) := by decide +kernel
theorem dX12_reads_168 : decode cX12_reads 168 = .ok (.putfield 166, 3) := by decide +kernel
theorem dX12_reads_171 : decode cX12_reads 171 = .ok (.aload_n 0, 1) := by decide +kernel
theorem dX12_reads_172 : decode cX12_reads 172 = .ok (.aload_n 0, 1) := by decide +kernel
theorem dX12_reads_173 : decode cX12_reads 173 = .ok (.aload_n 0, 1) := by decide +kernel
theorem dX12_reads_174 : decode cX12_reads 174 = .ok (.getfield 153, 3) := by decide +kernel
theorem dX12_reads_177 : decode cX12_reads 177 = .ok (.invokevirtual 156, 3) := by decide +kernel
theorem dX12_reads_180 : decode cX12_reads 180 = .ok (.invokevirtual 176, 3) := by decide +kernel
theorem dX12_reads_183 : decode cX12_reads 183 = .ok (.ifCond .eq 56, 3) := by decide +kernel
theorem dX12_reads_186 : decode cX12_reads 186 = .ok (.aload_n 0, 1) := by decide +kernel
theorem dX12_reads_187 : decode cX12_reads 187 = .ok (.aload_n 0, 1) := by decide +kernel
theorem dX12_reads_188 : decode cX12_reads 188 = .ok (.getfield 166, 3) := by decide +kernel
theorem dX12_reads_191 : decode cX12_reads 191 = .ok (.sipush 10000, 3) := by decide +kernel
theorem dX12_reads_194 : decode cX12_reads 194 = .ok (.if_icmp .ge 25, 3) := by decide +kernel
theorem dX12_reads_197 : decode cX12_reads 197 = .ok (.bipush 10, 2) := by decide +kernel
theorem dX12_reads_199 : decode cX12_reads 199 = .ok (.aload_n 0, 1) := by decide +kernel
theorem dX12_reads_200 : decode cX12_reads 200 = .ok (.getfield 166, 3) := by decide +kernel
theorem dX12_reads_203 : decode cX12_reads 203 = .ok (.imul, 1) := by decide +kernel
theorem dX12_reads_204 : decode cX12_reads 204 = .ok (.aload_n 0, 1) := by decide +kernel
theorem dX12_reads_205 : decode cX12_reads 205 = .ok (.aload_n 0, 1) := by decide +kernel
theorem dX12_reads_206 : decode cX12_reads 206 = .ok (.getfield 153, 3) := by decide +kernel
theorem dX12_reads_209 : decode cX12_reads 209 = .ok (.invokevirtual 156, 3) := by decide +kernel
theorem dX12_reads_212 : decode cX12_reads 212 = .ok (.iadd, 1) := by decide +kernel
theorem dX12_reads_213 : decode cX12_reads 213 = .ok (.bipush 48, 2) := by decide +kernel
theorem dX12_reads_215 : decode cX12_reads 215 = .ok (.isub, 1) := by decide +kernel
theorem dX12_reads_216 : decode cX12_reads 216 = .ok (.goto 7, 3) := by decide +kernel
theorem dX12_reads_219 : decode cX12_reads 219 = .ok (.aload_n 0, 1) := by decide +kernel
theorem dX12_reads_220 : decode cX12_reads 220 = .ok (.getfield 166, 3) := by decide +kernel
theorem dX12_reads_223 : decode cX12_reads 223 = .ok (.putfield 166, 3) := by decide +kernel
theorem dX12_reads_226 : decode cX12_reads 226 = .ok (.aload_n 0, 1) := by decide +kernel
theorem dX12_reads_227 : decode cX12_reads 227 = .ok (.aload_n 0, 1) := by decide +kernel
theorem dX12_reads_228 : decode cX12_reads 228 = .ok (.getfield 153, 3) := by decide +kernel
theorem dX12_reads_231 : decode cX12_reads 231 = .ok (.iconst 1, 1) := by decide +kernel
theorem dX12_reads_232 : decode cX12_reads 232 = .ok (.iadd, 1) := by decide +kernel
theorem dX12_reads_233 : decode cX12_reads 233 = .ok (.putfield 153, 3) := by decide +kernel
theorem dX12_reads_236 : decode cX12_reads 236 = .ok (.goto (-65), 3) := by decide +kernel
theorem dX12_reads_239 : decode cX12_reads 239 = .ok (.aload_n 0, 1) := by decide +kernel
theorem dX12_reads_240 : decode cX12_reads 240 = .ok (.getfield 153, 3) := by decide +kernel
theorem dX12_reads_243 : decode cX12_reads 243 = .ok (.aload_n 0, 1) := by decide +kernel
theorem dX12_reads_244 : decode cX12_reads 244 = .ok (.getfield 160, 3) := by decide +kernel
theorem dX12_reads_247 : decode cX12_reads 247 = .ok (.isub, 1) := by decide +kernel
theorem dX12_reads_248 : decode cX12_reads 248 = .ok (.iconst 5, 1) := by decide +kernel
theorem dX12_reads_249 : decode cX12_reads 249 = .ok (.if_icmp .ge 24, 3) := by decide +kernel
theorem dX12_reads_252 : decode cX12_reads 252 = .ok (.aload_n 0, 1) := by decide +kernel
theorem dX12_reads_253 : decode cX12_reads 253 = .ok (.iconst 3, 1) := by decide +kernel
theorem dX12_reads_254 : decode cX12_reads 254 = .ok (.putfield 163, 3) := by decide +kernel
theorem dX12_reads_257 : decode cX12_reads 257 = .ok (.goto 16, 3) := by decide +kernel
theorem dX12_reads_260 : decode cX12_reads 260 = .ok (.aload_n 0, 1) := by decide +kernel
theorem dX12_reads_261 : decode cX12_reads 261 = .ok (.iload_n 1, 1) := by decide +kernel
theorem dX12_reads_262 : decode cX12_reads 262 = .ok (.invokevirtual 179, 3) := by decide +kernel
theorem dX12_reads_265 : decode cX12_reads 265 = .ok (.ifCond .eq 8, 3) := by decide +kernel
theorem dX12_reads_268 : decode cX12_reads 268 = .ok (.aload_n 0, 1) := by decide +kernel
theorem dX12_reads_269 : decode cX12_reads 269 = .ok (.iconst 4, 1) := by decide +kernel
theorem dX12_reads_270 : decode cX12_reads 270 = .ok (.putfield 163, 3) := by decide +kernel
theorem dX12_reads_273 : decode cX12_reads 273 = .ok (.return_, 1) := by decide +kernel
theorem dX12_isWord_0 : decode cX12_isWord 0 = .ok (.aload_n 0, 1) := by decide +kernel
theorem dX12_isWord_1 : decode cX12_isWord 1 = .ok (.getfield 163, 3) := by decide +kernel
theorem dX12_isWord_4 : decode cX12_isWord 4 = .ok (.iconst 2, 1) := by decide +kernel
theorem dX12_isWord_5 : decode cX12_isWord 5 = .ok (.if_icmp .ne 15, 3) := by decide +kernel
theorem dX12_isWord_8 : decode cX12_isWord 8 = .ok (.aload_n 0, 1) := by decide +kernel
theorem dX12_isWord_9 : decode cX12_isWord 9 = .ok (.getfield 166, 3) := by decide +kernel
theorem dX12_isWord_12 : decode cX12_isWord 12 = .ok (.iload_n 1, 1) := by decide +kernel
theorem dX12_isWord_13 : decode cX12_isWord 13 = .ok (.if_icmp .ne 7, 3) := by decide +kernel
theorem dX12_isWord_16 : decode cX12_isWord 16 = .ok (.iconst 1, 1) := by decide +kernel
theorem dX12_isWord_17 : decode cX12_isWord 17 = .ok (.goto 4, 3) := by decide +kernel
theorem dX12_isWord_20 : decode cX12_isWord 20 = .ok (.iconst 0, 1) := by decide +kernel
theorem dX12_isWord_21 : decode cX12_isWord 21 = .ok (.ireturn, 1) := by decide +kernel
theorem dX12_errs_0 : decode cX12_errs 0 = .ok (.aload_n 0, 1) := by decide +kernel
theorem dX12_errs_1 : decode cX12_errs 1 = .ok (.iload_n 1, 1) := by decide +kernel
theorem dX12_errs_2 : decode cX12_errs 2 = .ok (.putfield 182, 3) := by decide +kernel
theorem dX12_errs_5 : decode cX12_errs 5 = .ok (.aload_n 0, 1) := by decide +kernel
theorem dX12_errs_6 : decode cX12_errs 6 = .ok (.aload_n 0, 1) := by decide +kernel
theorem dX12_errs_7 : decode cX12_errs 7 = .ok (.getfield 160, 3) := by decide +kernel
theorem dX12_errs_10 : decode cX12_errs 10 = .ok (.putfield 185, 3) := by decide +kernel
theorem dX12_errs_13 : decode cX12_errs 13 = .ok (.iconst (-1), 1) := by decide +kernel
theorem dX12_errs_14 : decode cX12_errs 14 = .ok (.ireturn, 1) := by decide +kernel
theorem dX12_emits_0 : decode cX12_emits 0 = .ok (.aload_n 0, 1) := by decide +kernel
theorem dX12_emits_1 : decode cX12_emits 1 = .ok (.getfield 64, 3) := by decide +kernel
theorem dX12_emits_4 : decode cX12_emits 4 = .ok (.sipush 400, 3) := by decide +kernel
theorem dX12_emits_7 : decode cX12_emits 7 = .ok (.aload_n 0, 1) := by decide +kernel
theorem dX12_emits_8 : decode cX12_emits 8 = .ok (.getfield 188, 3) := by decide +kernel
theorem dX12_emits_11 : decode cX12_emits 11 = .ok (.iadd, 1) := by decide +kernel
theorem dX12_emits_12 : decode cX12_emits 12 = .ok (.iload_n 1, 1) := by decide +kernel
theorem dX12_emits_13 : decode cX12_emits 13 = .ok (.iastore, 1) := by decide +kernel
theorem dX12_emits_14 : decode cX12_emits 14 = .ok (.aload_n 0, 1) := by decide +kernel
theorem dX12_emits_15 : decode cX12_emits 15 = .ok (.getfield 67, 3) := by decide +kernel
theorem dX12_emits_18 : decode cX12_emits 18 = .ok (.sipush 400, 3) := by decide +kernel
theorem dX12_emits_21 : decode cX12_emits 21 = .ok (.aload_n 0, 1) := by decide +kernel
theorem dX12_emits_22 : decode cX12_emits 22 = .ok (.getfield 188, 3) := by decide +kernel
theorem dX12_emits_25 : decode cX12_emits 25 = .ok (.iadd, 1) := by decide +kernel
theorem dX12_emits_26 : decode cX12_emits 26 = .ok (.iload_n 2, 1) := by decide +kernel
theorem dX12_emits_27 : decode cX12_emits 27 = .ok (.iastore, 1) := by decide +kernel
theorem dX12_emits_28 : decode cX12_emits 28 = .ok (.aload_n 0, 1) := by decide +kernel
theorem dX12_emits_29 : decode cX12_emits 29 = .ok (.aload_n 0, 1) := by decide +kernel
theorem dX12_emits_30 : decode cX12_emits 30 = .ok (.getfield 188, 3) := by decide +kernel
theorem dX12_emits_33 : decode cX12_emits 33 = .ok (.iconst 1, 1) := by decide +kernel
theorem dX12_emits_34 : decode cX12_emits 34 = .ok (.iadd, 1) := by decide +kernel
theorem dX12_emits_35 : decode cX12_emits 35 = .ok (.putfield 188, 3) := by decide +kernel
theorem dX12_emits_38 : decode cX12_emits 38 = .ok (.return_, 1) := by decide +kernel
theorem dX12_readUnit_0 : decode cX12_readUnit 0 = .ok (.aload_n 0, 1) := by decide +kernel
theorem dX12_readUnit_1 : decode cX12_readUnit 1 = .ok (.getfield 163, 3) := by decide +kernel
theorem dX12_readUnit_4 : decode cX12_readUnit 4 = .ok (.iconst 2, 1) := by decide +kernel
theorem dX12_readUnit_5 : decode cX12_readUnit 5 = .ok (.if_icmp .ne 15, 3) := by decide +kernel
theorem dX12_readUnit_8 : decode cX12_readUnit 8 = .ok (.aload_n 0, 1) := by decide +kernel
theorem dX12_readUnit_9 : decode cX12_readUnit 9 = .ok (.getfield 166, 3) := by decide +kernel
theorem dX12_readUnit_12 : decode cX12_readUnit 12 = .ok (.iconst 5, 1) := by decide +kernel
theorem dX12_readUnit_13 : decode cX12_readUnit 13 = .ok (.if_icmp .lt 7, 3) := by decide +kernel
theorem dX12_readUnit_16 : decode cX12_readUnit 16 = .ok (.iconst 1, 1) := by decide +kernel
theorem dX12_readUnit_17 : decode cX12_readUnit 17 = .ok (.goto 4, 3) := by decide +kernel
theorem dX12_readUnit_20 : decode cX12_readUnit 20 = .ok (.iconst 0, 1) := by decide +kernel
theorem dX12_readUnit_21 : decode cX12_readUnit 21 = .ok (.istore_n 1, 1) := by decide +kernel
theorem dX12_readUnit_22 : decode cX12_readUnit 22 = .ok (.iload_n 1, 1) := by decide +kernel
theorem dX12_readUnit_23 : decode cX12_readUnit 23 = .ok (.ifCond .ne 17, 3) := by decide +kernel
theorem dX12_readUnit_26 : decode cX12_readUnit 26 = .ok (.aload_n 0, 1) := by decide +kernel
theorem dX12_readUnit_27 : decode cX12_readUnit 27 = .ok (.getfield 163, 3) := by decide +kernel
theorem dX12_readUnit_30 : decode cX12_readUnit 30 = .ok (.iconst 3, 1) := by decide +kernel
theorem dX12_readUnit_31 : decode cX12_readUnit 31 = .ok (.if_icmp .eq 9, 3) := by decide +kernel
theorem dX12_readUnit_34 : decode cX12_readUnit 34 = .ok (.aload_n 0, 1) := by decide +kernel
theorem dX12_readUnit_35 : decode cX12_readUnit 35 = .ok (.iconst 1, 1) := by decide +kernel
theorem dX12_readUnit_36 : decode cX12_readUnit 36 = .ok (.invokevirtual 191, 3) := by decide +kernel
theorem dX12_readUnit_39 : decode cX12_readUnit 39 = .ok (.ireturn, 1) := by decide +kernel
theorem dX12_readUnit_40 : decode cX12_readUnit 40 = .ok (.aload_n 0, 1) := by decide +kernel
theorem dX12_readUnit_41 : decode cX12_readUnit 41 = .ok (.iload_n 1, 1) := by decide +kernel
theorem dX12_readUnit_42 : decode cX12_readUnit 42 = .ok (.ifCond .eq 7, 3) := by decide +kernel
theorem dX12_readUnit_45 : decode cX12_readUnit 45 = .ok (.iconst 1, 1) := by decide +kernel
theorem dX12_readUnit_46 : decode cX12_readUnit 46 = .ok (.goto 4, 3) := by decide +kernel
theorem dX12_readUnit_49 : decode cX12_readUnit 49 = .ok (.iconst 0, 1) := by decide +kernel
theorem dX12_readUnit_50 : decode cX12_readUnit 50 = .ok (.iload_n 1, 1) := by decide +kernel
theorem dX12_readUnit_51 : decode cX12_readUnit 51 = .ok (.ifCond .eq 12, 3) := by decide +kernel
theorem dX12_readUnit_54 : decode cX12_readUnit 54 = .ok (.aload_n 0, 1) := by decide +kernel
theorem dX12_readUnit_55 : decode cX12_readUnit 55 = .ok (.getfield 166, 3) := by decide +kernel
theorem dX12_readUnit_58 : decode cX12_readUnit 58 = .ok (.iconst 5, 1) := by decide +kernel
theorem dX12_readUnit_59 : decode cX12_readUnit 59 = .ok (.isub, 1) := by decide +kernel
theorem dX12_readUnit_60 : decode cX12_readUnit 60 = .ok (.goto 7, 3) := by decide +kernel
theorem dX12_readUnit_63 : decode cX12_readUnit 63 = .ok (.aload_n 0, 1) := by decide +kernel
theorem dX12_readUnit_64 : decode cX12_readUnit 64 = .ok (.getfield 166, 3) := by decide +kernel
theorem dX12_readUnit_67 : decode cX12_readUnit 67 = .ok (.invokevirtual 194, 3) := by decide +kernel
theorem dX12_readUnit_70 : decode cX12_readUnit 70 = .ok (.aload_n 0, 1) := by decide +kernel
theorem dX12_readUnit_71 : decode cX12_readUnit 71 = .ok (.invokevirtual 198, 3) := by decide +kernel
theorem dX12_readUnit_74 : decode cX12_readUnit 74 = .ok (.iconst 0, 1) := by decide +kernel
theorem dX12_readUnit_75 : decode cX12_readUnit 75 = .ok (.ireturn, 1) := by decide +kernel
theorem dX12_isSign_0 : decode cX12_isSign 0 = .ok (.aload_n 0, 1) := by decide +kernel
theorem dX12_isSign_1 : decode cX12_isSign 1 = .ok (.getfield 163, 3) := by decide +kernel
theorem dX12_isSign_4 : decode cX12_isSign 4 = .ok (.iconst 4, 1) := by decide +kernel
theorem dX12_isSign_5 : decode cX12_isSign 5 = .ok (.if_icmp .ne 15, 3) := by decide +kernel
theorem dX12_isSign_8 : decode cX12_isSign 8 = .ok (.aload_n 0, 1) := by decide +kernel
theorem dX12_isSign_9 : decode cX12_isSign 9 = .ok (.getfield 166, 3) := by decide +kernel
theorem dX12_isSign_12 : decode cX12_isSign 12 = .ok (.iload_n 1, 1) := by decide +kernel
theorem dX12_isSign_13 : decode cX12_isSign 13 = .ok (.if_icmp .ne 7, 3) := by decide +kernel
theorem dX12_isSign_16 : decode cX12_isSign 16 = .ok (.iconst 1, 1) := by decide +kernel
theorem dX12_isSign_17 : decode cX12_isSign 17 = .ok (.goto 4, 3) := by decide +kernel
theorem dX12_isSign_20 : decode cX12_isSign 20 = .ok (.iconst 0, 1) := by decide +kernel
theorem dX12_isSign_21 : decode cX12_isSign 21 = .ok (.ireturn, 1) := by decide +kernel
theorem dX12_readProduct_0 : decode cX12_readProduct 0 = .ok (.aload_n 0, 1) := by decide +kernel
theorem dX12_readProduct_1 : decode cX12_readProduct 1 = .ok (.invokevirtual 201, 3) := by decide +kernel
theorem dX12_readProduct_4 : decode cX12_readProduct 4 = .ok (.iconst (-1), 1) := by decide +kernel
theorem dX12_readProduct_5 : decode cX12_readProduct 5 = .ok (.if_icmp .ne 5, 3) := by decide +kernel
theorem dX12_readProduct_8 : decode cX12_readProduct 8 = .ok (.iconst (-1), 1) := by decide +kernel
theorem dX12_readProduct_9 : decode cX12_readProduct 9 = .ok (.ireturn, 1) := by decide +kernel
theorem dX12_readProduct_10 : decode cX12_readProduct 10 = .ok (.aload_n 0, 1) := by decide +kernel
theorem dX12_readProduct_11 : decode cX12_readProduct 11 = .ok (.bipush 42, 2) := by decide +kernel
theorem dX12_readProduct_13 : decode cX12_readProduct 13 = .ok (.invokevirtual 205, 3) := by decide +kernel
theorem dX12_readProduct_16 : decode cX12_readProduct 16 = .ok (.ifCond .ne 12, 3) := by decide +kernel
theorem dX12_readProduct_19 : decode cX12_readProduct 19 = .ok (.aload_n 0, 1) := by decide +kernel
theorem dX12_readProduct_20 : decode cX12_readProduct 20 = .ok (.bipush 47, 2) := by decide +kernel
theorem dX12_readProduct_22 : decode cX12_readProduct 22 = .ok (.invokevirtual 205, 3) := by decide +kernel
theorem dX12_readProduct_25 : decode cX12_readProduct 25 = .ok (.ifCond .eq 76, 3) := by decide +kernel
theorem dX12_readProduct_28 : decode cX12_readProduct 28 = .ok (.aload_n 0, 1) := by decide +kernel
theorem dX12_readProduct_29 : decode cX12_readProduct 29 = .ok (.bipush 42, 2) := by decide +kernel
theorem dX12_readProduct_31 : decode cX12_readProduct 31 = .ok (.invokevirtual 205, 3) := by decide +kernel
theorem dX12_readProduct_34 : decode cX12_readProduct 34 = .ok (.istore_n 1, 1) := by decide +kernel
theorem dX12_readProduct_35 : decode cX12_readProduct 35 = .ok (.aload_n 0, 1) := by decide +kernel
theorem dX12_readProduct_36 : decode cX12_readProduct 36 = .ok (.invokevirtual 198, 3) := by decide +kernel
theorem dX12_readProduct_39 : decode cX12_readProduct 39 = .ok (.iload_n 1, 1) := by decide +kernel
theorem dX12_readProduct_40 : decode cX12_readProduct 40 = .ok (.ifCond .ne 17, 3) := by decide +kernel
theorem dX12_readProduct_43 : decode cX12_readProduct 43 = .ok (.aload_n 0, 1) := by decide +kernel
theorem dX12_readProduct_44 : decode cX12_readProduct 44 = .ok (.getfield 163, 3) := by decide +kernel
theorem dX12_readProduct_47 : decode cX12_readProduct 47 = .ok (.iconst 3, 1) := by decide +kernel
theorem dX12_readProduct_48 : decode cX12_readProduct 48 = .ok (.if_icmp .eq 9, 3) := by decide +kernel
theorem dX12_readProduct_51 : decode cX12_readProduct 51 = .ok (.aload_n 0, 1) := by decide +kernel
theorem dX12_readProduct_52 : decode cX12_readProduct 52 = .ok (.iconst 1, 1) := by decide +kernel
theorem dX12_readProduct_53 : decode cX12_readProduct 53 = .ok (.invokevirtual 191, 3) := by decide +kernel
theorem dX12_readProduct_56 : decode cX12_readProduct 56 = .ok (.ireturn, 1) := by decide +kernel
theorem dX12_readProduct_57 : decode cX12_readProduct 57 = .ok (.iload_n 1, 1) := by decide +kernel
theorem dX12_readProduct_58 : decode cX12_readProduct 58 = .ok (.ifCond .ne 16, 3) := by decide +kernel
theorem dX12_readProduct_61 : decode cX12_readProduct 61 = .ok (.aload_n 0, 1) := by decide +kernel
theorem dX12_readProduct_62 : decode cX12_readProduct 62 = .ok (.getfield 166, 3) := by decide +kernel
theorem dX12_readProduct_65 : decode cX12_readProduct 65 = .ok (.ifCond .ne 9, 3) := by decide +kernel
theorem dX12_readProduct_68 : decode cX12_readProduct 68 = .ok (.aload_n 0, 1) := by decide +kernel
theorem dX12_readProduct_69 : decode cX12_readProduct 69 = .ok (.iconst 2, 1) := by decide +kernel
theorem dX12_readProduct_70 : decode cX12_readProduct 70 = .ok (.invokevirtual 191, 3) := by decide +kernel
theorem dX12_readProduct_73 : decode cX12_readProduct 73 = .ok (.ireturn, 1) := by decide +kernel
theorem dX12_readProduct_74 : decode cX12_readProduct 74 = .ok (.aload_n 0, 1) := by decide +kernel
theorem dX12_readProduct_75 : decode cX12_readProduct 75 = .ok (.invokevirtual 201, 3) := by decide +kernel
theorem dX12_readProduct_78 : decode cX12_readProduct 78 = .ok (.iconst (-1), 1) := by decide +kernel
theorem dX12_readProduct_79 : decode cX12_readProduct 79 = .ok (.if_icmp .ne 5, 3) := by decide +kernel
theorem dX12_readProduct_82 : decode cX12_readProduct 82 = .ok (.iconst (-1), 1) := by decide +kernel
theorem dX12_readProduct_83 : decode cX12_readProduct 83 = .ok (.ireturn, 1) := by decide +kernel
theorem dX12_readProduct_84 : decode cX12_readProduct 84 = .ok (.aload_n 0, 1) := by decide +kernel
theorem dX12_readProduct_85 : decode cX12_readProduct 85 = .ok (.iload_n 1, 1) := by decide +kernel
theorem dX12_readProduct_86 : decode cX12_readProduct 86 = .ok (.ifCond .eq 7, 3) := by decide +kernel
theorem dX12_readProduct_89 : decode cX12_readProduct 89 = .ok (.iconst 4, 1) := by decide +kernel
theorem dX12_readProduct_90 : decode cX12_readProduct 90 = .ok (.goto 4, 3) := by decide +kernel
theorem dX12_readProduct_93 : decode cX12_readProduct 93 = .ok (.iconst 5, 1) := by decide +kernel
theorem dX12_readProduct_94 : decode cX12_readProduct 94 = .ok (.iconst 0, 1) := by decide +kernel
theorem dX12_readProduct_95 : decode cX12_readProduct 95 = .ok (.invokevirtual 194, 3) := by decide +kernel
theorem dX12_readProduct_98 : decode cX12_readProduct 98 = .ok (.goto (-88), 3) := by decide +kernel
theorem dX12_readProduct_101 : decode cX12_readProduct 101 = .ok (.iconst 0, 1) := by decide +kernel
theorem dX12_readProduct_102 : decode cX12_readProduct 102 = .ok (.ireturn, 1) := by decide +kernel
theorem dX12_readSum_0 : decode cX12_readSum 0 = .ok (.aload_n 0, 1) := by decide +kernel
theorem dX12_readSum_1 : decode cX12_readSum 1 = .ok (.invokevirtual 208, 3) := by decide +kernel
theorem dX12_readSum_4 : decode cX12_readSum 4 = .ok (.iconst (-1), 1) := by decide +kernel
theorem dX12_readSum_5 : decode cX12_readSum 5 = .ok (.if_icmp .ne 5, 3) := by decide +kernel
theorem dX12_readSum_8 : decode cX12_readSum 8 = .ok (.iconst (-1), 1) := by decide +kernel
theorem dX12_readSum_9 : decode cX12_readSum 9 = .ok (.ireturn, 1) := by decide +kernel
theorem dX12_readSum_10 : decode cX12_readSum 10 = .ok (.aload_n 0, 1) := by decide +kernel
theorem dX12_readSum_11 : decode cX12_readSum 11 = .ok (.bipush 43, 2) := by decide +kernel
theorem dX12_readSum_13 : decode cX12_readSum 13 = .ok (.invokevirtual 205, 3) := by decide +kernel
theorem dX12_readSum_16 : decode cX12_readSum 16 = .ok (.ifCond .ne 12, 3) := by decide +kernel
theorem dX12_readSum_19 : decode cX12_readSum 19 = .ok (.aload_n 0, 1) := by decide +kernel
theorem dX12_readSum_20 : decode cX12_readSum 20 = .ok (.bipush 45, 2) := by decide +kernel
theorem dX12_readSum_22 : decode cX12_readSum 22 = .ok (.invokevirtual 205, 3) := by decide +kernel
theorem dX12_readSum_25 : decode cX12_readSum 25 = .ok (.ifCond .eq 41, 3) := by decide +kernel
theorem dX12_readSum_28 : decode cX12_readSum 28 = .ok (.aload_n 0, 1) := by decide +kernel
theorem dX12_readSum_29 : decode cX12_readSum 29 = .ok (.getfield 166, 3) := by decide +kernel
theorem dX12_readSum_32 : decode cX12_readSum 32 = .ok (.bipush 43, 2) := by decide +kernel
theorem dX12_readSum_34 : decode cX12_readSum 34 = .ok (.if_icmp .ne 7, 3) := by decide +kernel
theorem dX12_readSum_37 : decode cX12_readSum 37 = .ok (.iconst 2, 1) := by decide +kernel
theorem dX12_readSum_38 : decode cX12_readSum 38 = .ok (.goto 4, 3) := by decide +kernel
theorem dX12_readSum_41 : decode cX12_readSum 41 = .ok (.iconst 3, 1) := by decide +kernel
theorem dX12_readSum_42 : decode cX12_readSum 42 = .ok (.istore_n 1, 1) := by decide +kernel
theorem dX12_readSum_43 : decode cX12_readSum 43 = .ok (.aload_n 0, 1) := by decide +kernel
theorem dX12_readSum_44 : decode cX12_readSum 44 = .ok (.invokevirtual 198, 3) := by decide +kernel
theorem dX12_readSum_47 : decode cX12_readSum 47 = .ok (.aload_n 0, 1) := by decide +kernel
theorem dX12_readSum_48 : decode cX12_readSum 48 = .ok (.invokevirtual 208, 3) := by decide +kernel
theorem dX12_readSum_51 : decode cX12_readSum 51 = .ok (.iconst (-1), 1) := by decide +kernel
theorem dX12_readSum_52 : decode cX12_readSum 52 = .ok (.if_icmp .ne 5, 3) := by decide +kernel
theorem dX12_readSum_55 : decode cX12_readSum 55 = .ok (.iconst (-1), 1) := by decide +kernel
theorem dX12_readSum_56 : decode cX12_readSum 56 = .ok (.ireturn, 1) := by decide +kernel
theorem dX12_readSum_57 : decode cX12_readSum 57 = .ok (.aload_n 0, 1) := by decide +kernel
theorem dX12_readSum_58 : decode cX12_readSum 58 = .ok (.iload_n 1, 1) := by decide +kernel
theorem dX12_readSum_59 : decode cX12_readSum 59 = .ok (.iconst 0, 1) := by decide +kernel
theorem dX12_readSum_60 : decode cX12_readSum 60 = .ok (.invokevirtual 194, 3) := by decide +kernel
theorem dX12_readSum_63 : decode cX12_readSum 63 = .ok (.goto (-53), 3) := by decide +kernel
theorem dX12_readSum_66 : decode cX12_readSum 66 = .ok (.iconst 0, 1) := by decide +kernel
theorem dX12_readSum_67 : decode cX12_readSum 67 = .ok (.ireturn, 1) := by decide +kernel
theorem dX12_settles_0 : decode cX12_settles 0 = .ok (.aload_n 0, 1) := by decide +kernel
theorem dX12_settles_1 : decode cX12_settles 1 = .ok (.getfield 214, 3) := by decide +kernel
theorem dX12_settles_4 : decode cX12_settles 4 = .ok (.ifCond .le 53, 3) := by decide +kernel
theorem dX12_settles_7 : decode cX12_settles 7 = .ok (.aload_n 0, 1) := by decide +kernel
theorem dX12_settles_8 : decode cX12_settles 8 = .ok (.getfield 70, 3) := by decide +kernel
theorem dX12_settles_11 : decode cX12_settles 11 = .ok (.aload_n 0, 1) := by decide +kernel
theorem dX12_settles_12 : decode cX12_settles 12 = .ok (.getfield 214, 3) := by decide +kernel
theorem dX12_settles_15 : decode cX12_settles 15 = .ok (.iconst 1, 1) := by decide +kernel
theorem dX12_settles_16 : decode cX12_settles 16 = .ok (.isub, 1) := by decide +kernel
theorem dX12_settles_17 : decode cX12_settles 17 = .ok (.iaload, 1) := by decide +kernel
theorem dX12_settles_18 : decode cX12_settles 18 = .ok (.iload_n 1, 1) := by decide +kernel
theorem dX12_settles_19 : decode cX12_settles 19 = .ok (.if_icmp .ne 38, 3) := by decide +kernel
theorem dX12_settles_22 : decode cX12_settles 22 = .ok (.aload_n 0, 1) := by decide +kernel
theorem dX12_settles_23 : decode cX12_settles 23 = .ok (.aload_n 0, 1) := by decide +kernel
theorem dX12_settles_24 : decode cX12_settles 24 = .ok (.getfield 214, 3) := by decide +kernel
theorem dX12_settles_27 : decode cX12_settles 27 = .ok (.iconst 1, 1) := by decide +kernel
theorem dX12_settles_28 : decode cX12_settles 28 = .ok (.isub, 1) := by decide +kernel
theorem dX12_settles_29 : decode cX12_settles 29 = .ok (.putfield 214, 3) := by decide +kernel
theorem dX12_settles_32 : decode cX12_settles 32 = .ok (.aload_n 0, 1) := by decide +kernel
theorem dX12_settles_33 : decode cX12_settles 33 = .ok (.iload_n 1, 1) := by decide +kernel
theorem dX12_settles_34 : decode cX12_settles 34 = .ok (.iconst 0, 1) := by decide +kernel
theorem dX12_settles_35 : decode cX12_settles 35 = .ok (.invokevirtual 194, 3) := by decide +kernel
theorem dX12_settles_38 : decode cX12_settles 38 = .ok (.iload_n 1, 1) := by decide +kernel
theorem dX12_settles_39 : decode cX12_settles 39 = .ok (.bipush 9, 2) := by decide +kernel
theorem dX12_settles_41 : decode cX12_settles 41 = .ok (.if_icmp .ne (-41), 3) := by decide +kernel
theorem dX12_settles_44 : decode cX12_settles 44 = .ok (.aload_n 0, 1) := by decide +kernel
theorem dX12_settles_45 : decode cX12_settles 45 = .ok (.aload_n 0, 1) := by decide +kernel
theorem dX12_settles_46 : decode cX12_settles 46 = .ok (.getfield 217, 3) := by decide +kernel
theorem dX12_settles_49 : decode cX12_settles 49 = .ok (.iconst 1, 1) := by decide +kernel
theorem dX12_settles_50 : decode cX12_settles 50 = .ok (.isub, 1) := by decide +kernel
theorem dX12_settles_51 : decode cX12_settles 51 = .ok (.putfield 217, 3) := by decide +kernel
theorem dX12_settles_54 : decode cX12_settles 54 = .ok (.goto (-54), 3) := by decide +kernel
theorem dX12_settles_57 : decode cX12_settles 57 = .ok (.return_, 1) := by decide +kernel
theorem dX12_waits_0 : decode cX12_waits 0 = .ok (.aload_n 0, 1) := by decide +kernel
theorem dX12_waits_1 : decode cX12_waits 1 = .ok (.getfield 70, 3) := by decide +kernel
theorem dX12_waits_4 : decode cX12_waits 4 = .ok (.aload_n 0, 1) := by decide +kernel
theorem dX12_waits_5 : decode cX12_waits 5 = .ok (.getfield 214, 3) := by decide +kernel
theorem dX12_waits_8 : decode cX12_waits 8 = .ok (.iload_n 1, 1) := by decide +kernel
theorem dX12_waits_9 : decode cX12_waits 9 = .ok (.iastore, 1) := by decide +kernel
theorem dX12_waits_10 : decode cX12_waits 10 = .ok (.aload_n 0, 1) := by decide +kernel
theorem dX12_waits_11 : decode cX12_waits 11 = .ok (.aload_n 0, 1) := by decide +kernel
theorem dX12_waits_12 : decode cX12_waits 12 = .ok (.getfield 214, 3) := by decide +kernel
theorem dX12_waits_15 : decode cX12_waits 15 = .ok (.iconst 1, 1) := by decide +kernel
theorem dX12_waits_16 : decode cX12_waits 16 = .ok (.iadd, 1) := by decide +kernel
theorem dX12_waits_17 : decode cX12_waits 17 = .ok (.putfield 214, 3) := by decide +kernel
theorem dX12_waits_20 : decode cX12_waits 20 = .ok (.return_, 1) := by decide +kernel
theorem dX12_readCompared_0 : decode cX12_readCompared 0 = .ok (.aload_n 0, 1) := by decide +kernel
theorem dX12_readCompared_1 : decode cX12_readCompared 1 = .ok (.invokevirtual 211, 3) := by decide +kernel
theorem dX12_readCompared_4 : decode cX12_readCompared 4 = .ok (.iconst (-1), 1) := by decide +kernel
theorem dX12_readCompared_5 : decode cX12_readCompared 5 = .ok (.if_icmp .ne 5, 3) := by decide +kernel
theorem dX12_readCompared_8 : decode cX12_readCompared 8 = .ok (.iconst (-1), 1) := by decide +kernel
theorem dX12_readCompared_9 : decode cX12_readCompared 9 = .ok (.ireturn, 1) := by decide +kernel
theorem dX12_readCompared_10 : decode cX12_readCompared 10 = .ok (.aload_n 0, 1) := by decide +kernel
theorem dX12_readCompared_11 : decode cX12_readCompared 11 = .ok (.bipush 60, 2) := by decide +kernel
theorem dX12_readCompared_13 : decode cX12_readCompared 13 = .ok (.invokevirtual 205, 3) := by decide +kernel
theorem dX12_readCompared_16 : decode cX12_readCompared 16 = .ok (.ifCond .ne 27, 3) := by decide +kernel
theorem dX12_readCompared_19 : decode cX12_readCompared 19 = .ok (.aload_n 0, 1) := by decide +kernel
theorem dX12_readCompared_20 : decode cX12_readCompared 20 = .ok (.bipush 61, 2) := by decide +kernel
theorem dX12_readCompared_22 : decode cX12_readCompared 22 = .ok (.invokevirtual 205, 3) := by decide +kernel
theorem dX12_readCompared_25 : decode cX12_readCompared 25 = .ok (.ifCond .ne 18, 3) := by decide +kernel
theorem dX12_readCompared_28 : decode cX12_readCompared 28 = .ok (.aload_n 0, 1) := by decide +kernel
theorem dX12_readCompared_29 : decode cX12_readCompared 29 = .ok (.bipush 62, 2) := by decide +kernel
theorem dX12_readCompared_31 : decode cX12_readCompared 31 = .ok (.invokevirtual 205, 3) := by decide +kernel
theorem dX12_readCompared_34 : decode cX12_readCompared 34 = .ok (.ifCond .ne 9, 3) := by decide +kernel
theorem dX12_readCompared_37 : decode cX12_readCompared 37 = .ok (.aload_n 0, 1) := by decide +kernel
theorem dX12_readCompared_38 : decode cX12_readCompared 38 = .ok (.iconst 1, 1) := by decide +kernel
theorem dX12_readCompared_39 : decode cX12_readCompared 39 = .ok (.invokevirtual 191, 3) := by decide +kernel
theorem dX12_readCompared_42 : decode cX12_readCompared 42 = .ok (.ireturn, 1) := by decide +kernel
theorem dX12_readCompared_43 : decode cX12_readCompared 43 = .ok (.aload_n 0, 1) := by decide +kernel
theorem dX12_readCompared_44 : decode cX12_readCompared 44 = .ok (.getfield 166, 3) := by decide +kernel
theorem dX12_readCompared_47 : decode cX12_readCompared 47 = .ok (.bipush 60, 2) := by decide +kernel
theorem dX12_readCompared_49 : decode cX12_readCompared 49 = .ok (.if_icmp .ne 8, 3) := by decide +kernel
theorem dX12_readCompared_52 : decode cX12_readCompared 52 = .ok (.bipush 6, 2) := by decide +kernel
theorem dX12_readCompared_54 : decode cX12_readCompared 54 = .ok (.goto 19, 3) := by decide +kernel
theorem dX12_readCompared_57 : decode cX12_readCompared 57 = .ok (.aload_n 0, 1) := by decide +kernel
theorem dX12_readCompared_58 : decode cX12_readCompared 58 = .ok (.getfield 166, 3) := by decide +kernel
theorem dX12_readCompared_61 : decode cX12_readCompared 61 = .ok (.bipush 61, 2) := by decide +kernel
theorem dX12_readCompared_63 : decode cX12_readCompared 63 = .ok (.if_icmp .ne 8, 3) := by decide +kernel
theorem dX12_readCompared_66 : decode cX12_readCompared 66 = .ok (.bipush 7, 2) := by decide +kernel
theorem dX12_readCompared_68 : decode cX12_readCompared 68 = .ok (.goto 5, 3) := by decide +kernel
theorem dX12_readCompared_71 : decode cX12_readCompared 71 = .ok (.bipush 8, 2) := by decide +kernel
theorem dX12_readCompared_73 : decode cX12_readCompared 73 = .ok (.istore_n 1, 1) := by decide +kernel
theorem dX12_readCompared_74 : decode cX12_readCompared 74 = .ok (.aload_n 0, 1) := by decide +kernel
theorem dX12_readCompared_75 : decode cX12_readCompared 75 = .ok (.invokevirtual 198, 3) := by decide +kernel
theorem dX12_readCompared_78 : decode cX12_readCompared 78 = .ok (.aload_n 0, 1) := by decide +kernel
theorem dX12_readCompared_79 : decode cX12_readCompared 79 = .ok (.invokevirtual 211, 3) := by decide +kernel
theorem dX12_readCompared_82 : decode cX12_readCompared 82 = .ok (.iconst (-1), 1) := by decide +kernel
theorem dX12_readCompared_83 : decode cX12_readCompared 83 = .ok (.if_icmp .ne 5, 3) := by decide +kernel
theorem dX12_readCompared_86 : decode cX12_readCompared 86 = .ok (.iconst (-1), 1) := by decide +kernel
theorem dX12_readCompared_87 : decode cX12_readCompared 87 = .ok (.ireturn, 1) := by decide +kernel
theorem dX12_readCompared_88 : decode cX12_readCompared 88 = .ok (.aload_n 0, 1) := by decide +kernel
theorem dX12_readCompared_89 : decode cX12_readCompared 89 = .ok (.iload_n 1, 1) := by decide +kernel
theorem dX12_readCompared_90 : decode cX12_readCompared 90 = .ok (.iconst 0, 1) := by decide +kernel
theorem dX12_readCompared_91 : decode cX12_readCompared 91 = .ok (.invokevirtual 194, 3) := by decide +kernel
theorem dX12_readCompared_94 : decode cX12_readCompared 94 = .ok (.iconst 0, 1) := by decide +kernel
theorem dX12_readCompared_95 : decode cX12_readCompared 95 = .ok (.ireturn, 1) := by decide +kernel
theorem dX12_readAny_0 : decode cX12_readAny 0 = .ok (.iconst 0, 1) := by decide +kernel
theorem dX12_readAny_1 : decode cX12_readAny 1 = .ok (.istore_n 1, 1) := by decide +kernel
theorem dX12_readAny_2 : decode cX12_readAny 2 = .ok (.aload_n 0, 1) := by decide +kernel
theorem dX12_readAny_3 : decode cX12_readAny 3 = .ok (.iconst 0, 1) := by decide +kernel
theorem dX12_readAny_4 : decode cX12_readAny 4 = .ok (.putfield 214, 3) := by decide +kernel
theorem dX12_readAny_7 : decode cX12_readAny 7 = .ok (.iconst 1, 1) := by decide +kernel
theorem dX12_readAny_8 : decode cX12_readAny 8 = .ok (.istore_n 2, 1) := by decide +kernel
theorem dX12_readAny_9 : decode cX12_readAny 9 = .ok (.iload_n 2, 1) := by decide +kernel
theorem dX12_readAny_10 : decode cX12_readAny 10 = .ok (.ifCond .eq 98, 3) := by decide +kernel
theorem dX12_readAny_13 : decode cX12_readAny 13 = .ok (.aload_n 0, 1) := by decide +kernel
theorem dX12_readAny_14 : decode cX12_readAny 14 = .ok (.iconst 4, 1) := by decide +kernel
theorem dX12_readAny_15 : decode cX12_readAny 15 = .ok (.invokevirtual 220, 3) := by decide +kernel
theorem dX12_readAny_18 : decode cX12_readAny 18 = .ok (.istore_n 3, 1) := by decide +kernel
theorem dX12_readAny_19 : decode cX12_readAny 19 = .ok (.iload_n 3, 1) := by decide +kernel
theorem dX12_readAny_20 : decode cX12_readAny 20 = .ok (.ifCond .ne 12, 3) := by decide +kernel
theorem dX12_readAny_23 : decode cX12_readAny 23 = .ok (.aload_n 0, 1) := by decide +kernel
theorem dX12_readAny_24 : decode cX12_readAny 24 = .ok (.bipush 40, 2) := by decide +kernel
theorem dX12_readAny_26 : decode cX12_readAny 26 = .ok (.invokevirtual 205, 3) := by decide +kernel
theorem dX12_readAny_29 : decode cX12_readAny 29 = .ok (.ifCond .eq 58, 3) := by decide +kernel
theorem dX12_readAny_32 : decode cX12_readAny 32 = .ok (.aload_n 0, 1) := by decide +kernel
theorem dX12_readAny_33 : decode cX12_readAny 33 = .ok (.getfield 217, 3) := by decide +kernel
theorem dX12_readAny_36 : decode cX12_readAny 36 = .ok (.bipush 8, 2) := by decide +kernel
theorem dX12_readAny_38 : decode cX12_readAny 38 = .ok (.if_icmp .ne 9, 3) := by decide +kernel
theorem dX12_readAny_41 : decode cX12_readAny 41 = .ok (.aload_n 0, 1) := by decide +kernel
theorem dX12_readAny_42 : decode cX12_readAny 42 = .ok (.iconst 3, 1) := by decide +kernel
theorem dX12_readAny_43 : decode cX12_readAny 43 = .ok (.invokevirtual 191, 3) := by decide +kernel
theorem dX12_readAny_46 : decode cX12_readAny 46 = .ok (.ireturn, 1) := by decide +kernel
theorem dX12_readAny_47 : decode cX12_readAny 47 = .ok (.aload_n 0, 1) := by decide +kernel
theorem dX12_readAny_48 : decode cX12_readAny 48 = .ok (.aload_n 0, 1) := by decide +kernel
theorem dX12_readAny_49 : decode cX12_readAny 49 = .ok (.getfield 217, 3) := by decide +kernel
theorem dX12_readAny_52 : decode cX12_readAny 52 = .ok (.iconst 1, 1) := by decide +kernel
theorem dX12_readAny_53 : decode cX12_readAny 53 = .ok (.iadd, 1) := by decide +kernel
theorem dX12_readAny_54 : decode cX12_readAny 54 = .ok (.putfield 217, 3) := by decide +kernel
theorem dX12_readAny_57 : decode cX12_readAny 57 = .ok (.iload_n 3, 1) := by decide +kernel
theorem dX12_readAny_58 : decode cX12_readAny 58 = .ok (.ifCond .ne 7, 3) := by decide +kernel
theorem dX12_readAny_61 : decode cX12_readAny 61 = .ok (.iload_n 1, 1) := by decide +kernel
theorem dX12_readAny_62 : decode cX12_readAny 62 = .ok (.iconst 1, 1) := by decide +kernel
theorem dX12_readAny_63 : decode cX12_readAny 63 = .ok (.iadd, 1) := by decide +kernel
theorem dX12_readAny_64 : decode cX12_readAny 64 = .ok (.istore_n 1, 1) := by decide +kernel
theorem dX12_readAny_65 : decode cX12_readAny 65 = .ok (.aload_n 0, 1) := by decide +kernel
theorem dX12_readAny_66 : decode cX12_readAny 66 = .ok (.iload_n 3, 1) := by decide +kernel
theorem dX12_readAny_67 : decode cX12_readAny 67 = .ok (.ifCond .eq 8, 3) := by decide +kernel
theorem dX12_readAny_70 : decode cX12_readAny 70 = .ok (.bipush 9, 2) := by decide +kernel
theorem dX12_readAny_72 : decode cX12_readAny 72 = .ok (.goto 5, 3) := by decide +kernel
theorem dX12_readAny_75 : decode cX12_readAny 75 = .ok (.bipush 12, 2) := by decide +kernel
theorem dX12_readAny_77 : decode cX12_readAny 77 = .ok (.invokevirtual 223, 3) := by decide +kernel
theorem dX12_readAny_80 : decode cX12_readAny 80 = .ok (.aload_n 0, 1) := by decide +kernel
theorem dX12_readAny_81 : decode cX12_readAny 81 = .ok (.invokevirtual 198, 3) := by decide +kernel
theorem dX12_readAny_84 : decode cX12_readAny 84 = .ok (.goto (-75), 3) := by decide +kernel
theorem dX12_readAny_87 : decode cX12_readAny 87 = .ok (.aload_n 0, 1) := by decide +kernel
theorem dX12_readAny_88 : decode cX12_readAny 88 = .ok (.invokevirtual 226, 3) := by decide +kernel
theorem dX12_readAny_91 : decode cX12_readAny 91 = .ok (.iconst (-1), 1) := by decide +kernel
theorem dX12_readAny_92 : decode cX12_readAny 92 = .ok (.if_icmp .ne 5, 3) := by decide +kernel
theorem dX12_readAny_95 : decode cX12_readAny 95 = .ok (.iconst (-1), 1) := by decide +kernel
theorem dX12_readAny_96 : decode cX12_readAny 96 = .ok (.ireturn, 1) := by decide +kernel
theorem dX12_readAny_97 : decode cX12_readAny 97 = .ok (.aload_n 0, 1) := by decide +kernel
theorem dX12_readAny_98 : decode cX12_readAny 98 = .ok (.bipush 9, 2) := by decide +kernel
theorem dX12_readAny_100 : decode cX12_readAny 100 = .ok (.invokevirtual 229, 3) := by decide +kernel
theorem dX12_readAny_103 : decode cX12_readAny 103 = .ok (.iconst 0, 1) := by decide +kernel
theorem dX12_readAny_104 : decode cX12_readAny 104 = .ok (.istore_n 2, 1) := by decide +kernel
theorem dX12_readAny_105 : decode cX12_readAny 105 = .ok (.goto (-96), 3) := by decide +kernel
theorem dX12_readAny_108 : decode cX12_readAny 108 = .ok (.aload_n 0, 1) := by decide +kernel
theorem dX12_readAny_109 : decode cX12_readAny 109 = .ok (.iconst 3, 1) := by decide +kernel
theorem dX12_readAny_110 : decode cX12_readAny 110 = .ok (.invokevirtual 220, 3) := by decide +kernel
theorem dX12_readAny_113 : decode cX12_readAny 113 = .ok (.ifCond .eq 24, 3) := by decide +kernel
theorem dX12_readAny_116 : decode cX12_readAny 116 = .ok (.aload_n 0, 1) := by decide +kernel
theorem dX12_readAny_117 : decode cX12_readAny 117 = .ok (.bipush 10, 2) := by decide +kernel
theorem dX12_readAny_119 : decode cX12_readAny 119 = .ok (.invokevirtual 229, 3) := by decide +kernel
theorem dX12_readAny_122 : decode cX12_readAny 122 = .ok (.aload_n 0, 1) := by decide +kernel
theorem dX12_readAny_123 : decode cX12_readAny 123 = .ok (.bipush 10, 2) := by decide +kernel
theorem dX12_readAny_125 : decode cX12_readAny 125 = .ok (.invokevirtual 223, 3) := by decide +kernel
theorem dX12_readAny_128 : decode cX12_readAny 128 = .ok (.aload_n 0, 1) := by decide +kernel
theorem dX12_readAny_129 : decode cX12_readAny 129 = .ok (.invokevirtual 198, 3) := by decide +kernel
theorem dX12_readAny_132 : decode cX12_readAny 132 = .ok (.iconst 1, 1) := by decide +kernel
theorem dX12_readAny_133 : decode cX12_readAny 133 = .ok (.istore_n 2, 1) := by decide +kernel
theorem dX12_readAny_134 : decode cX12_readAny 134 = .ok (.goto (-125), 3) := by decide +kernel
theorem dX12_readAny_137 : decode cX12_readAny 137 = .ok (.aload_n 0, 1) := by decide +kernel
theorem dX12_readAny_138 : decode cX12_readAny 138 = .ok (.iconst 2, 1) := by decide +kernel
theorem dX12_readAny_139 : decode cX12_readAny 139 = .ok (.invokevirtual 220, 3) := by decide +kernel
theorem dX12_readAny_142 : decode cX12_readAny 142 = .ok (.ifCond .eq 30, 3) := by decide +kernel
theorem dX12_readAny_145 : decode cX12_readAny 145 = .ok (.aload_n 0, 1) := by decide +kernel
theorem dX12_readAny_146 : decode cX12_readAny 146 = .ok (.bipush 10, 2) := by decide +kernel
theorem dX12_readAny_148 : decode cX12_readAny 148 = .ok (.invokevirtual 229, 3) := by decide +kernel
theorem dX12_readAny_151 : decode cX12_readAny 151 = .ok (.aload_n 0, 1) := by decide +kernel
theorem dX12_readAny_152 : decode cX12_readAny 152 = .ok (.bipush 11, 2) := by decide +kernel
theorem dX12_readAny_154 : decode cX12_readAny 154 = .ok (.invokevirtual 229, 3) := by decide +kernel
theorem dX12_readAny_157 : decode cX12_readAny 157 = .ok (.aload_n 0, 1) := by decide +kernel
theorem dX12_readAny_158 : decode cX12_readAny 158 = .ok (.bipush 11, 2) := by decide +kernel
theorem dX12_readAny_160 : decode cX12_readAny 160 = .ok (.invokevirtual 223, 3) := by decide +kernel
theorem dX12_readAny_163 : decode cX12_readAny 163 = .ok (.aload_n 0, 1) := by decide +kernel
theorem dX12_readAny_164 : decode cX12_readAny 164 = .ok (.invokevirtual 198, 3) := by decide +kernel
theorem dX12_readAny_167 : decode cX12_readAny 167 = .ok (.iconst 1, 1) := by decide +kernel
theorem dX12_readAny_168 : decode cX12_readAny 168 = .ok (.istore_n 2, 1) := by decide +kernel
theorem dX12_readAny_169 : decode cX12_readAny 169 = .ok (.goto (-160), 3) := by decide +kernel
theorem dX12_readAny_172 : decode cX12_readAny 172 = .ok (.aload_n 0, 1) := by decide +kernel
theorem dX12_readAny_173 : decode cX12_readAny 173 = .ok (.bipush 10, 2) := by decide +kernel
theorem dX12_readAny_175 : decode cX12_readAny 175 = .ok (.invokevirtual 229, 3) := by decide +kernel
theorem dX12_readAny_178 : decode cX12_readAny 178 = .ok (.aload_n 0, 1) := by decide +kernel
theorem dX12_readAny_179 : decode cX12_readAny 179 = .ok (.bipush 11, 2) := by decide +kernel
theorem dX12_readAny_181 : decode cX12_readAny 181 = .ok (.invokevirtual 229, 3) := by decide +kernel
theorem dX12_readAny_184 : decode cX12_readAny 184 = .ok (.iload_n 1, 1) := by decide +kernel
theorem dX12_readAny_185 : decode cX12_readAny 185 = .ok (.ifCond .ne 5, 3) := by decide +kernel
theorem dX12_readAny_188 : decode cX12_readAny 188 = .ok (.iconst 0, 1) := by decide +kernel
theorem dX12_readAny_189 : decode cX12_readAny 189 = .ok (.ireturn, 1) := by decide +kernel
theorem dX12_readAny_190 : decode cX12_readAny 190 = .ok (.aload_n 0, 1) := by decide +kernel
theorem dX12_readAny_191 : decode cX12_readAny 191 = .ok (.bipush 41, 2) := by decide +kernel
theorem dX12_readAny_193 : decode cX12_readAny 193 = .ok (.invokevirtual 205, 3) := by decide +kernel
theorem dX12_readAny_196 : decode cX12_readAny 196 = .ok (.ifCond .ne 9, 3) := by decide +kernel
theorem dX12_readAny_199 : decode cX12_readAny 199 = .ok (.aload_n 0, 1) := by decide +kernel
theorem dX12_readAny_200 : decode cX12_readAny 200 = .ok (.iconst 1, 1) := by decide +kernel
theorem dX12_readAny_201 : decode cX12_readAny 201 = .ok (.invokevirtual 191, 3) := by decide +kernel
theorem dX12_readAny_204 : decode cX12_readAny 204 = .ok (.ireturn, 1) := by decide +kernel
theorem dX12_readAny_205 : decode cX12_readAny 205 = .ok (.aload_n 0, 1) := by decide +kernel
theorem dX12_readAny_206 : decode cX12_readAny 206 = .ok (.aload_n 0, 1) := by decide +kernel
theorem dX12_readAny_207 : decode cX12_readAny 207 = .ok (.getfield 214, 3) := by decide +kernel
theorem dX12_readAny_210 : decode cX12_readAny 210 = .ok (.iconst 1, 1) := by decide +kernel
theorem dX12_readAny_211 : decode cX12_readAny 211 = .ok (.isub, 1) := by decide +kernel
theorem dX12_readAny_212 : decode cX12_readAny 212 = .ok (.putfield 214, 3) := by decide +kernel
theorem dX12_readAny_215 : decode cX12_readAny 215 = .ok (.iload_n 1, 1) := by decide +kernel
theorem dX12_readAny_216 : decode cX12_readAny 216 = .ok (.iconst 1, 1) := by decide +kernel
theorem dX12_readAny_217 : decode cX12_readAny 217 = .ok (.isub, 1) := by decide +kernel
theorem dX12_readAny_218 : decode cX12_readAny 218 = .ok (.istore_n 1, 1) := by decide +kernel
theorem dX12_readAny_219 : decode cX12_readAny 219 = .ok (.aload_n 0, 1) := by decide +kernel
theorem dX12_readAny_220 : decode cX12_readAny 220 = .ok (.aload_n 0, 1) := by decide +kernel
theorem dX12_readAny_221 : decode cX12_readAny 221 = .ok (.getfield 217, 3) := by decide +kernel
theorem dX12_readAny_224 : decode cX12_readAny 224 = .ok (.iconst 1, 1) := by decide +kernel
theorem dX12_readAny_225 : decode cX12_readAny 225 = .ok (.isub, 1) := by decide +kernel
theorem dX12_readAny_226 : decode cX12_readAny 226 = .ok (.putfield 217, 3) := by decide +kernel
theorem dX12_readAny_229 : decode cX12_readAny 229 = .ok (.aload_n 0, 1) := by decide +kernel
theorem dX12_readAny_230 : decode cX12_readAny 230 = .ok (.bipush 9, 2) := by decide +kernel
theorem dX12_readAny_232 : decode cX12_readAny 232 = .ok (.invokevirtual 229, 3) := by decide +kernel
theorem dX12_readAny_235 : decode cX12_readAny 235 = .ok (.aload_n 0, 1) := by decide +kernel
theorem dX12_readAny_236 : decode cX12_readAny 236 = .ok (.invokevirtual 198, 3) := by decide +kernel
theorem dX12_readAny_239 : decode cX12_readAny 239 = .ok (.goto (-230), 3) := by decide +kernel
theorem dX12_readText_0 : decode cX12_readText 0 = .ok (.iconst 0, 1) := by decide +kernel
theorem dX12_readText_1 : decode cX12_readText 1 = .ok (.istore_n 1, 1) := by decide +kernel
theorem dX12_readText_2 : decode cX12_readText 2 = .ok (.aload_n 0, 1) := by decide +kernel
theorem dX12_readText_3 : decode cX12_readText 3 = .ok (.iconst 0, 1) := by decide +kernel
theorem dX12_readText_4 : decode cX12_readText 4 = .ok (.invokevirtual 220, 3) := by decide +kernel
theorem dX12_readText_7 : decode cX12_readText 7 = .ok (.ifCond .eq 112, 3) := by decide +kernel
theorem dX12_readText_10 : decode cX12_readText 10 = .ok (.iload_n 1, 1) := by decide +kernel
theorem dX12_readText_11 : decode cX12_readText 11 = .ok (.bipush 16, 2) := by decide +kernel
theorem dX12_readText_13 : decode cX12_readText 13 = .ok (.if_icmp .ne 9, 3) := by decide +kernel
theorem dX12_readText_16 : decode cX12_readText 16 = .ok (.aload_n 0, 1) := by decide +kernel
theorem dX12_readText_17 : decode cX12_readText 17 = .ok (.iconst 3, 1) := by decide +kernel
theorem dX12_readText_18 : decode cX12_readText 18 = .ok (.invokevirtual 191, 3) := by decide +kernel
theorem dX12_readText_21 : decode cX12_readText 21 = .ok (.ireturn, 1) := by decide +kernel
theorem dX12_readText_22 : decode cX12_readText 22 = .ok (.bipush 16, 2) := by decide +kernel
theorem dX12_readText_24 : decode cX12_readText 24 = .ok (.iload_n 1, 1) := by decide +kernel
theorem dX12_readText_25 : decode cX12_readText 25 = .ok (.iadd, 1) := by decide +kernel
theorem dX12_readText_26 : decode cX12_readText 26 = .ok (.istore_n 2, 1) := by decide +kernel
theorem dX12_readText_27 : decode cX12_readText 27 = .ok (.aload_n 0, 1) := by decide +kernel
theorem dX12_readText_28 : decode cX12_readText 28 = .ok (.invokevirtual 198, 3) := by decide +kernel
theorem dX12_readText_31 : decode cX12_readText 31 = .ok (.aload_n 0, 1) := by decide +kernel
theorem dX12_readText_32 : decode cX12_readText 32 = .ok (.getfield 58, 3) := by decide +kernel
theorem dX12_readText_35 : decode cX12_readText 35 = .ok (.iload_n 2, 1) := by decide +kernel
theorem dX12_readText_36 : decode cX12_readText 36 = .ok (.aload_n 0, 1) := by decide +kernel
theorem dX12_readText_37 : decode cX12_readText 37 = .ok (.getfield 188, 3) := by decide +kernel
theorem dX12_readText_40 : decode cX12_readText 40 = .ok (.iastore, 1) := by decide +kernel
theorem dX12_readText_41 : decode cX12_readText 41 = .ok (.aload_n 0, 1) := by decide +kernel
theorem dX12_readText_42 : decode cX12_readText 42 = .ok (.invokevirtual 211, 3) := by decide +kernel
theorem dX12_readText_45 : decode cX12_readText 45 = .ok (.iconst (-1), 1) := by decide +kernel
theorem dX12_readText_46 : decode cX12_readText 46 = .ok (.if_icmp .ne 5, 3) := by decide +kernel
theorem dX12_readText_49 : decode cX12_readText 49 = .ok (.iconst (-1), 1) := by decide +kernel
theorem dX12_readText_50 : decode cX12_readText 50 = .ok (.ireturn, 1) := by decide +kernel
theorem dX12_readText_51 : decode cX12_readText 51 = .ok (.aload_n 0, 1) := by decide +kernel
theorem dX12_readText_52 : decode cX12_readText 52 = .ok (.getfield 55, 3) := by decide +kernel
theorem dX12_readText_55 : decode cX12_readText 55 = .ok (.iload_n 2, 1) := by decide +kernel
theorem dX12_readText_56 : decode cX12_readText 56 = .ok (.aload_n 0, 1) := by decide +kernel
theorem dX12_readText_57 : decode cX12_readText 57 = .ok (.getfield 188, 3) := by decide +kernel
theorem dX12_readText_60 : decode cX12_readText 60 = .ok (.iastore, 1) := by decide +kernel
theorem dX12_readText_61 : decode cX12_readText 61 = .ok (.aload_n 0, 1) := by decide +kernel
theorem dX12_readText_62 : decode cX12_readText 62 = .ok (.iconst 1, 1) := by decide +kernel
theorem dX12_readText_63 : decode cX12_readText 63 = .ok (.invokevirtual 220, 3) := by decide +kernel
theorem dX12_readText_66 : decode cX12_readText 66 = .ok (.ifCond .eq 17, 3) := by decide +kernel
theorem dX12_readText_69 : decode cX12_readText 69 = .ok (.aload_n 0, 1) := by decide +kernel
theorem dX12_readText_70 : decode cX12_readText 70 = .ok (.invokevirtual 198, 3) := by decide +kernel
theorem dX12_readText_73 : decode cX12_readText 73 = .ok (.aload_n 0, 1) := by decide +kernel
theorem dX12_readText_74 : decode cX12_readText 74 = .ok (.invokevirtual 232, 3) := by decide +kernel
theorem dX12_readText_77 : decode cX12_readText 77 = .ok (.iconst (-1), 1) := by decide +kernel
theorem dX12_readText_78 : decode cX12_readText 78 = .ok (.if_icmp .ne 5, 3) := by decide +kernel
theorem dX12_readText_81 : decode cX12_readText 81 = .ok (.iconst (-1), 1) := by decide +kernel
theorem dX12_readText_82 : decode cX12_readText 82 = .ok (.ireturn, 1) := by decide +kernel
theorem dX12_readText_83 : decode cX12_readText 83 = .ok (.aload_n 0, 1) := by decide +kernel
theorem dX12_readText_84 : decode cX12_readText 84 = .ok (.getfield 61, 3) := by decide +kernel
theorem dX12_readText_87 : decode cX12_readText 87 = .ok (.iload_n 2, 1) := by decide +kernel
theorem dX12_readText_88 : decode cX12_readText 88 = .ok (.aload_n 0, 1) := by decide +kernel
theorem dX12_readText_89 : decode cX12_readText 89 = .ok (.getfield 188, 3) := by decide +kernel
theorem dX12_readText_92 : decode cX12_readText 92 = .ok (.iastore, 1) := by decide +kernel
theorem dX12_readText_93 : decode cX12_readText 93 = .ok (.aload_n 0, 1) := by decide +kernel
theorem dX12_readText_94 : decode cX12_readText 94 = .ok (.bipush 59, 2) := by decide +kernel
theorem dX12_readText_96 : decode cX12_readText 96 = .ok (.invokevirtual 205, 3) := by decide +kernel
theorem dX12_readText_99 : decode cX12_readText 99 = .ok (.ifCond .ne 9, 3) := by decide +kernel
theorem dX12_readText_102 : decode cX12_readText 102 = .ok (.aload_n 0, 1) := by decide +kernel
theorem dX12_readText_103 : decode cX12_readText 103 = .ok (.iconst 1, 1) := by decide +kernel
theorem dX12_readText_104 : decode cX12_readText 104 = .ok (.invokevirtual 191, 3) := by decide +kernel
theorem dX12_readText_107 : decode cX12_readText 107 = .ok (.ireturn, 1) := by decide +kernel
theorem dX12_readText_108 : decode cX12_readText 108 = .ok (.aload_n 0, 1) := by decide +kernel
theorem dX12_readText_109 : decode cX12_readText 109 = .ok (.invokevirtual 198, 3) := by decide +kernel
theorem dX12_readText_112 : decode cX12_readText 112 = .ok (.iload_n 1, 1) := by decide +kernel
theorem dX12_readText_113 : decode cX12_readText 113 = .ok (.iconst 1, 1) := by decide +kernel
theorem dX12_readText_114 : decode cX12_readText 114 = .ok (.iadd, 1) := by decide +kernel
theorem dX12_readText_115 : decode cX12_readText 115 = .ok (.istore_n 1, 1) := by decide +kernel
theorem dX12_readText_116 : decode cX12_readText 116 = .ok (.goto (-114), 3) := by decide +kernel
theorem dX12_readText_119 : decode cX12_readText 119 = .ok (.aload_n 0, 1) := by decide +kernel
theorem dX12_readText_120 : decode cX12_readText 120 = .ok (.getfield 163, 3) := by decide +kernel
theorem dX12_readText_123 : decode cX12_readText 123 = .ok (.ifCond .ne 7, 3) := by decide +kernel
theorem dX12_readText_126 : decode cX12_readText 126 = .ok (.iload_n 1, 1) := by decide +kernel
theorem dX12_readText_127 : decode cX12_readText 127 = .ok (.goto 8, 3) := by decide +kernel
theorem dX12_readText_130 : decode cX12_readText 130 = .ok (.aload_n 0, 1) := by decide +kernel
theorem dX12_readText_131 : decode cX12_readText 131 = .ok (.iconst 1, 1) := by decide +kernel
theorem dX12_readText_132 : decode cX12_readText 132 = .ok (.invokevirtual 191, 3) := by decide +kernel
theorem dX12_readText_135 : decode cX12_readText 135 = .ok (.ireturn, 1) := by decide +kernel
theorem dX12_text_0 : decode cX12_text 0 = .ok (.aload_n 0, 1) := by decide +kernel
theorem dX12_text_1 : decode cX12_text 1 = .ok (.iconst 0, 1) := by decide +kernel
theorem dX12_text_2 : decode cX12_text 2 = .ok (.putfield 104, 3) := by decide +kernel
theorem dX12_text_5 : decode cX12_text 5 = .ok (.aload_n 0, 1) := by decide +kernel
theorem dX12_text_6 : decode cX12_text 6 = .ok (.iconst 0, 1) := by decide +kernel
theorem dX12_text_7 : decode cX12_text 7 = .ok (.putfield 235, 3) := by decide +kernel
theorem dX12_text_10 : decode cX12_text 10 = .ok (.aload_n 0, 1) := by decide +kernel
theorem dX12_text_11 : decode cX12_text 11 = .ok (.iconst (-1), 1) := by decide +kernel
theorem dX12_text_12 : decode cX12_text 12 = .ok (.putfield 73, 3) := by decide +kernel
theorem dX12_text_15 : decode cX12_text 15 = .ok (.aload_n 0, 1) := by decide +kernel
theorem dX12_text_16 : decode cX12_text 16 = .ok (.iconst 0, 1) := by decide +kernel
theorem dX12_text_17 : decode cX12_text 17 = .ok (.putfield 153, 3) := by decide +kernel
theorem dX12_text_20 : decode cX12_text 20 = .ok (.aload_n 0, 1) := by decide +kernel
theorem dX12_text_21 : decode cX12_text 21 = .ok (.iconst 0, 1) := by decide +kernel
theorem dX12_text_22 : decode cX12_text 22 = .ok (.putfield 188, 3) := by decide +kernel
theorem dX12_text_25 : decode cX12_text 25 = .ok (.aload_n 0, 1) := by decide +kernel
theorem dX12_text_26 : decode cX12_text 26 = .ok (.iconst 0, 1) := by decide +kernel
theorem dX12_text_27 : decode cX12_text 27 = .ok (.putfield 217, 3) := by decide +kernel
theorem dX12_text_30 : decode cX12_text 30 = .ok (.aload_n 0, 1) := by decide +kernel
theorem dX12_text_31 : decode cX12_text 31 = .ok (.invokevirtual 198, 3) := by decide +kernel
theorem dX12_text_34 : decode cX12_text 34 = .ok (.aload_n 0, 1) := by decide +kernel
theorem dX12_text_35 : decode cX12_text 35 = .ok (.invokevirtual 238, 3) := by decide +kernel
theorem dX12_text_38 : decode cX12_text 38 = .ok (.istore_n 1, 1) := by decide +kernel
theorem dX12_text_39 : decode cX12_text 39 = .ok (.aload_n 0, 1) := by decide +kernel
theorem dX12_text_40 : decode cX12_text 40 = .ok (.iconst 0, 1) := by decide +kernel
theorem dX12_text_41 : decode cX12_text 41 = .ok (.putfield 147, 3) := by decide +kernel
theorem dX12_text_44 : decode cX12_text 44 = .ok (.iload_n 1, 1) := by decide +kernel
theorem dX12_text_45 : decode cX12_text 45 = .ok (.iconst (-1), 1) := by decide +kernel
theorem dX12_text_46 : decode cX12_text 46 = .ok (.if_icmp .ne 21, 3) := by decide +kernel
theorem dX12_text_49 : decode cX12_text 49 = .ok (.aload_n 0, 1) := by decide +kernel
theorem dX12_text_50 : decode cX12_text 50 = .ok (.aload_n 0, 1) := by decide +kernel
theorem dX12_text_51 : decode cX12_text 51 = .ok (.getfield 182, 3) := by decide +kernel
theorem dX12_text_54 : decode cX12_text 54 = .ok (.putfield 235, 3) := by decide +kernel
theorem dX12_text_57 : decode cX12_text 57 = .ok (.aload_n 0, 1) := by decide +kernel
theorem dX12_text_58 : decode cX12_text 58 = .ok (.aload_n 0, 1) := by decide +kernel
theorem dX12_text_59 : decode cX12_text 59 = .ok (.getfield 185, 3) := by decide +kernel
theorem dX12_text_62 : decode cX12_text 62 = .ok (.putfield 73, 3) := by decide +kernel
theorem dX12_text_65 : decode cX12_text 65 = .ok (.iconst (-1), 1) := by decide +kernel
theorem dX12_text_66 : decode cX12_text 66 = .ok (.ireturn, 1) := by decide +kernel
theorem dX12_text_67 : decode cX12_text 67 = .ok (.iconst 0, 1) := by decide +kernel
theorem dX12_text_68 : decode cX12_text 68 = .ok (.istore_n 2, 1) := by decide +kernel
theorem dX12_text_69 : decode cX12_text 69 = .ok (.iload_n 2, 1) := by decide +kernel
theorem dX12_text_70 : decode cX12_text 70 = .ok (.iload_n 1, 1) := by decide +kernel
theorem dX12_text_71 : decode cX12_text 71 = .ok (.if_icmp .ge 54, 3) := by decide +kernel
theorem dX12_text_74 : decode cX12_text 74 = .ok (.aload_n 0, 1) := by decide +kernel
theorem dX12_text_75 : decode cX12_text 75 = .ok (.getfield 55, 3) := by decide +kernel
theorem dX12_text_78 : decode cX12_text 78 = .ok (.iload_n 2, 1) := by decide +kernel
theorem dX12_text_79 : decode cX12_text 79 = .ok (.aload_n 0, 1) := by decide +kernel
theorem dX12_text_80 : decode cX12_text 80 = .ok (.getfield 55, 3) := by decide +kernel
theorem dX12_text_83 : decode cX12_text 83 = .ok (.bipush 16, 2) := by decide +kernel
theorem dX12_text_85 : decode cX12_text 85 = .ok (.iload_n 2, 1) := by decide +kernel
theorem dX12_text_86 : decode cX12_text 86 = .ok (.iadd, 1) := by decide +kernel
theorem dX12_text_87 : decode cX12_text 87 = .ok (.iaload, 1) := by decide +kernel
theorem dX12_text_88 : decode cX12_text 88 = .ok (.iastore, 1) := by decide +kernel
theorem dX12_text_89 : decode cX12_text 89 = .ok (.aload_n 0, 1) := by decide +kernel
theorem dX12_text_90 : decode cX12_text 90 = .ok (.getfield 58, 3) := by decide +kernel
theorem dX12_text_93 : decode cX12_text 93 = .ok (.iload_n 2, 1) := by decide +kernel
theorem dX12_text_94 : decode cX12_text 94 = .ok (.aload_n 0, 1) := by decide +kernel
theorem dX12_text_95 : decode cX12_text 95 = .ok (.getfield 58, 3) := by decide +kernel
theorem dX12_text_98 : decode cX12_text 98 = .ok (.bipush 16, 2) := by decide +kernel
theorem dX12_text_100 : decode cX12_text 100 = .ok (.iload_n 2, 1) := by decide +kernel
theorem dX12_text_101 : decode cX12_text 101 = .ok (.iadd, 1) := by decide +kernel
theorem dX12_text_102 : decode cX12_text 102 = .ok (.iaload, 1) := by decide +kernel
theorem dX12_text_103 : decode cX12_text 103 = .ok (.iastore, 1) := by decide +kernel
theorem dX12_text_104 : decode cX12_text 104 = .ok (.aload_n 0, 1) := by decide +kernel
theorem dX12_text_105 : decode cX12_text 105 = .ok (.getfield 61, 3) := by decide +kernel
theorem dX12_text_108 : decode cX12_text 108 = .ok (.iload_n 2, 1) := by decide +kernel
theorem dX12_text_109 : decode cX12_text 109 = .ok (.aload_n 0, 1) := by decide +kernel
theorem dX12_text_110 : decode cX12_text 110 = .ok (.getfield 61, 3) := by decide +kernel
theorem dX12_text_113 : decode cX12_text 113 = .ok (.bipush 16, 2) := by decide +kernel
theorem dX12_text_115 : decode cX12_text 115 = .ok (.iload_n 2, 1) := by decide +kernel
theorem dX12_text_116 : decode cX12_text 116 = .ok (.iadd, 1) := by decide +kernel
theorem dX12_text_117 : decode cX12_text 117 = .ok (.iaload, 1) := by decide +kernel
theorem dX12_text_118 : decode cX12_text 118 = .ok (.iastore, 1) := by decide +kernel
theorem dX12_text_119 : decode cX12_text 119 = .ok (.iinc 2 1, 3) := by decide +kernel
theorem dX12_text_122 : decode cX12_text 122 = .ok (.goto (-53), 3) := by decide +kernel
theorem dX12_text_125 : decode cX12_text 125 = .ok (.iconst 0, 1) := by decide +kernel
theorem dX12_text_126 : decode cX12_text 126 = .ok (.istore_n 2, 1) := by decide +kernel
theorem dX12_text_127 : decode cX12_text 127 = .ok (.iload_n 2, 1) := by decide +kernel
theorem dX12_text_128 : decode cX12_text 128 = .ok (.aload_n 0, 1) := by decide +kernel
theorem dX12_text_129 : decode cX12_text 129 = .ok (.getfield 188, 3) := by decide +kernel
theorem dX12_text_132 : decode cX12_text 132 = .ok (.if_icmp .ge 41, 3) := by decide +kernel
theorem dX12_text_135 : decode cX12_text 135 = .ok (.aload_n 0, 1) := by decide +kernel
theorem dX12_text_136 : decode cX12_text 136 = .ok (.getfield 64, 3) := by decide +kernel
theorem dX12_text_139 : decode cX12_text 139 = .ok (.iload_n 2, 1) := by decide +kernel
theorem dX12_text_140 : decode cX12_text 140 = .ok (.aload_n 0, 1) := by decide +kernel
theorem dX12_text_141 : decode cX12_text 141 = .ok (.getfield 64, 3) := by decide +kernel
theorem dX12_text_144 : decode cX12_text 144 = .ok (.sipush 400, 3) := by decide +kernel
theorem dX12_text_147 : decode cX12_text 147 = .ok (.iload_n 2, 1) := by decide +kernel
theorem dX12_text_148 : decode cX12_text 148 = .ok (.iadd, 1) := by decide +kernel
theorem dX12_text_149 : decode cX12_text 149 = .ok (.iaload, 1) := by decide +kernel
theorem dX12_text_150 : decode cX12_text 150 = .ok (.iastore, 1) := by decide +kernel
theorem dX12_text_151 : decode cX12_text 151 = .ok (.aload_n 0, 1) := by decide +kernel
theorem dX12_text_152 : decode cX12_text 152 = .ok (.getfield 67, 3) := by decide +kernel
theorem dX12_text_155 : decode cX12_text 155 = .ok (.iload_n 2, 1) := by decide +kernel
theorem dX12_text_156 : decode cX12_text 156 = .ok (.aload_n 0, 1) := by decide +kernel
theorem dX12_text_157 : decode cX12_text 157 = .ok (.getfield 67, 3) := by decide +kernel
theorem dX12_text_160 : decode cX12_text 160 = .ok (.sipush 400, 3) := by decide +kernel
theorem dX12_text_163 : decode cX12_text 163 = .ok (.iload_n 2, 1) := by decide +kernel
theorem dX12_text_164 : decode cX12_text 164 = .ok (.iadd, 1) := by decide +kernel
theorem dX12_text_165 : decode cX12_text 165 = .ok (.iaload, 1) := by decide +kernel
theorem dX12_text_166 : decode cX12_text 166 = .ok (.iastore, 1) := by decide +kernel
theorem dX12_text_167 : decode cX12_text 167 = .ok (.iinc 2 1, 3) := by decide +kernel
theorem dX12_text_170 : decode cX12_text 170 = .ok (.goto (-43), 3) := by decide +kernel
theorem dX12_text_173 : decode cX12_text 173 = .ok (.aload_n 0, 1) := by decide +kernel
theorem dX12_text_174 : decode cX12_text 174 = .ok (.iload_n 1, 1) := by decide +kernel
theorem dX12_text_175 : decode cX12_text 175 = .ok (.putfield 241, 3) := by decide +kernel
theorem dX12_text_178 : decode cX12_text 178 = .ok (.iload_n 1, 1) := by decide +kernel
theorem dX12_text_179 : decode cX12_text 179 = .ok (.ireturn, 1) := by decide +kernel
theorem dX12_fault_0 : decode cX12_fault 0 = .ok (.aload_n 0, 1) := by decide +kernel
theorem dX12_fault_1 : decode cX12_fault 1 = .ok (.iconst 0, 1) := by decide +kernel
theorem dX12_fault_2 : decode cX12_fault 2 = .ok (.putfield 104, 3) := by decide +kernel
theorem dX12_fault_5 : decode cX12_fault 5 = .ok (.iload_n 1, 1) := by decide +kernel
theorem dX12_fault_6 : decode cX12_fault 6 = .ok (.ifCond .ne 10, 3) := by decide +kernel
theorem dX12_fault_9 : decode cX12_fault 9 = .ok (.aload_n 0, 1) := by decide +kernel
theorem dX12_fault_10 : decode cX12_fault 10 = .ok (.getfield 235, 3) := by decide +kernel
theorem dX12_fault_13 : decode cX12_fault 13 = .ok (.goto 16, 3) := by decide +kernel
theorem dX12_fault_16 : decode cX12_fault 16 = .ok (.iload_n 1, 1) := by decide +kernel
theorem dX12_fault_17 : decode cX12_fault 17 = .ok (.iconst 1, 1) := by decide +kernel
theorem dX12_fault_18 : decode cX12_fault 18 = .ok (.if_icmp .ne 10, 3) := by decide +kernel
theorem dX12_fault_21 : decode cX12_fault 21 = .ok (.aload_n 0, 1) := by decide +kernel
theorem dX12_fault_22 : decode cX12_fault 22 = .ok (.getfield 73, 3) := by decide +kernel
theorem dX12_fault_25 : decode cX12_fault 25 = .ok (.goto 4, 3) := by decide +kernel
theorem dX12_fault_28 : decode cX12_fault 28 = .ok (.iconst (-1), 1) := by decide +kernel
theorem dX12_fault_29 : decode cX12_fault 29 = .ok (.ireturn, 1) := by decide +kernel
theorem dX12_age_0 : decode cX12_age 0 = .ok (.aload_n 0, 1) := by decide +kernel
theorem dX12_age_1 : decode cX12_age 1 = .ok (.iconst 0, 1) := by decide +kernel
theorem dX12_age_2 : decode cX12_age 2 = .ok (.putfield 104, 3) := by decide +kernel
theorem dX12_age_5 : decode cX12_age 5 = .ok (.aload_n 0, 1) := by decide +kernel
theorem dX12_age_6 : decode cX12_age 6 = .ok (.iload_n 1, 1) := by decide +kernel
theorem dX12_age_7 : decode cX12_age 7 = .ok (.invokevirtual 140, 3) := by decide +kernel
theorem dX12_age_10 : decode cX12_age 10 = .ok (.ifCond .eq 28, 3) := by decide +kernel
theorem dX12_age_13 : decode cX12_age 13 = .ok (.aload_n 0, 1) := by decide +kernel
theorem dX12_age_14 : decode cX12_age 14 = .ok (.iload_n 2, 1) := by decide +kernel
theorem dX12_age_15 : decode cX12_age 15 = .ok (.aload_n 0, 1) := by decide +kernel
theorem dX12_age_16 : decode cX12_age 16 = .ok (.getfield 127, 3) := by decide +kernel
theorem dX12_age_19 : decode cX12_age 19 = .ok (.sipush 9999, 3) := by decide +kernel
theorem dX12_age_22 : decode cX12_age 22 = .ok (.invokevirtual 116, 3) := by decide +kernel
theorem dX12_age_25 : decode cX12_age 25 = .ok (.ifCond .eq 13, 3) := by decide +kernel
theorem dX12_age_28 : decode cX12_age 28 = .ok (.aload_n 0, 1) := by decide +kernel
theorem dX12_age_29 : decode cX12_age 29 = .ok (.iload_n 1, 1) := by decide +kernel
theorem dX12_age_30 : decode cX12_age 30 = .ok (.iload_n 1, 1) := by decide +kernel
theorem dX12_age_31 : decode cX12_age 31 = .ok (.iload_n 2, 1) := by decide +kernel
theorem dX12_age_32 : decode cX12_age 32 = .ok (.invokevirtual 257, 3) := by decide +kernel
theorem dX12_age_35 : decode cX12_age 35 = .ok (.goto 4, 3) := by decide +kernel
theorem dX12_age_38 : decode cX12_age 38 = .ok (.iconst (-1), 1) := by decide +kernel
theorem dX12_age_39 : decode cX12_age 39 = .ok (.ireturn, 1) := by decide +kernel
theorem dX12_staysFor_0 : decode cX12_staysFor 0 = .ok (.aload_n 0, 1) := by decide +kernel
theorem dX12_staysFor_1 : decode cX12_staysFor 1 = .ok (.iload_n 1, 1) := by decide +kernel
theorem dX12_staysFor_2 : decode cX12_staysFor 2 = .ok (.iload_n 1, 1) := by decide +kernel
theorem dX12_staysFor_3 : decode cX12_staysFor 3 = .ok (.aload_n 0, 1) := by decide +kernel
theorem dX12_staysFor_4 : decode cX12_staysFor 4 = .ok (.getfield 127, 3) := by decide +kernel
theorem dX12_staysFor_7 : decode cX12_staysFor 7 = .ok (.invokevirtual 257, 3) := by decide +kernel
theorem dX12_staysFor_10 : decode cX12_staysFor 10 = .ok (.istore_n 2, 1) := by decide +kernel
theorem dX12_staysFor_11 : decode cX12_staysFor 11 = .ok (.iconst 1, 1) := by decide +kernel
theorem dX12_staysFor_12 : decode cX12_staysFor 12 = .ok (.istore_n 3, 1) := by decide +kernel
theorem dX12_staysFor_13 : decode cX12_staysFor 13 = .ok (.iload_n 3, 1) := by decide +kernel
theorem dX12_staysFor_14 : decode cX12_staysFor 14 = .ok (.sipush 400, 3) := by decide +kernel
theorem dX12_staysFor_17 : decode cX12_staysFor 17 = .ok (.if_icmp .ge 26, 3) := by decide +kernel
theorem dX12_staysFor_20 : decode cX12_staysFor 20 = .ok (.aload_n 0, 1) := by decide +kernel
theorem dX12_staysFor_21 : decode cX12_staysFor 21 = .ok (.iload_n 1, 1) := by decide +kernel
theorem dX12_staysFor_22 : decode cX12_staysFor 22 = .ok (.iload_n 1, 1) := by decide +kernel
theorem dX12_staysFor_23 : decode cX12_staysFor 23 = .ok (.aload_n 0, 1) := by decide +kernel
theorem dX12_staysFor_24 : decode cX12_staysFor 24 = .ok (.getfield 127, 3) := by decide +kernel
theorem dX12_staysFor_27 : decode cX12_staysFor 27 = .ok (.iload_n 3, 1) := by decide +kernel
theorem dX12_staysFor_28 : decode cX12_staysFor 28 = .ok (.iadd, 1) := by decide +kernel
theorem dX12_staysFor_29 : decode cX12_staysFor 29 = .ok (.invokevirtual 257, 3) := by decide +kernel
theorem dX12_staysFor_32 : decode cX12_staysFor 32 = .ok (.iload_n 2, 1) := by decide +kernel
theorem dX12_staysFor_33 : decode cX12_staysFor 33 = .ok (.if_icmp .ne 10, 3) := by decide +kernel
theorem dX12_staysFor_36 : decode cX12_staysFor 36 = .ok (.iload_n 3, 1) := by decide +kernel
theorem dX12_staysFor_37 : decode cX12_staysFor 37 = .ok (.iconst 1, 1) := by decide +kernel
theorem dX12_staysFor_38 : decode cX12_staysFor 38 = .ok (.iadd, 1) := by decide +kernel
theorem dX12_staysFor_39 : decode cX12_staysFor 39 = .ok (.istore_n 3, 1) := by decide +kernel
theorem dX12_staysFor_40 : decode cX12_staysFor 40 = .ok (.goto (-27), 3) := by decide +kernel
theorem dX12_staysFor_43 : decode cX12_staysFor 43 = .ok (.iload_n 3, 1) := by decide +kernel
theorem dX12_staysFor_44 : decode cX12_staysFor 44 = .ok (.ireturn, 1) := by decide +kernel
theorem dX12_of_0 : decode cX12_of 0 = .ok (.aload_n 0, 1) := by decide +kernel
theorem dX12_of_1 : decode cX12_of 1 = .ok (.iconst 0, 1) := by decide +kernel
theorem dX12_of_2 : decode cX12_of 2 = .ok (.putfield 104, 3) := by decide +kernel
theorem dX12_of_5 : decode cX12_of 5 = .ok (.aload_n 0, 1) := by decide +kernel
theorem dX12_of_6 : decode cX12_of 6 = .ok (.iload_n 1, 1) := by decide +kernel
theorem dX12_of_7 : decode cX12_of 7 = .ok (.invokevirtual 140, 3) := by decide +kernel
theorem dX12_of_10 : decode cX12_of 10 = .ok (.ifCond .ne 6, 3) := by decide +kernel
theorem dX12_of_13 : decode cX12_of 13 = .ok (.bipush (-2), 2) := by decide +kernel
theorem dX12_of_15 : decode cX12_of 15 = .ok (.ireturn, 1) := by decide +kernel
theorem dX12_of_16 : decode cX12_of 16 = .ok (.iload_n 2, 1) := by decide +kernel
theorem dX12_of_17 : decode cX12_of 17 = .ok (.ifCond .ne 10, 3) := by decide +kernel
theorem dX12_of_20 : decode cX12_of 20 = .ok (.aload_n 0, 1) := by decide +kernel
theorem dX12_of_21 : decode cX12_of 21 = .ok (.getfield 25, 3) := by decide +kernel
theorem dX12_of_24 : decode cX12_of 24 = .ok (.iload_n 1, 1) := by decide +kernel
theorem dX12_of_25 : decode cX12_of 25 = .ok (.iaload, 1) := by decide +kernel
theorem dX12_of_26 : decode cX12_of 26 = .ok (.ireturn, 1) := by decide +kernel
theorem dX12_of_27 : decode cX12_of 27 = .ok (.iload_n 2, 1) := by decide +kernel
theorem dX12_of_28 : decode cX12_of 28 = .ok (.iconst 1, 1) := by decide +kernel
theorem dX12_of_29 : decode cX12_of 29 = .ok (.if_icmp .ne 10, 3) := by decide +kernel
theorem dX12_of_32 : decode cX12_of 32 = .ok (.aload_n 0, 1) := by decide +kernel
theorem dX12_of_33 : decode cX12_of 33 = .ok (.getfield 28, 3) := by decide +kernel
theorem dX12_of_36 : decode cX12_of 36 = .ok (.iload_n 1, 1) := by decide +kernel
theorem dX12_of_37 : decode cX12_of 37 = .ok (.iaload, 1) := by decide +kernel
theorem dX12_of_38 : decode cX12_of 38 = .ok (.ireturn, 1) := by decide +kernel
theorem dX12_of_39 : decode cX12_of 39 = .ok (.iload_n 2, 1) := by decide +kernel
theorem dX12_of_40 : decode cX12_of 40 = .ok (.iconst 2, 1) := by decide +kernel
theorem dX12_of_41 : decode cX12_of 41 = .ok (.if_icmp .ne 12, 3) := by decide +kernel
theorem dX12_of_44 : decode cX12_of 44 = .ok (.aload_n 0, 1) := by decide +kernel
theorem dX12_of_45 : decode cX12_of 45 = .ok (.getfield 31, 3) := by decide +kernel
theorem dX12_of_48 : decode cX12_of 48 = .ok (.iload_n 1, 1) := by decide +kernel
theorem dX12_of_49 : decode cX12_of 49 = .ok (.iaload, 1) := by decide +kernel
theorem dX12_of_50 : decode cX12_of 50 = .ok (.iconst 1, 1) := by decide +kernel
theorem dX12_of_51 : decode cX12_of 51 = .ok (.isub, 1) := by decide +kernel
theorem dX12_of_52 : decode cX12_of 52 = .ok (.ireturn, 1) := by decide +kernel
theorem dX12_of_53 : decode cX12_of 53 = .ok (.iload_n 2, 1) := by decide +kernel
theorem dX12_of_54 : decode cX12_of 54 = .ok (.iconst 3, 1) := by decide +kernel
theorem dX12_of_55 : decode cX12_of 55 = .ok (.if_icmp .ne 10, 3) := by decide +kernel
theorem dX12_of_58 : decode cX12_of 58 = .ok (.aload_n 0, 1) := by decide +kernel
theorem dX12_of_59 : decode cX12_of 59 = .ok (.getfield 34, 3) := by decide +kernel
theorem dX12_of_62 : decode cX12_of 62 = .ok (.iload_n 1, 1) := by decide +kernel
theorem dX12_of_63 : decode cX12_of 63 = .ok (.iaload, 1) := by decide +kernel
theorem dX12_of_64 : decode cX12_of 64 = .ok (.ireturn, 1) := by decide +kernel
theorem dX12_of_65 : decode cX12_of 65 = .ok (.iload_n 2, 1) := by decide +kernel
theorem dX12_of_66 : decode cX12_of 66 = .ok (.iconst 4, 1) := by decide +kernel
theorem dX12_of_67 : decode cX12_of 67 = .ok (.if_icmp .ne 10, 3) := by decide +kernel
theorem dX12_of_70 : decode cX12_of 70 = .ok (.aload_n 0, 1) := by decide +kernel
theorem dX12_of_71 : decode cX12_of 71 = .ok (.getfield 37, 3) := by decide +kernel
theorem dX12_of_74 : decode cX12_of 74 = .ok (.iload_n 1, 1) := by decide +kernel
theorem dX12_of_75 : decode cX12_of 75 = .ok (.iaload, 1) := by decide +kernel
theorem dX12_of_76 : decode cX12_of 76 = .ok (.ireturn, 1) := by decide +kernel
theorem dX12_of_77 : decode cX12_of 77 = .ok (.iload_n 2, 1) := by decide +kernel
theorem dX12_of_78 : decode cX12_of 78 = .ok (.iconst 5, 1) := by decide +kernel
theorem dX12_of_79 : decode cX12_of 79 = .ok (.if_icmp .ne 10, 3) := by decide +kernel
theorem dX12_of_82 : decode cX12_of 82 = .ok (.aload_n 0, 1) := by decide +kernel
theorem dX12_of_83 : decode cX12_of 83 = .ok (.getfield 40, 3) := by decide +kernel
theorem dX12_of_86 : decode cX12_of 86 = .ok (.iload_n 1, 1) := by decide +kernel
theorem dX12_of_87 : decode cX12_of 87 = .ok (.iaload, 1) := by decide +kernel
theorem dX12_of_88 : decode cX12_of 88 = .ok (.ireturn, 1) := by decide +kernel
theorem dX12_of_89 : decode cX12_of 89 = .ok (.iload_n 2, 1) := by decide +kernel
theorem dX12_of_90 : decode cX12_of 90 = .ok (.bipush 6, 2) := by decide +kernel
theorem dX12_of_92 : decode cX12_of 92 = .ok (.if_icmp .ne 12, 3) := by decide +kernel
theorem dX12_of_95 : decode cX12_of 95 = .ok (.aload_n 0, 1) := by decide +kernel
theorem dX12_of_96 : decode cX12_of 96 = .ok (.getfield 43, 3) := by decide +kernel
theorem dX12_of_99 : decode cX12_of 99 = .ok (.iload_n 1, 1) := by decide +kernel
theorem dX12_of_100 : decode cX12_of 100 = .ok (.iaload, 1) := by decide +kernel
theorem dX12_of_101 : decode cX12_of 101 = .ok (.goto 19, 3) := by decide +kernel
theorem dX12_of_104 : decode cX12_of 104 = .ok (.iload_n 2, 1) := by decide +kernel
theorem dX12_of_105 : decode cX12_of 105 = .ok (.bipush 7, 2) := by decide +kernel
theorem dX12_of_107 : decode cX12_of 107 = .ok (.if_icmp .ne 11, 3) := by decide +kernel
theorem dX12_of_110 : decode cX12_of 110 = .ok (.aload_n 0, 1) := by decide +kernel
theorem dX12_of_111 : decode cX12_of 111 = .ok (.iload_n 1, 1) := by decide +kernel
theorem dX12_of_112 : decode cX12_of 112 = .ok (.invokevirtual 285, 3) := by decide +kernel
theorem dX12_of_115 : decode cX12_of 115 = .ok (.goto 5, 3) := by decide +kernel
theorem dX12_of_118 : decode cX12_of 118 = .ok (.bipush (-2), 2) := by decide +kernel
theorem dX12_of_120 : decode cX12_of 120 = .ok (.ireturn, 1) := by decide +kernel
theorem dX12_who_0 : decode cX12_who 0 = .ok (.aload_n 0, 1) := by decide +kernel
theorem dX12_who_1 : decode cX12_who 1 = .ok (.iconst 0, 1) := by decide +kernel
theorem dX12_who_2 : decode cX12_who 2 = .ok (.putfield 104, 3) := by decide +kernel
theorem dX12_who_5 : decode cX12_who 5 = .ok (.aload_n 0, 1) := by decide +kernel
theorem dX12_who_6 : decode cX12_who 6 = .ok (.iload_n 1, 1) := by decide +kernel
theorem dX12_who_7 : decode cX12_who 7 = .ok (.invokevirtual 123, 3) := by decide +kernel
theorem dX12_who_10 : decode cX12_who 10 = .ok (.ifCond .ne 7, 3) := by decide +kernel
theorem dX12_who_13 : decode cX12_who 13 = .ok (.ldc_w 288, 3) := by decide +kernel
theorem dX12_who_16 : decode cX12_who 16 = .ok (.ireturn, 1) := by decide +kernel
theorem dX12_who_17 : decode cX12_who 17 = .ok (.iload_n 2, 1) := by decide +kernel
theorem dX12_who_18 : decode cX12_who 18 = .ok (.ifCond .ne 10, 3) := by decide +kernel
theorem dX12_who_21 : decode cX12_who 21 = .ok (.aload_n 0, 1) := by decide +kernel
theorem dX12_who_22 : decode cX12_who 22 = .ok (.getfield 7, 3) := by decide +kernel
theorem dX12_who_25 : decode cX12_who 25 = .ok (.iload_n 1, 1) := by decide +kernel
theorem dX12_who_26 : decode cX12_who 26 = .ok (.iaload, 1) := by decide +kernel
theorem dX12_who_27 : decode cX12_who 27 = .ok (.ireturn, 1) := by decide +kernel
theorem dX12_who_28 : decode cX12_who 28 = .ok (.iload_n 2, 1) := by decide +kernel
theorem dX12_who_29 : decode cX12_who 29 = .ok (.iconst 1, 1) := by decide +kernel
theorem dX12_who_30 : decode cX12_who 30 = .ok (.if_icmp .ne 10, 3) := by decide +kernel
theorem dX12_who_33 : decode cX12_who 33 = .ok (.aload_n 0, 1) := by decide +kernel
theorem dX12_who_34 : decode cX12_who 34 = .ok (.getfield 13, 3) := by decide +kernel
theorem dX12_who_37 : decode cX12_who 37 = .ok (.iload_n 1, 1) := by decide +kernel
theorem dX12_who_38 : decode cX12_who 38 = .ok (.iaload, 1) := by decide +kernel
theorem dX12_who_39 : decode cX12_who 39 = .ok (.ireturn, 1) := by decide +kernel
theorem dX12_who_40 : decode cX12_who 40 = .ok (.iload_n 2, 1) := by decide +kernel
theorem dX12_who_41 : decode cX12_who 41 = .ok (.iconst 2, 1) := by decide +kernel
theorem dX12_who_42 : decode cX12_who 42 = .ok (.if_icmp .ne 10, 3) := by decide +kernel
theorem dX12_who_45 : decode cX12_who 45 = .ok (.aload_n 0, 1) := by decide +kernel
theorem dX12_who_46 : decode cX12_who 46 = .ok (.getfield 16, 3) := by decide +kernel
theorem dX12_who_49 : decode cX12_who 49 = .ok (.iload_n 1, 1) := by decide +kernel
theorem dX12_who_50 : decode cX12_who 50 = .ok (.iaload, 1) := by decide +kernel
theorem dX12_who_51 : decode cX12_who 51 = .ok (.ireturn, 1) := by decide +kernel
theorem dX12_who_52 : decode cX12_who 52 = .ok (.iload_n 2, 1) := by decide +kernel
theorem dX12_who_53 : decode cX12_who 53 = .ok (.iconst 3, 1) := by decide +kernel
theorem dX12_who_54 : decode cX12_who 54 = .ok (.if_icmp .ne 10, 3) := by decide +kernel
theorem dX12_who_57 : decode cX12_who 57 = .ok (.aload_n 0, 1) := by decide +kernel
theorem dX12_who_58 : decode cX12_who 58 = .ok (.getfield 19, 3) := by decide +kernel
theorem dX12_who_61 : decode cX12_who 61 = .ok (.iload_n 1, 1) := by decide +kernel
theorem dX12_who_62 : decode cX12_who 62 = .ok (.iaload, 1) := by decide +kernel
theorem dX12_who_63 : decode cX12_who 63 = .ok (.ireturn, 1) := by decide +kernel
theorem dX12_who_64 : decode cX12_who 64 = .ok (.iload_n 2, 1) := by decide +kernel
theorem dX12_who_65 : decode cX12_who 65 = .ok (.iconst 4, 1) := by decide +kernel
theorem dX12_who_66 : decode cX12_who 66 = .ok (.if_icmp .ne 10, 3) := by decide +kernel
theorem dX12_who_69 : decode cX12_who 69 = .ok (.aload_n 0, 1) := by decide +kernel
theorem dX12_who_70 : decode cX12_who 70 = .ok (.getfield 22, 3) := by decide +kernel
theorem dX12_who_73 : decode cX12_who 73 = .ok (.iload_n 1, 1) := by decide +kernel
theorem dX12_who_74 : decode cX12_who 74 = .ok (.iaload, 1) := by decide +kernel
theorem dX12_who_75 : decode cX12_who 75 = .ok (.ireturn, 1) := by decide +kernel
theorem dX12_who_76 : decode cX12_who 76 = .ok (.iload_n 2, 1) := by decide +kernel
theorem dX12_who_77 : decode cX12_who 77 = .ok (.iconst 5, 1) := by decide +kernel
theorem dX12_who_78 : decode cX12_who 78 = .ok (.if_icmp .ne 21, 3) := by decide +kernel
theorem dX12_who_81 : decode cX12_who 81 = .ok (.aload_n 0, 1) := by decide +kernel
theorem dX12_who_82 : decode cX12_who 82 = .ok (.iload_n 1, 1) := by decide +kernel
theorem dX12_who_83 : decode cX12_who 83 = .ok (.aload_n 0, 1) := by decide +kernel
theorem dX12_who_84 : decode cX12_who 84 = .ok (.getfield 127, 3) := by decide +kernel
theorem dX12_who_87 : decode cX12_who 87 = .ok (.invokevirtual 143, 3) := by decide +kernel
theorem dX12_who_90 : decode cX12_who 90 = .ok (.ifCond .eq 7, 3) := by decide +kernel
theorem dX12_who_93 : decode cX12_who 93 = .ok (.iconst 1, 1) := by decide +kernel
theorem dX12_who_94 : decode cX12_who 94 = .ok (.goto 4, 3) := by decide +kernel
theorem dX12_who_97 : decode cX12_who 97 = .ok (.iconst 0, 1) := by decide +kernel
theorem dX12_who_98 : decode cX12_who 98 = .ok (.ireturn, 1) := by decide +kernel
theorem dX12_who_99 : decode cX12_who 99 = .ok (.iload_n 2, 1) := by decide +kernel
theorem dX12_who_100 : decode cX12_who 100 = .ok (.bipush 6, 2) := by decide +kernel
theorem dX12_who_102 : decode cX12_who 102 = .ok (.if_icmp .ne 15, 3) := by decide +kernel
theorem dX12_who_105 : decode cX12_who 105 = .ok (.aload_n 0, 1) := by decide +kernel
theorem dX12_who_106 : decode cX12_who 106 = .ok (.iload_n 1, 1) := by decide +kernel
theorem dX12_who_107 : decode cX12_who 107 = .ok (.aload_n 0, 1) := by decide +kernel
theorem dX12_who_108 : decode cX12_who 108 = .ok (.getfield 127, 3) := by decide +kernel
theorem dX12_who_111 : decode cX12_who 111 = .ok (.invokevirtual 251, 3) := by decide +kernel
theorem dX12_who_114 : decode cX12_who 114 = .ok (.goto 20, 3) := by decide +kernel
theorem dX12_who_117 : decode cX12_who 117 = .ok (.iload_n 2, 1) := by decide +kernel
theorem dX12_who_118 : decode cX12_who 118 = .ok (.bipush 7, 2) := by decide +kernel
theorem dX12_who_120 : decode cX12_who 120 = .ok (.if_icmp .ne 11, 3) := by decide +kernel
theorem dX12_who_123 : decode cX12_who 123 = .ok (.aload_n 0, 1) := by decide +kernel
theorem dX12_who_124 : decode cX12_who 124 = .ok (.iload_n 1, 1) := by decide +kernel
theorem dX12_who_125 : decode cX12_who 125 = .ok (.invokevirtual 270, 3) := by decide +kernel
theorem dX12_who_128 : decode cX12_who 128 = .ok (.goto 6, 3) := by decide +kernel
theorem dX12_who_131 : decode cX12_who 131 = .ok (.ldc_w 288, 3) := by decide +kernel
theorem dX12_who_134 : decode cX12_who 134 = .ok (.ireturn, 1) := by decide +kernel
theorem dX12_book_0 : decode cX12_book 0 = .ok (.aload_n 0, 1) := by decide +kernel
theorem dX12_book_1 : decode cX12_book 1 = .ok (.iconst 0, 1) := by decide +kernel
theorem dX12_book_2 : decode cX12_book 2 = .ok (.putfield 104, 3) := by decide +kernel
theorem dX12_book_5 : decode cX12_book 5 = .ok (.aload_n 0, 1) := by decide +kernel
theorem dX12_book_6 : decode cX12_book 6 = .ok (.iload_n 1, 1) := by decide +kernel
theorem dX12_book_7 : decode cX12_book 7 = .ok (.iconst 0, 1) := by decide +kernel
theorem dX12_book_8 : decode cX12_book 8 = .ok (.aload_n 0, 1) := by decide +kernel
theorem dX12_book_9 : decode cX12_book 9 = .ok (.getfield 260, 3) := by decide +kernel
theorem dX12_book_12 : decode cX12_book 12 = .ok (.iconst 1, 1) := by decide +kernel
theorem dX12_book_13 : decode cX12_book 13 = .ok (.isub, 1) := by decide +kernel
theorem dX12_book_14 : decode cX12_book 14 = .ok (.invokevirtual 116, 3) := by decide +kernel
theorem dX12_book_17 : decode cX12_book 17 = .ok (.ifCond .eq 26, 3) := by decide +kernel
theorem dX12_book_20 : decode cX12_book 20 = .ok (.aload_n 0, 1) := by decide +kernel
theorem dX12_book_21 : decode cX12_book 21 = .ok (.iload_n 2, 1) := by decide +kernel
theorem dX12_book_22 : decode cX12_book 22 = .ok (.iconst 0, 1) := by decide +kernel
theorem dX12_book_23 : decode cX12_book 23 = .ok (.iconst 4, 1) := by decide +kernel
theorem dX12_book_24 : decode cX12_book 24 = .ok (.invokevirtual 116, 3) := by decide +kernel
theorem dX12_book_27 : decode cX12_book 27 = .ok (.ifCond .eq 16, 3) := by decide +kernel
theorem dX12_book_30 : decode cX12_book 30 = .ok (.aload_n 0, 1) := by decide +kernel
theorem dX12_book_31 : decode cX12_book 31 = .ok (.getfield 46, 3) := by decide +kernel
theorem dX12_book_34 : decode cX12_book 34 = .ok (.iconst 5, 1) := by decide +kernel
theorem dX12_book_35 : decode cX12_book 35 = .ok (.iload_n 1, 1) := by decide +kernel
theorem dX12_book_36 : decode cX12_book 36 = .ok (.imul, 1) := by decide +kernel
theorem dX12_book_37 : decode cX12_book 37 = .ok (.iload_n 2, 1) := by decide +kernel
theorem dX12_book_38 : decode cX12_book 38 = .ok (.iadd, 1) := by decide +kernel
theorem dX12_book_39 : decode cX12_book 39 = .ok (.iaload, 1) := by decide +kernel
theorem dX12_book_40 : decode cX12_book 40 = .ok (.goto 4, 3) := by decide +kernel
theorem dX12_book_43 : decode cX12_book 43 = .ok (.iconst (-1), 1) := by decide +kernel
theorem dX12_book_44 : decode cX12_book 44 = .ok (.ireturn, 1) := by decide +kernel
theorem dX12_claim_0 : decode cX12_claim 0 = .ok (.aload_n 0, 1) := by decide +kernel
theorem dX12_claim_1 : decode cX12_claim 1 = .ok (.iconst 0, 1) := by decide +kernel
theorem dX12_claim_2 : decode cX12_claim 2 = .ok (.putfield 104, 3) := by decide +kernel
theorem dX12_claim_5 : decode cX12_claim 5 = .ok (.aload_n 0, 1) := by decide +kernel
theorem dX12_claim_6 : decode cX12_claim 6 = .ok (.iload_n 1, 1) := by decide +kernel
theorem dX12_claim_7 : decode cX12_claim 7 = .ok (.invokevirtual 140, 3) := by decide +kernel
theorem dX12_claim_10 : decode cX12_claim 10 = .ok (.ifCond .eq 45, 3) := by decide +kernel
theorem dX12_claim_13 : decode cX12_claim 13 = .ok (.aload_n 0, 1) := by decide +kernel
theorem dX12_claim_14 : decode cX12_claim 14 = .ok (.iload_n 2, 1) := by decide +kernel
theorem dX12_claim_15 : decode cX12_claim 15 = .ok (.aload_n 0, 1) := by decide +kernel
theorem dX12_claim_16 : decode cX12_claim 16 = .ok (.getfield 127, 3) := by decide +kernel
theorem dX12_claim_19 : decode cX12_claim 19 = .ok (.sipush 9999, 3) := by decide +kernel
theorem dX12_claim_22 : decode cX12_claim 22 = .ok (.invokevirtual 116, 3) := by decide +kernel
theorem dX12_claim_25 : decode cX12_claim 25 = .ok (.ifCond .eq 30, 3) := by decide +kernel
theorem dX12_claim_28 : decode cX12_claim 28 = .ok (.iload_n 3, 1) := by decide +kernel
theorem dX12_claim_29 : decode cX12_claim 29 = .ok (.ifCond .lt 26, 3) := by decide +kernel
theorem dX12_claim_32 : decode cX12_claim 32 = .ok (.iload 4, 2) := by decide +kernel
theorem dX12_claim_34 : decode cX12_claim 34 = .ok (.sipush 999, 3) := by decide +kernel
theorem dX12_claim_37 : decode cX12_claim 37 = .ok (.if_icmp .gt 18, 3) := by decide +kernel
theorem dX12_claim_40 : decode cX12_claim 40 = .ok (.iload 4, 2) := by decide +kernel
theorem dX12_claim_42 : decode cX12_claim 42 = .ok (.iload_n 3, 1) := by decide +kernel
theorem dX12_claim_43 : decode cX12_claim 43 = .ok (.if_icmp .lt 12, 3) := by decide +kernel
theorem dX12_claim_46 : decode cX12_claim 46 = .ok (.aload_n 0, 1) := by decide +kernel
theorem dX12_claim_47 : decode cX12_claim 47 = .ok (.getfield 289, 3) := by decide +kernel
theorem dX12_claim_50 : decode cX12_claim 50 = .ok (.bipush 6, 2) := by decide +kernel
theorem dX12_claim_52 : decode cX12_claim 52 = .ok (.if_icmp .ne 5, 3) := by decide +kernel
theorem dX12_claim_55 : decode cX12_claim 55 = .ok (.iconst (-1), 1) := by decide +kernel
theorem dX12_claim_56 : decode cX12_claim 56 = .ok (.ireturn, 1) := by decide +kernel
theorem dX12_claim_57 : decode cX12_claim 57 = .ok (.aload_n 0, 1) := by decide +kernel
theorem dX12_claim_58 : decode cX12_claim 58 = .ok (.getfield 86, 3) := by decide +kernel
theorem dX12_claim_61 : decode cX12_claim 61 = .ok (.aload_n 0, 1) := by decide +kernel
theorem dX12_claim_62 : decode cX12_claim 62 = .ok (.getfield 289, 3) := by decide +kernel
theorem dX12_claim_65 : decode cX12_claim 65 = .ok (.iload_n 1, 1) := by decide +kernel
theorem dX12_claim_66 : decode cX12_claim 66 = .ok (.iastore, 1) := by decide +kernel
theorem dX12_claim_67 : decode cX12_claim 67 = .ok (.aload_n 0, 1) := by decide +kernel
theorem dX12_claim_68 : decode cX12_claim 68 = .ok (.getfield 89, 3) := by decide +kernel
theorem dX12_claim_71 : decode cX12_claim 71 = .ok (.aload_n 0, 1) := by decide +kernel
theorem dX12_claim_72 : decode cX12_claim 72 = .ok (.getfield 289, 3) := by decide +kernel
theorem dX12_claim_75 : decode cX12_claim 75 = .ok (.iload_n 2, 1) := by decide +kernel
theorem dX12_claim_76 : decode cX12_claim 76 = .ok (.iastore, 1) := by decide +kernel
theorem dX12_claim_77 : decode cX12_claim 77 = .ok (.aload_n 0, 1) := by decide +kernel
theorem dX12_claim_78 : decode cX12_claim 78 = .ok (.getfield 92, 3) := by decide +kernel
theorem dX12_claim_81 : decode cX12_claim 81 = .ok (.aload_n 0, 1) := by decide +kernel
theorem dX12_claim_82 : decode cX12_claim 82 = .ok (.getfield 289, 3) := by decide +kernel
theorem dX12_claim_85 : decode cX12_claim 85 = .ok (.iload_n 3, 1) := by decide +kernel
theorem dX12_claim_86 : decode cX12_claim 86 = .ok (.iastore, 1) := by decide +kernel
theorem dX12_claim_87 : decode cX12_claim 87 = .ok (.aload_n 0, 1) := by decide +kernel
theorem dX12_claim_88 : decode cX12_claim 88 = .ok (.getfield 95, 3) := by decide +kernel
theorem dX12_claim_91 : decode cX12_claim 91 = .ok (.aload_n 0, 1) := by decide +kernel
theorem dX12_claim_92 : decode cX12_claim 92 = .ok (.getfield 289, 3) := by decide +kernel
theorem dX12_claim_95 : decode cX12_claim 95 = .ok (.iload 4, 2) := by decide +kernel
theorem dX12_claim_97 : decode cX12_claim 97 = .ok (.iastore, 1) := by decide +kernel
theorem dX12_claim_98 : decode cX12_claim 98 = .ok (.aload_n 0, 1) := by decide +kernel
theorem dX12_claim_99 : decode cX12_claim 99 = .ok (.aload_n 0, 1) := by decide +kernel
theorem dX12_claim_100 : decode cX12_claim 100 = .ok (.getfield 289, 3) := by decide +kernel
theorem dX12_claim_103 : decode cX12_claim 103 = .ok (.iconst 1, 1) := by decide +kernel
theorem dX12_claim_104 : decode cX12_claim 104 = .ok (.iadd, 1) := by decide +kernel
theorem dX12_claim_105 : decode cX12_claim 105 = .ok (.putfield 289, 3) := by decide +kernel
theorem dX12_claim_108 : decode cX12_claim 108 = .ok (.aload_n 0, 1) := by decide +kernel
theorem dX12_claim_109 : decode cX12_claim 109 = .ok (.getfield 289, 3) := by decide +kernel
theorem dX12_claim_112 : decode cX12_claim 112 = .ok (.iconst 1, 1) := by decide +kernel
theorem dX12_claim_113 : decode cX12_claim 113 = .ok (.isub, 1) := by decide +kernel
theorem dX12_claim_114 : decode cX12_claim 114 = .ok (.ireturn, 1) := by decide +kernel
theorem dX12_livingNow_0 : decode cX12_livingNow 0 = .ok (.iconst 0, 1) := by decide +kernel
theorem dX12_livingNow_1 : decode cX12_livingNow 1 = .ok (.istore_n 1, 1) := by decide +kernel
theorem dX12_livingNow_2 : decode cX12_livingNow 2 = .ok (.iconst 0, 1) := by decide +kernel
theorem dX12_livingNow_3 : decode cX12_livingNow 3 = .ok (.istore_n 2, 1) := by decide +kernel
theorem dX12_livingNow_4 : decode cX12_livingNow 4 = .ok (.iload_n 2, 1) := by decide +kernel
theorem dX12_livingNow_5 : decode cX12_livingNow 5 = .ok (.aload_n 0, 1) := by decide +kernel
theorem dX12_livingNow_6 : decode cX12_livingNow 6 = .ok (.getfield 112, 3) := by decide +kernel
theorem dX12_livingNow_9 : decode cX12_livingNow 9 = .ok (.if_icmp .ge 27, 3) := by decide +kernel
theorem dX12_livingNow_12 : decode cX12_livingNow 12 = .ok (.aload_n 0, 1) := by decide +kernel
theorem dX12_livingNow_13 : decode cX12_livingNow 13 = .ok (.iload_n 2, 1) := by decide +kernel
theorem dX12_livingNow_14 : decode cX12_livingNow 14 = .ok (.aload_n 0, 1) := by decide +kernel
theorem dX12_livingNow_15 : decode cX12_livingNow 15 = .ok (.getfield 127, 3) := by decide +kernel
theorem dX12_livingNow_18 : decode cX12_livingNow 18 = .ok (.invokevirtual 143, 3) := by decide +kernel
theorem dX12_livingNow_21 : decode cX12_livingNow 21 = .ok (.ifCond .eq 9, 3) := by decide +kernel
theorem dX12_livingNow_24 : decode cX12_livingNow 24 = .ok (.iload_n 1, 1) := by decide +kernel
theorem dX12_livingNow_25 : decode cX12_livingNow 25 = .ok (.iconst 1, 1) := by decide +kernel
theorem dX12_livingNow_26 : decode cX12_livingNow 26 = .ok (.iload_n 2, 1) := by decide +kernel
theorem dX12_livingNow_27 : decode cX12_livingNow 27 = .ok (.ishl, 1) := by decide +kernel
theorem dX12_livingNow_28 : decode cX12_livingNow 28 = .ok (.ior, 1) := by decide +kernel
theorem dX12_livingNow_29 : decode cX12_livingNow 29 = .ok (.istore_n 1, 1) := by decide +kernel
theorem dX12_livingNow_30 : decode cX12_livingNow 30 = .ok (.iinc 2 1, 3) := by decide +kernel
theorem dX12_livingNow_33 : decode cX12_livingNow 33 = .ok (.goto (-29), 3) := by decide +kernel
theorem dX12_livingNow_36 : decode cX12_livingNow 36 = .ok (.iload_n 1, 1) := by decide +kernel
theorem dX12_livingNow_37 : decode cX12_livingNow 37 = .ok (.ireturn, 1) := by decide +kernel
theorem dX12_claimed_0 : decode cX12_claimed 0 = .ok (.iconst 0, 1) := by decide +kernel
theorem dX12_claimed_1 : decode cX12_claimed 1 = .ok (.istore_n 1, 1) := by decide +kernel
theorem dX12_claimed_2 : decode cX12_claimed 2 = .ok (.iconst 0, 1) := by decide +kernel
theorem dX12_claimed_3 : decode cX12_claimed 3 = .ok (.istore_n 2, 1) := by decide +kernel
theorem dX12_claimed_4 : decode cX12_claimed 4 = .ok (.iload_n 2, 1) := by decide +kernel
theorem dX12_claimed_5 : decode cX12_claimed 5 = .ok (.aload_n 0, 1) := by decide +kernel
theorem dX12_claimed_6 : decode cX12_claimed 6 = .ok (.getfield 289, 3) := by decide +kernel
theorem dX12_claimed_9 : decode cX12_claimed 9 = .ok (.if_icmp .ge 20, 3) := by decide +kernel
theorem dX12_claimed_12 : decode cX12_claimed 12 = .ok (.iload_n 1, 1) := by decide +kernel
theorem dX12_claimed_13 : decode cX12_claimed 13 = .ok (.iconst 1, 1) := by decide +kernel
theorem dX12_claimed_14 : decode cX12_claimed 14 = .ok (.aload_n 0, 1) := by decide +kernel
theorem dX12_claimed_15 : decode cX12_claimed 15 = .ok (.getfield 86, 3) := by decide +kernel
theorem dX12_claimed_18 : decode cX12_claimed 18 = .ok (.iload_n 2, 1) := by decide +kernel
theorem dX12_claimed_19 : decode cX12_claimed 19 = .ok (.iaload, 1) := by decide +kernel
theorem dX12_claimed_20 : decode cX12_claimed 20 = .ok (.ishl, 1) := by decide +kernel
theorem dX12_claimed_21 : decode cX12_claimed 21 = .ok (.ior, 1) := by decide +kernel
theorem dX12_claimed_22 : decode cX12_claimed 22 = .ok (.istore_n 1, 1) := by decide +kernel
theorem dX12_claimed_23 : decode cX12_claimed 23 = .ok (.iinc 2 1, 3) := by decide +kernel
theorem dX12_claimed_26 : decode cX12_claimed 26 = .ok (.goto (-22), 3) := by decide +kernel
theorem dX12_claimed_29 : decode cX12_claimed 29 = .ok (.iload_n 1, 1) := by decide +kernel
theorem dX12_claimed_30 : decode cX12_claimed 30 = .ok (.ireturn, 1) := by decide +kernel
theorem dX12_areEnough_0 : decode cX12_areEnough 0 = .ok (.iconst 0, 1) := by decide +kernel
theorem dX12_areEnough_1 : decode cX12_areEnough 1 = .ok (.istore_n 2, 1) := by decide +kernel
theorem dX12_areEnough_2 : decode cX12_areEnough 2 = .ok (.iload_n 2, 1) := by decide +kernel
theorem dX12_areEnough_3 : decode cX12_areEnough 3 = .ok (.aload_n 0, 1) := by decide +kernel
theorem dX12_areEnough_4 : decode cX12_areEnough 4 = .ok (.getfield 130, 3) := by decide +kernel
theorem dX12_areEnough_7 : decode cX12_areEnough 7 = .ok (.if_icmp .ge 38, 3) := by decide +kernel
theorem dX12_areEnough_10 : decode cX12_areEnough 10 = .ok (.aload_n 0, 1) := by decide +kernel
theorem dX12_areEnough_11 : decode cX12_areEnough 11 = .ok (.invokevirtual 298, 3) := by decide +kernel
theorem dX12_areEnough_14 : decode cX12_areEnough 14 = .ok (.iload_n 2, 1) := by decide +kernel
theorem dX12_areEnough_15 : decode cX12_areEnough 15 = .ok (.ishr, 1) := by decide +kernel
theorem dX12_areEnough_16 : decode cX12_areEnough 16 = .ok (.iconst 1, 1) := by decide +kernel
theorem dX12_areEnough_17 : decode cX12_areEnough 17 = .ok (.iand, 1) := by decide +kernel
theorem dX12_areEnough_18 : decode cX12_areEnough 18 = .ok (.iconst 1, 1) := by decide +kernel
theorem dX12_areEnough_19 : decode cX12_areEnough 19 = .ok (.if_icmp .ne 20, 3) := by decide +kernel
theorem dX12_areEnough_22 : decode cX12_areEnough 22 = .ok (.aload_n 0, 1) := by decide +kernel
theorem dX12_areEnough_23 : decode cX12_areEnough 23 = .ok (.getfield 98, 3) := by decide +kernel
theorem dX12_areEnough_26 : decode cX12_areEnough 26 = .ok (.iload_n 2, 1) := by decide +kernel
theorem dX12_areEnough_27 : decode cX12_areEnough 27 = .ok (.iaload, 1) := by decide +kernel
theorem dX12_areEnough_28 : decode cX12_areEnough 28 = .ok (.iload_n 1, 1) := by decide +kernel
theorem dX12_areEnough_29 : decode cX12_areEnough 29 = .ok (.sipush 4096, 3) := by decide +kernel
theorem dX12_areEnough_32 : decode cX12_areEnough 32 = .ok (.ior, 1) := by decide +kernel
theorem dX12_areEnough_33 : decode cX12_areEnough 33 = .ok (.iand, 1) := by decide +kernel
theorem dX12_areEnough_34 : decode cX12_areEnough 34 = .ok (.ifCond .ne 5, 3) := by decide +kernel
theorem dX12_areEnough_37 : decode cX12_areEnough 37 = .ok (.iconst 0, 1) := by decide +kernel
theorem dX12_areEnough_38 : decode cX12_areEnough 38 = .ok (.ireturn, 1) := by decide +kernel
theorem dX12_areEnough_39 : decode cX12_areEnough 39 = .ok (.iinc 2 1, 3) := by decide +kernel
theorem dX12_areEnough_42 : decode cX12_areEnough 42 = .ok (.goto (-40), 3) := by decide +kernel
theorem dX12_areEnough_45 : decode cX12_areEnough 45 = .ok (.iconst 1, 1) := by decide +kernel
theorem dX12_areEnough_46 : decode cX12_areEnough 46 = .ok (.ireturn, 1) := by decide +kernel
theorem dX12_ones_0 : decode cX12_ones 0 = .ok (.iconst 0, 1) := by decide +kernel
theorem dX12_ones_1 : decode cX12_ones 1 = .ok (.istore_n 2, 1) := by decide +kernel
theorem dX12_ones_2 : decode cX12_ones 2 = .ok (.iload_n 1, 1) := by decide +kernel
theorem dX12_ones_3 : decode cX12_ones 3 = .ok (.istore_n 3, 1) := by decide +kernel
theorem dX12_ones_4 : decode cX12_ones 4 = .ok (.iload_n 3, 1) := by decide +kernel
theorem dX12_ones_5 : decode cX12_ones 5 = .ok (.ifCond .eq 16, 3) := by decide +kernel
theorem dX12_ones_8 : decode cX12_ones 8 = .ok (.iload_n 2, 1) := by decide +kernel
theorem dX12_ones_9 : decode cX12_ones 9 = .ok (.iconst 1, 1) := by decide +kernel
theorem dX12_ones_10 : decode cX12_ones 10 = .ok (.iadd, 1) := by decide +kernel
theorem dX12_ones_11 : decode cX12_ones 11 = .ok (.istore_n 2, 1) := by decide +kernel
theorem dX12_ones_12 : decode cX12_ones 12 = .ok (.iload_n 3, 1) := by decide +kernel
theorem dX12_ones_13 : decode cX12_ones 13 = .ok (.iload_n 3, 1) := by decide +kernel
theorem dX12_ones_14 : decode cX12_ones 14 = .ok (.iconst 1, 1) := by decide +kernel
theorem dX12_ones_15 : decode cX12_ones 15 = .ok (.isub, 1) := by decide +kernel
theorem dX12_ones_16 : decode cX12_ones 16 = .ok (.iand, 1) := by decide +kernel
theorem dX12_ones_17 : decode cX12_ones 17 = .ok (.istore_n 3, 1) := by decide +kernel
theorem dX12_ones_18 : decode cX12_ones 18 = .ok (.goto (-14), 3) := by decide +kernel
theorem dX12_ones_21 : decode cX12_ones 21 = .ok (.iload_n 2, 1) := by decide +kernel
theorem dX12_ones_22 : decode cX12_ones 22 = .ok (.ireturn, 1) := by decide +kernel
theorem dX12_thinksOf_0 : decode cX12_thinksOf 0 = .ok (.aload_n 0, 1) := by decide +kernel
theorem dX12_thinksOf_1 : decode cX12_thinksOf 1 = .ok (.getfield 25, 3) := by decide +kernel
theorem dX12_thinksOf_4 : decode cX12_thinksOf 4 = .ok (.bipush 12, 2) := by decide +kernel
theorem dX12_thinksOf_6 : decode cX12_thinksOf 6 = .ok (.aload_n 0, 1) := by decide +kernel
theorem dX12_thinksOf_7 : decode cX12_thinksOf 7 = .ok (.getfield 25, 3) := by decide +kernel
theorem dX12_thinksOf_10 : decode cX12_thinksOf 10 = .ok (.iload_n 1, 1) := by decide +kernel
theorem dX12_thinksOf_11 : decode cX12_thinksOf 11 = .ok (.iaload, 1) := by decide +kernel
theorem dX12_thinksOf_12 : decode cX12_thinksOf 12 = .ok (.iastore, 1) := by decide +kernel
theorem dX12_thinksOf_13 : decode cX12_thinksOf 13 = .ok (.aload_n 0, 1) := by decide +kernel
theorem dX12_thinksOf_14 : decode cX12_thinksOf 14 = .ok (.getfield 28, 3) := by decide +kernel
theorem dX12_thinksOf_17 : decode cX12_thinksOf 17 = .ok (.bipush 12, 2) := by decide +kernel
theorem dX12_thinksOf_19 : decode cX12_thinksOf 19 = .ok (.aload_n 0, 1) := by decide +kernel
theorem dX12_thinksOf_20 : decode cX12_thinksOf 20 = .ok (.getfield 28, 3) := by decide +kernel
theorem dX12_thinksOf_23 : decode cX12_thinksOf 23 = .ok (.iload_n 1, 1) := by decide +kernel
theorem dX12_thinksOf_24 : decode cX12_thinksOf 24 = .ok (.iaload, 1) := by decide +kernel
theorem dX12_thinksOf_25 : decode cX12_thinksOf 25 = .ok (.iastore, 1) := by decide +kernel
theorem dX12_thinksOf_26 : decode cX12_thinksOf 26 = .ok (.aload_n 0, 1) := by decide +kernel
theorem dX12_thinksOf_27 : decode cX12_thinksOf 27 = .ok (.getfield 31, 3) := by decide +kernel
theorem dX12_thinksOf_30 : decode cX12_thinksOf 30 = .ok (.bipush 12, 2) := by decide +kernel
theorem dX12_thinksOf_32 : decode cX12_thinksOf 32 = .ok (.aload_n 0, 1) := by decide +kernel
theorem dX12_thinksOf_33 : decode cX12_thinksOf 33 = .ok (.getfield 31, 3) := by decide +kernel
theorem dX12_thinksOf_36 : decode cX12_thinksOf 36 = .ok (.iload_n 1, 1) := by decide +kernel
theorem dX12_thinksOf_37 : decode cX12_thinksOf 37 = .ok (.iaload, 1) := by decide +kernel
theorem dX12_thinksOf_38 : decode cX12_thinksOf 38 = .ok (.iastore, 1) := by decide +kernel
theorem dX12_thinksOf_39 : decode cX12_thinksOf 39 = .ok (.aload_n 0, 1) := by decide +kernel
theorem dX12_thinksOf_40 : decode cX12_thinksOf 40 = .ok (.getfield 34, 3) := by decide +kernel
theorem dX12_thinksOf_43 : decode cX12_thinksOf 43 = .ok (.bipush 12, 2) := by decide +kernel
theorem dX12_thinksOf_45 : decode cX12_thinksOf 45 = .ok (.aload_n 0, 1) := by decide +kernel
theorem dX12_thinksOf_46 : decode cX12_thinksOf 46 = .ok (.getfield 34, 3) := by decide +kernel
theorem dX12_thinksOf_49 : decode cX12_thinksOf 49 = .ok (.iload_n 1, 1) := by decide +kernel
theorem dX12_thinksOf_50 : decode cX12_thinksOf 50 = .ok (.iaload, 1) := by decide +kernel
theorem dX12_thinksOf_51 : decode cX12_thinksOf 51 = .ok (.iastore, 1) := by decide +kernel
theorem dX12_thinksOf_52 : decode cX12_thinksOf 52 = .ok (.aload_n 0, 1) := by decide +kernel
theorem dX12_thinksOf_53 : decode cX12_thinksOf 53 = .ok (.getfield 37, 3) := by decide +kernel
theorem dX12_thinksOf_56 : decode cX12_thinksOf 56 = .ok (.bipush 12, 2) := by decide +kernel
theorem dX12_thinksOf_58 : decode cX12_thinksOf 58 = .ok (.aload_n 0, 1) := by decide +kernel
theorem dX12_thinksOf_59 : decode cX12_thinksOf 59 = .ok (.getfield 37, 3) := by decide +kernel
theorem dX12_thinksOf_62 : decode cX12_thinksOf 62 = .ok (.iload_n 1, 1) := by decide +kernel
theorem dX12_thinksOf_63 : decode cX12_thinksOf 63 = .ok (.iaload, 1) := by decide +kernel
theorem dX12_thinksOf_64 : decode cX12_thinksOf 64 = .ok (.iastore, 1) := by decide +kernel
theorem dX12_thinksOf_65 : decode cX12_thinksOf 65 = .ok (.aload_n 0, 1) := by decide +kernel
theorem dX12_thinksOf_66 : decode cX12_thinksOf 66 = .ok (.getfield 40, 3) := by decide +kernel
theorem dX12_thinksOf_69 : decode cX12_thinksOf 69 = .ok (.bipush 12, 2) := by decide +kernel
theorem dX12_thinksOf_71 : decode cX12_thinksOf 71 = .ok (.aload_n 0, 1) := by decide +kernel
theorem dX12_thinksOf_72 : decode cX12_thinksOf 72 = .ok (.getfield 40, 3) := by decide +kernel
theorem dX12_thinksOf_75 : decode cX12_thinksOf 75 = .ok (.iload_n 1, 1) := by decide +kernel
theorem dX12_thinksOf_76 : decode cX12_thinksOf 76 = .ok (.iaload, 1) := by decide +kernel
theorem dX12_thinksOf_77 : decode cX12_thinksOf 77 = .ok (.iastore, 1) := by decide +kernel
theorem dX12_thinksOf_78 : decode cX12_thinksOf 78 = .ok (.return_, 1) := by decide +kernel
theorem dX12_doStand_0 : decode cX12_doStand 0 = .ok (.iconst 0, 1) := by decide +kernel
theorem dX12_doStand_1 : decode cX12_doStand 1 = .ok (.istore_n 2, 1) := by decide +kernel
theorem dX12_doStand_2 : decode cX12_doStand 2 = .ok (.iload_n 2, 1) := by decide +kernel
theorem dX12_doStand_3 : decode cX12_doStand 3 = .ok (.aload_n 0, 1) := by decide +kernel
theorem dX12_doStand_4 : decode cX12_doStand 4 = .ok (.getfield 289, 3) := by decide +kernel
theorem dX12_doStand_7 : decode cX12_doStand 7 = .ok (.if_icmp .ge 53, 3) := by decide +kernel
theorem dX12_doStand_10 : decode cX12_doStand 10 = .ok (.aload_n 0, 1) := by decide +kernel
theorem dX12_doStand_11 : decode cX12_doStand 11 = .ok (.getfield 86, 3) := by decide +kernel
theorem dX12_doStand_14 : decode cX12_doStand 14 = .ok (.iload_n 2, 1) := by decide +kernel
theorem dX12_doStand_15 : decode cX12_doStand 15 = .ok (.iaload, 1) := by decide +kernel
theorem dX12_doStand_16 : decode cX12_doStand 16 = .ok (.iload_n 1, 1) := by decide +kernel
theorem dX12_doStand_17 : decode cX12_doStand 17 = .ok (.if_icmp .ne 37, 3) := by decide +kernel
theorem dX12_doStand_20 : decode cX12_doStand 20 = .ok (.aload_n 0, 1) := by decide +kernel
theorem dX12_doStand_21 : decode cX12_doStand 21 = .ok (.aload_n 0, 1) := by decide +kernel
theorem dX12_doStand_22 : decode cX12_doStand 22 = .ok (.bipush 12, 2) := by decide +kernel
theorem dX12_doStand_24 : decode cX12_doStand 24 = .ok (.iload_n 1, 1) := by decide +kernel
theorem dX12_doStand_25 : decode cX12_doStand 25 = .ok (.aload_n 0, 1) := by decide +kernel
theorem dX12_doStand_26 : decode cX12_doStand 26 = .ok (.getfield 89, 3) := by decide +kernel
theorem dX12_doStand_29 : decode cX12_doStand 29 = .ok (.iload_n 2, 1) := by decide +kernel
theorem dX12_doStand_30 : decode cX12_doStand 30 = .ok (.iaload, 1) := by decide +kernel
theorem dX12_doStand_31 : decode cX12_doStand 31 = .ok (.invokevirtual 257, 3) := by decide +kernel
theorem dX12_doStand_34 : decode cX12_doStand 34 = .ok (.aload_n 0, 1) := by decide +kernel
theorem dX12_doStand_35 : decode cX12_doStand 35 = .ok (.getfield 92, 3) := by decide +kernel
theorem dX12_doStand_38 : decode cX12_doStand 38 = .ok (.iload_n 2, 1) := by decide +kernel
theorem dX12_doStand_39 : decode cX12_doStand 39 = .ok (.iaload, 1) := by decide +kernel
theorem dX12_doStand_40 : decode cX12_doStand 40 = .ok (.aload_n 0, 1) := by decide +kernel
theorem dX12_doStand_41 : decode cX12_doStand 41 = .ok (.getfield 95, 3) := by decide +kernel
theorem dX12_doStand_44 : decode cX12_doStand 44 = .ok (.iload_n 2, 1) := by decide +kernel
theorem dX12_doStand_45 : decode cX12_doStand 45 = .ok (.iaload, 1) := by decide +kernel
theorem dX12_doStand_46 : decode cX12_doStand 46 = .ok (.invokevirtual 116, 3) := by decide +kernel
theorem dX12_doStand_49 : decode cX12_doStand 49 = .ok (.ifCond .ne 5, 3) := by decide +kernel
theorem dX12_doStand_52 : decode cX12_doStand 52 = .ok (.iconst 0, 1) := by decide +kernel
theorem dX12_doStand_53 : decode cX12_doStand 53 = .ok (.ireturn, 1) := by decide +kernel
theorem dX12_doStand_54 : decode cX12_doStand 54 = .ok (.iinc 2 1, 3) := by decide +kernel
theorem dX12_doStand_57 : decode cX12_doStand 57 = .ok (.goto (-55), 3) := by decide +kernel
theorem dX12_doStand_60 : decode cX12_doStand 60 = .ok (.iconst 1, 1) := by decide +kernel
theorem dX12_doStand_61 : decode cX12_doStand 61 = .ok (.ireturn, 1) := by decide +kernel
theorem dX12_findsStanding_0 : decode cX12_findsStanding 0 = .ok (.aload_n 0, 1) := by decide +kernel
theorem dX12_findsStanding_1 : decode cX12_findsStanding 1 = .ok (.iload_n 1, 1) := by decide +kernel
theorem dX12_findsStanding_2 : decode cX12_findsStanding 2 = .ok (.invokevirtual 292, 3) := by decide +kernel
theorem dX12_findsStanding_5 : decode cX12_findsStanding 5 = .ok (.aload_n 0, 1) := by decide +kernel
theorem dX12_findsStanding_6 : decode cX12_findsStanding 6 = .ok (.iload_n 1, 1) := by decide +kernel
theorem dX12_findsStanding_7 : decode cX12_findsStanding 7 = .ok (.invokevirtual 295, 3) := by decide +kernel
theorem dX12_findsStanding_10 : decode cX12_findsStanding 10 = .ok (.ifCond .eq 9, 3) := by decide +kernel
theorem dX12_findsStanding_13 : decode cX12_findsStanding 13 = .ok (.sipush 4096, 3) := by decide +kernel
theorem dX12_findsStanding_16 : decode cX12_findsStanding 16 = .ok (.goto 4, 3) := by decide +kernel
theorem dX12_findsStanding_19 : decode cX12_findsStanding 19 = .ok (.iconst 0, 1) := by decide +kernel
theorem dX12_findsStanding_20 : decode cX12_findsStanding 20 = .ok (.istore_n 2, 1) := by decide +kernel
theorem dX12_findsStanding_21 : decode cX12_findsStanding 21 = .ok (.iconst 0, 1) := by decide +kernel
theorem dX12_findsStanding_22 : decode cX12_findsStanding 22 = .ok (.istore_n 3, 1) := by decide +kernel
theorem dX12_findsStanding_23 : decode cX12_findsStanding 23 = .ok (.iload_n 3, 1) := by decide +kernel
theorem dX12_findsStanding_24 : decode cX12_findsStanding 24 = .ok (.aload_n 0, 1) := by decide +kernel
theorem dX12_findsStanding_25 : decode cX12_findsStanding 25 = .ok (.getfield 112, 3) := by decide +kernel
theorem dX12_findsStanding_28 : decode cX12_findsStanding 28 = .ok (.if_icmp .ge 54, 3) := by decide +kernel
theorem dX12_findsStanding_31 : decode cX12_findsStanding 31 = .ok (.aload_n 0, 1) := by decide +kernel
theorem dX12_findsStanding_32 : decode cX12_findsStanding 32 = .ok (.iload_n 3, 1) := by decide +kernel
theorem dX12_findsStanding_33 : decode cX12_findsStanding 33 = .ok (.aload_n 0, 1) := by decide +kernel
theorem dX12_findsStanding_34 : decode cX12_findsStanding 34 = .ok (.getfield 127, 3) := by decide +kernel
theorem dX12_findsStanding_37 : decode cX12_findsStanding 37 = .ok (.invokevirtual 143, 3) := by decide +kernel
theorem dX12_findsStanding_40 : decode cX12_findsStanding 40 = .ok (.ifCond .ne 6, 3) := by decide +kernel
theorem dX12_findsStanding_43 : decode cX12_findsStanding 43 = .ok (.goto 33, 3) := by decide +kernel
theorem dX12_findsStanding_46 : decode cX12_findsStanding 46 = .ok (.aload_n 0, 1) := by decide +kernel
theorem dX12_findsStanding_47 : decode cX12_findsStanding 47 = .ok (.iload_n 1, 1) := by decide +kernel
theorem dX12_findsStanding_48 : decode cX12_findsStanding 48 = .ok (.invokevirtual 292, 3) := by decide +kernel
theorem dX12_findsStanding_51 : decode cX12_findsStanding 51 = .ok (.aload_n 0, 1) := by decide +kernel
theorem dX12_findsStanding_52 : decode cX12_findsStanding 52 = .ok (.bipush 12, 2) := by decide +kernel
theorem dX12_findsStanding_54 : decode cX12_findsStanding 54 = .ok (.iload_n 3, 1) := by decide +kernel
theorem dX12_findsStanding_55 : decode cX12_findsStanding 55 = .ok (.aload_n 0, 1) := by decide +kernel
theorem dX12_findsStanding_56 : decode cX12_findsStanding 56 = .ok (.getfield 127, 3) := by decide +kernel
theorem dX12_findsStanding_59 : decode cX12_findsStanding 59 = .ok (.invokevirtual 266, 3) := by decide +kernel
theorem dX12_findsStanding_62 : decode cX12_findsStanding 62 = .ok (.aload_n 0, 1) := by decide +kernel
theorem dX12_findsStanding_63 : decode cX12_findsStanding 63 = .ok (.iload_n 1, 1) := by decide +kernel
theorem dX12_findsStanding_64 : decode cX12_findsStanding 64 = .ok (.invokevirtual 295, 3) := by decide +kernel
theorem dX12_findsStanding_67 : decode cX12_findsStanding 67 = .ok (.ifCond .eq 9, 3) := by decide +kernel
theorem dX12_findsStanding_70 : decode cX12_findsStanding 70 = .ok (.iload_n 2, 1) := by decide +kernel
theorem dX12_findsStanding_71 : decode cX12_findsStanding 71 = .ok (.iconst 1, 1) := by decide +kernel
theorem dX12_findsStanding_72 : decode cX12_findsStanding 72 = .ok (.iload_n 3, 1) := by decide +kernel
theorem dX12_findsStanding_73 : decode cX12_findsStanding 73 = .ok (.ishl, 1) := by decide +kernel
theorem dX12_findsStanding_74 : decode cX12_findsStanding 74 = .ok (.ior, 1) := by decide +kernel
theorem dX12_findsStanding_75 : decode cX12_findsStanding 75 = .ok (.istore_n 2, 1) := by decide +kernel
theorem dX12_findsStanding_76 : decode cX12_findsStanding 76 = .ok (.iinc 3 1, 3) := by decide +kernel
theorem dX12_findsStanding_79 : decode cX12_findsStanding 79 = .ok (.goto (-56), 3) := by decide +kernel
theorem dX12_findsStanding_82 : decode cX12_findsStanding 82 = .ok (.iload_n 2, 1) := by decide +kernel
theorem dX12_findsStanding_83 : decode cX12_findsStanding 83 = .ok (.ireturn, 1) := by decide +kernel
theorem dX12_fewest_0 : decode cX12_fewest 0 = .ok (.aload_n 0, 1) := by decide +kernel
theorem dX12_fewest_1 : decode cX12_fewest 1 = .ok (.iconst 0, 1) := by decide +kernel
theorem dX12_fewest_2 : decode cX12_fewest 2 = .ok (.putfield 104, 3) := by decide +kernel
theorem dX12_fewest_5 : decode cX12_fewest 5 = .ok (.iload_n 1, 1) := by decide +kernel
theorem dX12_fewest_6 : decode cX12_fewest 6 = .ok (.bipush 10, 2) := by decide +kernel
theorem dX12_fewest_8 : decode cX12_fewest 8 = .ok (.isub, 1) := by decide +kernel
theorem dX12_fewest_9 : decode cX12_fewest 9 = .ok (.istore_n 2, 1) := by decide +kernel
theorem dX12_fewest_10 : decode cX12_fewest 10 = .ok (.iload_n 1, 1) := by decide +kernel
theorem dX12_fewest_11 : decode cX12_fewest 11 = .ok (.ifCond .eq 13, 3) := by decide +kernel
theorem dX12_fewest_14 : decode cX12_fewest 14 = .ok (.aload_n 0, 1) := by decide +kernel
theorem dX12_fewest_15 : decode cX12_fewest 15 = .ok (.iload_n 2, 1) := by decide +kernel
theorem dX12_fewest_16 : decode cX12_fewest 16 = .ok (.invokevirtual 140, 3) := by decide +kernel
theorem dX12_fewest_19 : decode cX12_fewest 19 = .ok (.ifCond .ne 5, 3) := by decide +kernel
theorem dX12_fewest_22 : decode cX12_fewest 22 = .ok (.iconst (-1), 1) := by decide +kernel
theorem dX12_fewest_23 : decode cX12_fewest 23 = .ok (.ireturn, 1) := by decide +kernel
theorem dX12_fewest_24 : decode cX12_fewest 24 = .ok (.iconst 0, 1) := by decide +kernel
theorem dX12_fewest_25 : decode cX12_fewest 25 = .ok (.istore_n 3, 1) := by decide +kernel
theorem dX12_fewest_26 : decode cX12_fewest 26 = .ok (.iload_n 3, 1) := by decide +kernel
theorem dX12_fewest_27 : decode cX12_fewest 27 = .ok (.aload_n 0, 1) := by decide +kernel
theorem dX12_fewest_28 : decode cX12_fewest 28 = .ok (.getfield 289, 3) := by decide +kernel
theorem dX12_fewest_31 : decode cX12_fewest 31 = .ok (.if_icmp .ge 24, 3) := by decide +kernel
theorem dX12_fewest_34 : decode cX12_fewest 34 = .ok (.aload_n 0, 1) := by decide +kernel
theorem dX12_fewest_35 : decode cX12_fewest 35 = .ok (.getfield 89, 3) := by decide +kernel
theorem dX12_fewest_38 : decode cX12_fewest 38 = .ok (.iload_n 3, 1) := by decide +kernel
theorem dX12_fewest_39 : decode cX12_fewest 39 = .ok (.iaload, 1) := by decide +kernel
theorem dX12_fewest_40 : decode cX12_fewest 40 = .ok (.aload_n 0, 1) := by decide +kernel
theorem dX12_fewest_41 : decode cX12_fewest 41 = .ok (.getfield 127, 3) := by decide +kernel
theorem dX12_fewest_44 : decode cX12_fewest 44 = .ok (.if_icmp .ge 5, 3) := by decide +kernel
theorem dX12_fewest_47 : decode cX12_fewest 47 = .ok (.iconst (-1), 1) := by decide +kernel
theorem dX12_fewest_48 : decode cX12_fewest 48 = .ok (.ireturn, 1) := by decide +kernel
theorem dX12_fewest_49 : decode cX12_fewest 49 = .ok (.iinc 3 1, 3) := by decide +kernel
theorem dX12_fewest_52 : decode cX12_fewest 52 = .ok (.goto (-26), 3) := by decide +kernel
theorem dX12_fewest_55 : decode cX12_fewest 55 = .ok (.iconst 0, 1) := by decide +kernel
theorem dX12_fewest_56 : decode cX12_fewest 56 = .ok (.istore_n 3, 1) := by decide +kernel
theorem dX12_fewest_57 : decode cX12_fewest 57 = .ok (.iload_n 3, 1) := by decide +kernel
theorem dX12_fewest_58 : decode cX12_fewest 58 = .ok (.aload_n 0, 1) := by decide +kernel
theorem dX12_fewest_59 : decode cX12_fewest 59 = .ok (.getfield 130, 3) := by decide +kernel
theorem dX12_fewest_62 : decode cX12_fewest 62 = .ok (.if_icmp .ge 38, 3) := by decide +kernel
theorem dX12_fewest_65 : decode cX12_fewest 65 = .ok (.aload_n 0, 1) := by decide +kernel
theorem dX12_fewest_66 : decode cX12_fewest 66 = .ok (.getfield 98, 3) := by decide +kernel
theorem dX12_fewest_69 : decode cX12_fewest 69 = .ok (.iload_n 3, 1) := by decide +kernel
theorem dX12_fewest_70 : decode cX12_fewest 70 = .ok (.aload_n 0, 1) := by decide +kernel
theorem dX12_fewest_71 : decode cX12_fewest 71 = .ok (.invokevirtual 298, 3) := by decide +kernel
theorem dX12_fewest_74 : decode cX12_fewest 74 = .ok (.iload_n 3, 1) := by decide +kernel
theorem dX12_fewest_75 : decode cX12_fewest 75 = .ok (.ishr, 1) := by decide +kernel
theorem dX12_fewest_76 : decode cX12_fewest 76 = .ok (.iconst 1, 1) := by decide +kernel
theorem dX12_fewest_77 : decode cX12_fewest 77 = .ok (.iand, 1) := by decide +kernel
theorem dX12_fewest_78 : decode cX12_fewest 78 = .ok (.iconst 1, 1) := by decide +kernel
theorem dX12_fewest_79 : decode cX12_fewest 79 = .ok (.if_icmp .ne 11, 3) := by decide +kernel
theorem dX12_fewest_82 : decode cX12_fewest 82 = .ok (.aload_n 0, 1) := by decide +kernel
theorem dX12_fewest_83 : decode cX12_fewest 83 = .ok (.iload_n 3, 1) := by decide +kernel
theorem dX12_fewest_84 : decode cX12_fewest 84 = .ok (.invokevirtual 301, 3) := by decide +kernel
theorem dX12_fewest_87 : decode cX12_fewest 87 = .ok (.goto 6, 3) := by decide +kernel
theorem dX12_fewest_90 : decode cX12_fewest 90 = .ok (.sipush 4096, 3) := by decide +kernel
theorem dX12_fewest_93 : decode cX12_fewest 93 = .ok (.iastore, 1) := by decide +kernel
theorem dX12_fewest_94 : decode cX12_fewest 94 = .ok (.iinc 3 1, 3) := by decide +kernel
theorem dX12_fewest_97 : decode cX12_fewest 97 = .ok (.goto (-40), 3) := by decide +kernel
theorem dX12_fewest_100 : decode cX12_fewest 100 = .ok (.iconst (-1), 1) := by decide +kernel
theorem dX12_fewest_101 : decode cX12_fewest 101 = .ok (.istore_n 3, 1) := by decide +kernel
theorem dX12_fewest_102 : decode cX12_fewest 102 = .ok (.iconst 0, 1) := by decide +kernel
theorem dX12_fewest_103 : decode cX12_fewest 103 = .ok (.istore 4, 2) := by decide +kernel
theorem dX12_fewest_105 : decode cX12_fewest 105 = .ok (.iload 4, 2) := by decide +kernel
theorem dX12_fewest_107 : decode cX12_fewest 107 = .ok (.iconst 1, 1) := by decide +kernel
theorem dX12_fewest_108 : decode cX12_fewest 108 = .ok (.aload_n 0, 1) := by decide +kernel
theorem dX12_fewest_109 : decode cX12_fewest 109 = .ok (.getfield 112, 3) := by decide +kernel
theorem dX12_fewest_112 : decode cX12_fewest 112 = .ok (.ishl, 1) := by decide +kernel
theorem dX12_fewest_113 : decode cX12_fewest 113 = .ok (.if_icmp .ge 52, 3) := by decide +kernel
theorem dX12_fewest_116 : decode cX12_fewest 116 = .ok (.iload 4, 2) := by decide +kernel
theorem dX12_fewest_118 : decode cX12_fewest 118 = .ok (.aload_n 0, 1) := by decide +kernel
theorem dX12_fewest_119 : decode cX12_fewest 119 = .ok (.invokevirtual 304, 3) := by decide +kernel
theorem dX12_fewest_122 : decode cX12_fewest 122 = .ok (.iconst (-1), 1) := by decide +kernel
theorem dX12_fewest_123 : decode cX12_fewest 123 = .ok (.ixor, 1) := by decide +kernel
theorem dX12_fewest_124 : decode cX12_fewest 124 = .ok (.iand, 1) := by decide +kernel
theorem dX12_fewest_125 : decode cX12_fewest 125 = .ok (.ifCond .ne 34, 3) := by decide +kernel
theorem dX12_fewest_128 : decode cX12_fewest 128 = .ok (.iload_n 3, 1) := by decide +kernel
theorem dX12_fewest_129 : decode cX12_fewest 129 = .ok (.iconst (-1), 1) := by decide +kernel
theorem dX12_fewest_130 : decode cX12_fewest 130 = .ok (.if_icmp .eq 17, 3) := by decide +kernel
theorem dX12_fewest_133 : decode cX12_fewest 133 = .ok (.aload_n 0, 1) := by decide +kernel
theorem dX12_fewest_134 : decode cX12_fewest 134 = .ok (.iload 4, 2) := by decide +kernel
theorem dX12_fewest_136 : decode cX12_fewest 136 = .ok (.invokevirtual 307, 3) := by decide +kernel
theorem dX12_fewest_139 : decode cX12_fewest 139 = .ok (.aload_n 0, 1) := by decide +kernel
theorem dX12_fewest_140 : decode cX12_fewest 140 = .ok (.iload_n 3, 1) := by decide +kernel
theorem dX12_fewest_141 : decode cX12_fewest 141 = .ok (.invokevirtual 307, 3) := by decide +kernel
theorem dX12_fewest_144 : decode cX12_fewest 144 = .ok (.if_icmp .ge 15, 3) := by decide +kernel
theorem dX12_fewest_147 : decode cX12_fewest 147 = .ok (.aload_n 0, 1) := by decide +kernel
theorem dX12_fewest_148 : decode cX12_fewest 148 = .ok (.iload 4, 2) := by decide +kernel
theorem dX12_fewest_150 : decode cX12_fewest 150 = .ok (.invokevirtual 310, 3) := by decide +kernel
theorem dX12_fewest_153 : decode cX12_fewest 153 = .ok (.ifCond .eq 6, 3) := by decide +kernel
theorem dX12_fewest_156 : decode cX12_fewest 156 = .ok (.iload 4, 2) := by decide +kernel
theorem dX12_fewest_158 : decode cX12_fewest 158 = .ok (.istore_n 3, 1) := by decide +kernel
theorem dX12_fewest_159 : decode cX12_fewest 159 = .ok (.iinc 4 1, 3) := by decide +kernel
theorem dX12_fewest_162 : decode cX12_fewest 162 = .ok (.goto (-57), 3) := by decide +kernel
theorem dX12_fewest_165 : decode cX12_fewest 165 = .ok (.iload_n 1, 1) := by decide +kernel
theorem dX12_fewest_166 : decode cX12_fewest 166 = .ok (.ifCond .eq 8, 3) := by decide +kernel
theorem dX12_fewest_169 : decode cX12_fewest 169 = .ok (.iload_n 3, 1) := by decide +kernel
theorem dX12_fewest_170 : decode cX12_fewest 170 = .ok (.iconst (-1), 1) := by decide +kernel
theorem dX12_fewest_171 : decode cX12_fewest 171 = .ok (.if_icmp .ne 5, 3) := by decide +kernel
theorem dX12_fewest_174 : decode cX12_fewest 174 = .ok (.iload_n 3, 1) := by decide +kernel
theorem dX12_fewest_175 : decode cX12_fewest 175 = .ok (.ireturn, 1) := by decide +kernel
theorem dX12_fewest_176 : decode cX12_fewest 176 = .ok (.aload_n 0, 1) := by decide +kernel
theorem dX12_fewest_177 : decode cX12_fewest 177 = .ok (.getfield 98, 3) := by decide +kernel
theorem dX12_fewest_180 : decode cX12_fewest 180 = .ok (.iload_n 2, 1) := by decide +kernel
theorem dX12_fewest_181 : decode cX12_fewest 181 = .ok (.iaload, 1) := by decide +kernel
theorem dX12_fewest_182 : decode cX12_fewest 182 = .ok (.sipush 4096, 3) := by decide +kernel
theorem dX12_fewest_185 : decode cX12_fewest 185 = .ok (.iand, 1) := by decide +kernel
theorem dX12_fewest_186 : decode cX12_fewest 186 = .ok (.ifCond .eq 5, 3) := by decide +kernel
theorem dX12_fewest_189 : decode cX12_fewest 189 = .ok (.iconst (-1), 1) := by decide +kernel
theorem dX12_fewest_190 : decode cX12_fewest 190 = .ok (.ireturn, 1) := by decide +kernel
theorem dX12_fewest_191 : decode cX12_fewest 191 = .ok (.iconst 0, 1) := by decide +kernel
theorem dX12_fewest_192 : decode cX12_fewest 192 = .ok (.istore 4, 2) := by decide +kernel
theorem dX12_fewest_194 : decode cX12_fewest 194 = .ok (.aload_n 0, 1) := by decide +kernel
theorem dX12_fewest_195 : decode cX12_fewest 195 = .ok (.getfield 98, 3) := by decide +kernel
theorem dX12_fewest_198 : decode cX12_fewest 198 = .ok (.iload_n 2, 1) := by decide +kernel
theorem dX12_fewest_199 : decode cX12_fewest 199 = .ok (.iaload, 1) := by decide +kernel
theorem dX12_fewest_200 : decode cX12_fewest 200 = .ok (.iload_n 3, 1) := by decide +kernel
theorem dX12_fewest_201 : decode cX12_fewest 201 = .ok (.iand, 1) := by decide +kernel
theorem dX12_fewest_202 : decode cX12_fewest 202 = .ok (.iconst 1, 1) := by decide +kernel
theorem dX12_fewest_203 : decode cX12_fewest 203 = .ok (.iload 4, 2) := by decide +kernel
theorem dX12_fewest_205 : decode cX12_fewest 205 = .ok (.ishl, 1) := by decide +kernel
theorem dX12_fewest_206 : decode cX12_fewest 206 = .ok (.iand, 1) := by decide +kernel
theorem dX12_fewest_207 : decode cX12_fewest 207 = .ok (.ifCond .ne 12, 3) := by decide +kernel
theorem dX12_fewest_210 : decode cX12_fewest 210 = .ok (.iload 4, 2) := by decide +kernel
theorem dX12_fewest_212 : decode cX12_fewest 212 = .ok (.iconst 1, 1) := by decide +kernel
theorem dX12_fewest_213 : decode cX12_fewest 213 = .ok (.iadd, 1) := by decide +kernel
theorem dX12_fewest_214 : decode cX12_fewest 214 = .ok (.istore 4, 2) := by decide +kernel
theorem dX12_fewest_216 : decode cX12_fewest 216 = .ok (.goto (-22), 3) := by decide +kernel
theorem dX12_fewest_219 : decode cX12_fewest 219 = .ok (.iload 4, 2) := by decide +kernel
theorem dX12_fewest_221 : decode cX12_fewest 221 = .ok (.ireturn, 1) := by decide +kernel
theorem dX12_thumbs_0 : decode cX12_thumbs 0 = .ok (.aload_n 0, 1) := by decide +kernel
theorem dX12_thumbs_1 : decode cX12_thumbs 1 = .ok (.iconst 0, 1) := by decide +kernel
theorem dX12_thumbs_2 : decode cX12_thumbs 2 = .ok (.putfield 104, 3) := by decide +kernel
theorem dX12_thumbs_5 : decode cX12_thumbs 5 = .ok (.aload_n 0, 1) := by decide +kernel
theorem dX12_thumbs_6 : decode cX12_thumbs 6 = .ok (.iload_n 1, 1) := by decide +kernel
theorem dX12_thumbs_7 : decode cX12_thumbs 7 = .ok (.invokevirtual 140, 3) := by decide +kernel
theorem dX12_thumbs_10 : decode cX12_thumbs 10 = .ok (.ifCond .eq 25, 3) := by decide +kernel
theorem dX12_thumbs_13 : decode cX12_thumbs 13 = .ok (.aload_n 0, 1) := by decide +kernel
theorem dX12_thumbs_14 : decode cX12_thumbs 14 = .ok (.iload_n 2, 1) := by decide +kernel
theorem dX12_thumbs_15 : decode cX12_thumbs 15 = .ok (.iconst 0, 1) := by decide +kernel
theorem dX12_thumbs_16 : decode cX12_thumbs 16 = .ok (.sipush 999, 3) := by decide +kernel
theorem dX12_thumbs_19 : decode cX12_thumbs 19 = .ok (.invokevirtual 116, 3) := by decide +kernel
theorem dX12_thumbs_22 : decode cX12_thumbs 22 = .ok (.ifCond .eq 13, 3) := by decide +kernel
theorem dX12_thumbs_25 : decode cX12_thumbs 25 = .ok (.aload_n 0, 1) := by decide +kernel
theorem dX12_thumbs_26 : decode cX12_thumbs 26 = .ok (.iload_n 3, 1) := by decide +kernel
theorem dX12_thumbs_27 : decode cX12_thumbs 27 = .ok (.iconst 0, 1) := by decide +kernel
theorem dX12_thumbs_28 : decode cX12_thumbs 28 = .ok (.iconst 2, 1) := by decide +kernel
theorem dX12_thumbs_29 : decode cX12_thumbs 29 = .ok (.invokevirtual 116, 3) := by decide +kernel
theorem dX12_thumbs_32 : decode cX12_thumbs 32 = .ok (.ifCond .ne 5, 3) := by decide +kernel
theorem dX12_thumbs_35 : decode cX12_thumbs 35 = .ok (.iconst (-1), 1) := by decide +kernel
theorem dX12_thumbs_36 : decode cX12_thumbs 36 = .ok (.ireturn, 1) := by decide +kernel
theorem dX12_thumbs_37 : decode cX12_thumbs 37 = .ok (.aload_n 0, 1) := by decide +kernel
theorem dX12_thumbs_38 : decode cX12_thumbs 38 = .ok (.getfield 28, 3) := by decide +kernel
theorem dX12_thumbs_41 : decode cX12_thumbs 41 = .ok (.iload_n 1, 1) := by decide +kernel
theorem dX12_thumbs_42 : decode cX12_thumbs 42 = .ok (.iaload, 1) := by decide +kernel
theorem dX12_thumbs_43 : decode cX12_thumbs 43 = .ok (.istore 4, 2) := by decide +kernel
theorem dX12_thumbs_45 : decode cX12_thumbs 45 = .ok (.aload_n 0, 1) := by decide +kernel
theorem dX12_thumbs_46 : decode cX12_thumbs 46 = .ok (.getfield 127, 3) := by decide +kernel
theorem dX12_thumbs_49 : decode cX12_thumbs 49 = .ok (.bipush 99, 2) := by decide +kernel
theorem dX12_thumbs_51 : decode cX12_thumbs 51 = .ok (.isub, 1) := by decide +kernel
theorem dX12_thumbs_52 : decode cX12_thumbs 52 = .ok (.iload 4, 2) := by decide +kernel
theorem dX12_thumbs_54 : decode cX12_thumbs 54 = .ok (.if_icmp .le 13, 3) := by decide +kernel
theorem dX12_thumbs_57 : decode cX12_thumbs 57 = .ok (.aload_n 0, 1) := by decide +kernel
theorem dX12_thumbs_58 : decode cX12_thumbs 58 = .ok (.getfield 127, 3) := by decide +kernel
theorem dX12_thumbs_61 : decode cX12_thumbs 61 = .ok (.bipush 99, 2) := by decide +kernel
theorem dX12_thumbs_63 : decode cX12_thumbs 63 = .ok (.isub, 1) := by decide +kernel
theorem dX12_thumbs_64 : decode cX12_thumbs 64 = .ok (.goto 5, 3) := by decide +kernel
theorem dX12_thumbs_67 : decode cX12_thumbs 67 = .ok (.iload 4, 2) := by decide +kernel
theorem dX12_thumbs_69 : decode cX12_thumbs 69 = .ok (.istore 4, 2) := by decide +kernel
theorem dX12_thumbs_71 : decode cX12_thumbs 71 = .ok (.iconst 0, 1) := by decide +kernel
theorem dX12_thumbs_72 : decode cX12_thumbs 72 = .ok (.istore 5, 2) := by decide +kernel
theorem dX12_thumbs_74 : decode cX12_thumbs 74 = .ok (.iconst (-1), 1) := by decide +kernel
theorem dX12_thumbs_75 : decode cX12_thumbs 75 = .ok (.istore 6, 2) := by decide +kernel
theorem dX12_thumbs_77 : decode cX12_thumbs 77 = .ok (.iconst (-1), 1) := by decide +kernel
theorem dX12_thumbs_78 : decode cX12_thumbs 78 = .ok (.istore 7, 2) := by decide +kernel
theorem dX12_thumbs_80 : decode cX12_thumbs 80 = .ok (.iconst 0, 1) := by decide +kernel
theorem dX12_thumbs_81 : decode cX12_thumbs 81 = .ok (.istore 8, 2) := by decide +kernel
theorem dX12_thumbs_83 : decode cX12_thumbs 83 = .ok (.iload 8, 2) := by decide +kernel
theorem dX12_thumbs_85 : decode cX12_thumbs 85 = .ok (.aload_n 0, 1) := by decide +kernel
theorem dX12_thumbs_86 : decode cX12_thumbs 86 = .ok (.getfield 112, 3) := by decide +kernel
theorem dX12_thumbs_89 : decode cX12_thumbs 89 = .ok (.if_icmp .ge 109, 3) := by decide +kernel
theorem dX12_thumbs_92 : decode cX12_thumbs 92 = .ok (.iload 4, 2) := by decide +kernel
theorem dX12_thumbs_94 : decode cX12_thumbs 94 = .ok (.istore 9, 2) := by decide +kernel
theorem dX12_thumbs_96 : decode cX12_thumbs 96 = .ok (.iload 9, 2) := by decide +kernel
theorem dX12_thumbs_98 : decode cX12_thumbs 98 = .ok (.aload_n 0, 1) := by decide +kernel
theorem dX12_thumbs_99 : decode cX12_thumbs 99 = .ok (.getfield 127, 3) := by decide +kernel
theorem dX12_thumbs_102 : decode cX12_thumbs 102 = .ok (.if_icmp .gt 90, 3) := by decide +kernel
theorem dX12_thumbs_105 : decode cX12_thumbs 105 = .ok (.aload_n 0, 1) := by decide +kernel
theorem dX12_thumbs_106 : decode cX12_thumbs 106 = .ok (.iload 8, 2) := by decide +kernel
theorem dX12_thumbs_108 : decode cX12_thumbs 108 = .ok (.iload 9, 2) := by decide +kernel
theorem dX12_thumbs_110 : decode cX12_thumbs 110 = .ok (.invokevirtual 143, 3) := by decide +kernel
theorem dX12_thumbs_113 : decode cX12_thumbs 113 = .ok (.ifCond .ne 6, 3) := by decide +kernel
theorem dX12_thumbs_116 : decode cX12_thumbs 116 = .ok (.goto 70, 3) := by decide +kernel
theorem dX12_thumbs_119 : decode cX12_thumbs 119 = .ok (.aload_n 0, 1) := by decide +kernel
theorem dX12_thumbs_120 : decode cX12_thumbs 120 = .ok (.iload_n 1, 1) := by decide +kernel
theorem dX12_thumbs_121 : decode cX12_thumbs 121 = .ok (.invokevirtual 292, 3) := by decide +kernel
theorem dX12_thumbs_124 : decode cX12_thumbs 124 = .ok (.aload_n 0, 1) := by decide +kernel
theorem dX12_thumbs_125 : decode cX12_thumbs 125 = .ok (.bipush 12, 2) := by decide +kernel
theorem dX12_thumbs_127 : decode cX12_thumbs 127 = .ok (.iload 8, 2) := by decide +kernel
theorem dX12_thumbs_129 : decode cX12_thumbs 129 = .ok (.iload 9, 2) := by decide +kernel
theorem dX12_thumbs_131 : decode cX12_thumbs 131 = .ok (.invokevirtual 266, 3) := by decide +kernel
theorem dX12_thumbs_134 : decode cX12_thumbs 134 = .ok (.aload_n 0, 1) := by decide +kernel
theorem dX12_thumbs_135 : decode cX12_thumbs 135 = .ok (.bipush 12, 2) := by decide +kernel
theorem dX12_thumbs_137 : decode cX12_thumbs 137 = .ok (.iload_n 1, 1) := by decide +kernel
theorem dX12_thumbs_138 : decode cX12_thumbs 138 = .ok (.aload_n 0, 1) := by decide +kernel
theorem dX12_thumbs_139 : decode cX12_thumbs 139 = .ok (.getfield 127, 3) := by decide +kernel
theorem dX12_thumbs_142 : decode cX12_thumbs 142 = .ok (.invokevirtual 257, 3) := by decide +kernel
theorem dX12_thumbs_145 : decode cX12_thumbs 145 = .ok (.iload_n 2, 1) := by decide +kernel
theorem dX12_thumbs_146 : decode cX12_thumbs 146 = .ok (.if_icmp .eq 6, 3) := by decide +kernel
theorem dX12_thumbs_149 : decode cX12_thumbs 149 = .ok (.goto 37, 3) := by decide +kernel
theorem dX12_thumbs_152 : decode cX12_thumbs 152 = .ok (.iload 5, 2) := by decide +kernel
theorem dX12_thumbs_154 : decode cX12_thumbs 154 = .ok (.ifCond .ne 8, 3) := by decide +kernel
theorem dX12_thumbs_157 : decode cX12_thumbs 157 = .ok (.iload 8, 2) := by decide +kernel
theorem dX12_thumbs_159 : decode cX12_thumbs 159 = .ok (.goto 5, 3) := by decide +kernel
theorem dX12_thumbs_162 : decode cX12_thumbs 162 = .ok (.iload 6, 2) := by decide +kernel
theorem dX12_thumbs_164 : decode cX12_thumbs 164 = .ok (.istore 6, 2) := by decide +kernel
theorem dX12_thumbs_166 : decode cX12_thumbs 166 = .ok (.iload 5, 2) := by decide +kernel
theorem dX12_thumbs_168 : decode cX12_thumbs 168 = .ok (.ifCond .ne 8, 3) := by decide +kernel
theorem dX12_thumbs_171 : decode cX12_thumbs 171 = .ok (.iload 9, 2) := by decide +kernel
theorem dX12_thumbs_173 : decode cX12_thumbs 173 = .ok (.goto 5, 3) := by decide +kernel
theorem dX12_thumbs_176 : decode cX12_thumbs 176 = .ok (.iload 7, 2) := by decide +kernel
theorem dX12_thumbs_178 : decode cX12_thumbs 178 = .ok (.istore 7, 2) := by decide +kernel
theorem dX12_thumbs_180 : decode cX12_thumbs 180 = .ok (.iload 5, 2) := by decide +kernel
theorem dX12_thumbs_182 : decode cX12_thumbs 182 = .ok (.iconst 1, 1) := by decide +kernel
theorem dX12_thumbs_183 : decode cX12_thumbs 183 = .ok (.iadd, 1) := by decide +kernel
theorem dX12_thumbs_184 : decode cX12_thumbs 184 = .ok (.istore 5, 2) := by decide +kernel
theorem dX12_thumbs_186 : decode cX12_thumbs 186 = .ok (.iinc 9 1, 3) := by decide +kernel
theorem dX12_thumbs_189 : decode cX12_thumbs 189 = .ok (.goto (-93), 3) := by decide +kernel
theorem dX12_thumbs_192 : decode cX12_thumbs 192 = .ok (.iinc 8 1, 3) := by decide +kernel
theorem dX12_thumbs_195 : decode cX12_thumbs 195 = .ok (.goto (-112), 3) := by decide +kernel
theorem dX12_thumbs_198 : decode cX12_thumbs 198 = .ok (.iload_n 3, 1) := by decide +kernel
theorem dX12_thumbs_199 : decode cX12_thumbs 199 = .ok (.ifCond .ne 8, 3) := by decide +kernel
theorem dX12_thumbs_202 : decode cX12_thumbs 202 = .ok (.iload 5, 2) := by decide +kernel
theorem dX12_thumbs_204 : decode cX12_thumbs 204 = .ok (.goto 15, 3) := by decide +kernel
theorem dX12_thumbs_207 : decode cX12_thumbs 207 = .ok (.iload_n 3, 1) := by decide +kernel
theorem dX12_thumbs_208 : decode cX12_thumbs 208 = .ok (.iconst 1, 1) := by decide +kernel
theorem dX12_thumbs_209 : decode cX12_thumbs 209 = .ok (.if_icmp .ne 8, 3) := by decide +kernel
theorem dX12_thumbs_212 : decode cX12_thumbs 212 = .ok (.iload 6, 2) := by decide +kernel
theorem dX12_thumbs_214 : decode cX12_thumbs 214 = .ok (.goto 5, 3) := by decide +kernel
theorem dX12_thumbs_217 : decode cX12_thumbs 217 = .ok (.iload 7, 2) := by decide +kernel
theorem dX12_thumbs_219 : decode cX12_thumbs 219 = .ok (.ireturn, 1) := by decide +kernel
theorem dX12_without_0 : decode cX12_without 0 = .ok (.iload_n 1, 1) := by decide +kernel
theorem dX12_without_1 : decode cX12_without 1 = .ok (.ifCond .ge 8, 3) := by decide +kernel
theorem dX12_without_4 : decode cX12_without 4 = .ok (.iload_n 1, 1) := by decide +kernel
theorem dX12_without_5 : decode cX12_without 5 = .ok (.ineg, 1) := by decide +kernel
theorem dX12_without_6 : decode cX12_without 6 = .ok (.goto 4, 3) := by decide +kernel
theorem dX12_without_9 : decode cX12_without 9 = .ok (.iload_n 1, 1) := by decide +kernel
theorem dX12_without_10 : decode cX12_without 10 = .ok (.ireturn, 1) := by decide +kernel
theorem dX12_leaps_0 : decode cX12_leaps 0 = .ok (.aload_n 0, 1) := by decide +kernel
theorem dX12_leaps_1 : decode cX12_leaps 1 = .ok (.iconst 0, 1) := by decide +kernel
theorem dX12_leaps_2 : decode cX12_leaps 2 = .ok (.putfield 104, 3) := by decide +kernel
theorem dX12_leaps_5 : decode cX12_leaps 5 = .ok (.aload_n 0, 1) := by decide +kernel
theorem dX12_leaps_6 : decode cX12_leaps 6 = .ok (.iload_n 1, 1) := by decide +kernel
theorem dX12_leaps_7 : decode cX12_leaps 7 = .ok (.iconst 0, 1) := by decide +kernel
theorem dX12_leaps_8 : decode cX12_leaps 8 = .ok (.iconst 3, 1) := by decide +kernel
theorem dX12_leaps_9 : decode cX12_leaps 9 = .ok (.invokevirtual 116, 3) := by decide +kernel
theorem dX12_leaps_12 : decode cX12_leaps 12 = .ok (.ifCond .eq 25, 3) := by decide +kernel
theorem dX12_leaps_15 : decode cX12_leaps 15 = .ok (.aload_n 0, 1) := by decide +kernel
theorem dX12_leaps_16 : decode cX12_leaps 16 = .ok (.iload_n 2, 1) := by decide +kernel
theorem dX12_leaps_17 : decode cX12_leaps 17 = .ok (.iconst 0, 1) := by decide +kernel
theorem dX12_leaps_18 : decode cX12_leaps 18 = .ok (.sipush 999, 3) := by decide +kernel
theorem dX12_leaps_21 : decode cX12_leaps 21 = .ok (.invokevirtual 116, 3) := by decide +kernel
theorem dX12_leaps_24 : decode cX12_leaps 24 = .ok (.ifCond .eq 13, 3) := by decide +kernel
theorem dX12_leaps_27 : decode cX12_leaps 27 = .ok (.aload_n 0, 1) := by decide +kernel
theorem dX12_leaps_28 : decode cX12_leaps 28 = .ok (.iload_n 3, 1) := by decide +kernel
theorem dX12_leaps_29 : decode cX12_leaps 29 = .ok (.iconst 0, 1) := by decide +kernel
theorem dX12_leaps_30 : decode cX12_leaps 30 = .ok (.iconst 1, 1) := by decide +kernel
theorem dX12_leaps_31 : decode cX12_leaps 31 = .ok (.invokevirtual 116, 3) := by decide +kernel
theorem dX12_leaps_34 : decode cX12_leaps 34 = .ok (.ifCond .ne 5, 3) := by decide +kernel
theorem dX12_leaps_37 : decode cX12_leaps 37 = .ok (.iconst (-1), 1) := by decide +kernel
theorem dX12_leaps_38 : decode cX12_leaps 38 = .ok (.ireturn, 1) := by decide +kernel
theorem dX12_leaps_39 : decode cX12_leaps 39 = .ok (.iconst 0, 1) := by decide +kernel
theorem dX12_leaps_40 : decode cX12_leaps 40 = .ok (.istore 4, 2) := by decide +kernel
theorem dX12_leaps_42 : decode cX12_leaps 42 = .ok (.iconst (-1), 1) := by decide +kernel
theorem dX12_leaps_43 : decode cX12_leaps 43 = .ok (.istore 5, 2) := by decide +kernel
theorem dX12_leaps_45 : decode cX12_leaps 45 = .ok (.iconst 0, 1) := by decide +kernel
theorem dX12_leaps_46 : decode cX12_leaps 46 = .ok (.istore 6, 2) := by decide +kernel
theorem dX12_leaps_48 : decode cX12_leaps 48 = .ok (.iload 6, 2) := by decide +kernel
theorem dX12_leaps_50 : decode cX12_leaps 50 = .ok (.aload_n 0, 1) := by decide +kernel
theorem dX12_leaps_51 : decode cX12_leaps 51 = .ok (.getfield 260, 3) := by decide +kernel
theorem dX12_leaps_54 : decode cX12_leaps 54 = .ok (.if_icmp .ge 83, 3) := by decide +kernel
theorem dX12_leaps_57 : decode cX12_leaps 57 = .ok (.aload_n 0, 1) := by decide +kernel
theorem dX12_leaps_58 : decode cX12_leaps 58 = .ok (.getfield 19, 3) := by decide +kernel
theorem dX12_leaps_61 : decode cX12_leaps 61 = .ok (.aload_n 0, 1) := by decide +kernel
theorem dX12_leaps_62 : decode cX12_leaps 62 = .ok (.getfield 46, 3) := by decide +kernel
theorem dX12_leaps_65 : decode cX12_leaps 65 = .ok (.iconst 5, 1) := by decide +kernel
theorem dX12_leaps_66 : decode cX12_leaps 66 = .ok (.iload 6, 2) := by decide +kernel
theorem dX12_leaps_68 : decode cX12_leaps 68 = .ok (.imul, 1) := by decide +kernel
theorem dX12_leaps_69 : decode cX12_leaps 69 = .ok (.iconst 1, 1) := by decide +kernel
theorem dX12_leaps_70 : decode cX12_leaps 70 = .ok (.iadd, 1) := by decide +kernel
theorem dX12_leaps_71 : decode cX12_leaps 71 = .ok (.iaload, 1) := by decide +kernel
theorem dX12_leaps_72 : decode cX12_leaps 72 = .ok (.iaload, 1) := by decide +kernel
theorem dX12_leaps_73 : decode cX12_leaps 73 = .ok (.iload_n 1, 1) := by decide +kernel
theorem dX12_leaps_74 : decode cX12_leaps 74 = .ok (.if_icmp .ne 57, 3) := by decide +kernel
theorem dX12_leaps_77 : decode cX12_leaps 77 = .ok (.aload_n 0, 1) := by decide +kernel
theorem dX12_leaps_78 : decode cX12_leaps 78 = .ok (.aload_n 0, 1) := by decide +kernel
theorem dX12_leaps_79 : decode cX12_leaps 79 = .ok (.getfield 46, 3) := by decide +kernel
theorem dX12_leaps_82 : decode cX12_leaps 82 = .ok (.iconst 5, 1) := by decide +kernel
theorem dX12_leaps_83 : decode cX12_leaps 83 = .ok (.iload 6, 2) := by decide +kernel
theorem dX12_leaps_85 : decode cX12_leaps 85 = .ok (.imul, 1) := by decide +kernel
theorem dX12_leaps_86 : decode cX12_leaps 86 = .ok (.iconst 3, 1) := by decide +kernel
theorem dX12_leaps_87 : decode cX12_leaps 87 = .ok (.iadd, 1) := by decide +kernel
theorem dX12_leaps_88 : decode cX12_leaps 88 = .ok (.iaload, 1) := by decide +kernel
theorem dX12_leaps_89 : decode cX12_leaps 89 = .ok (.aload_n 0, 1) := by decide +kernel
theorem dX12_leaps_90 : decode cX12_leaps 90 = .ok (.getfield 46, 3) := by decide +kernel
theorem dX12_leaps_93 : decode cX12_leaps 93 = .ok (.iconst 5, 1) := by decide +kernel
theorem dX12_leaps_94 : decode cX12_leaps 94 = .ok (.iload 6, 2) := by decide +kernel
theorem dX12_leaps_96 : decode cX12_leaps 96 = .ok (.imul, 1) := by decide +kernel
theorem dX12_leaps_97 : decode cX12_leaps 97 = .ok (.iconst 4, 1) := by decide +kernel
theorem dX12_leaps_98 : decode cX12_leaps 98 = .ok (.iadd, 1) := by decide +kernel
theorem dX12_leaps_99 : decode cX12_leaps 99 = .ok (.iaload, 1) := by decide +kernel
theorem dX12_leaps_100 : decode cX12_leaps 100 = .ok (.isub, 1) := by decide +kernel
theorem dX12_leaps_101 : decode cX12_leaps 101 = .ok (.invokevirtual 313, 3) := by decide +kernel
theorem dX12_leaps_104 : decode cX12_leaps 104 = .ok (.iload_n 2, 1) := by decide +kernel
theorem dX12_leaps_105 : decode cX12_leaps 105 = .ok (.if_icmp .ge 6, 3) := by decide +kernel
theorem dX12_leaps_108 : decode cX12_leaps 108 = .ok (.goto 23, 3) := by decide +kernel
theorem dX12_leaps_111 : decode cX12_leaps 111 = .ok (.iload 4, 2) := by decide +kernel
theorem dX12_leaps_113 : decode cX12_leaps 113 = .ok (.ifCond .ne 8, 3) := by decide +kernel
theorem dX12_leaps_116 : decode cX12_leaps 116 = .ok (.iload 6, 2) := by decide +kernel
theorem dX12_leaps_118 : decode cX12_leaps 118 = .ok (.goto 5, 3) := by decide +kernel
theorem dX12_leaps_121 : decode cX12_leaps 121 = .ok (.iload 5, 2) := by decide +kernel
theorem dX12_leaps_123 : decode cX12_leaps 123 = .ok (.istore 5, 2) := by decide +kernel
theorem dX12_leaps_125 : decode cX12_leaps 125 = .ok (.iload 4, 2) := by decide +kernel
theorem dX12_leaps_127 : decode cX12_leaps 127 = .ok (.iconst 1, 1) := by decide +kernel
theorem dX12_leaps_128 : decode cX12_leaps 128 = .ok (.iadd, 1) := by decide +kernel
theorem dX12_leaps_129 : decode cX12_leaps 129 = .ok (.istore 4, 2) := by decide +kernel
theorem dX12_leaps_131 : decode cX12_leaps 131 = .ok (.iinc 6 1, 3) := by decide +kernel
theorem dX12_leaps_134 : decode cX12_leaps 134 = .ok (.goto (-86), 3) := by decide +kernel
theorem dX12_leaps_137 : decode cX12_leaps 137 = .ok (.iload_n 3, 1) := by decide +kernel
theorem dX12_leaps_138 : decode cX12_leaps 138 = .ok (.ifCond .ne 8, 3) := by decide +kernel
theorem dX12_leaps_141 : decode cX12_leaps 141 = .ok (.iload 4, 2) := by decide +kernel
theorem dX12_leaps_143 : decode cX12_leaps 143 = .ok (.goto 5, 3) := by decide +kernel
theorem dX12_leaps_146 : decode cX12_leaps 146 = .ok (.iload 5, 2) := by decide +kernel
theorem dX12_leaps_148 : decode cX12_leaps 148 = .ok (.ireturn, 1) := by decide +kernel
theorem dX12_next_0 : decode cX12_next 0 = .ok (.aload_n 0, 1) := by decide +kernel
theorem dX12_next_1 : decode cX12_next 1 = .ok (.iconst 0, 1) := by decide +kernel
theorem dX12_next_2 : decode cX12_next 2 = .ok (.putfield 104, 3) := by decide +kernel
theorem dX12_next_5 : decode cX12_next 5 = .ok (.aload_n 0, 1) := by decide +kernel
theorem dX12_next_6 : decode cX12_next 6 = .ok (.invokevirtual 279, 3) := by decide +kernel
theorem dX12_next_9 : decode cX12_next 9 = .ok (.ireturn, 1) := by decide +kernel
theorem dX12_papersOn_0 : decode cX12_papersOn 0 = .ok (.iconst 0, 1) := by decide +kernel
theorem dX12_papersOn_1 : decode cX12_papersOn 1 = .ok (.istore_n 2, 1) := by decide +kernel
theorem dX12_papersOn_2 : decode cX12_papersOn 2 = .ok (.iconst 0, 1) := by decide +kernel
theorem dX12_papersOn_3 : decode cX12_papersOn 3 = .ok (.istore_n 3, 1) := by decide +kernel
theorem dX12_papersOn_4 : decode cX12_papersOn 4 = .ok (.iload_n 3, 1) := by decide +kernel
theorem dX12_papersOn_5 : decode cX12_papersOn 5 = .ok (.aload_n 0, 1) := by decide +kernel
theorem dX12_papersOn_6 : decode cX12_papersOn 6 = .ok (.getfield 130, 3) := by decide +kernel
theorem dX12_papersOn_9 : decode cX12_papersOn 9 = .ok (.if_icmp .ge 23, 3) := by decide +kernel
theorem dX12_papersOn_12 : decode cX12_papersOn 12 = .ok (.aload_n 0, 1) := by decide +kernel
theorem dX12_papersOn_13 : decode cX12_papersOn 13 = .ok (.getfield 25, 3) := by decide +kernel
theorem dX12_papersOn_16 : decode cX12_papersOn 16 = .ok (.iload_n 3, 1) := by decide +kernel
theorem dX12_papersOn_17 : decode cX12_papersOn 17 = .ok (.iaload, 1) := by decide +kernel
theorem dX12_papersOn_18 : decode cX12_papersOn 18 = .ok (.iload_n 1, 1) := by decide +kernel
theorem dX12_papersOn_19 : decode cX12_papersOn 19 = .ok (.if_icmp .ne 7, 3) := by decide +kernel
theorem dX12_papersOn_22 : decode cX12_papersOn 22 = .ok (.iload_n 2, 1) := by decide +kernel
theorem dX12_papersOn_23 : decode cX12_papersOn 23 = .ok (.iconst 1, 1) := by decide +kernel
theorem dX12_papersOn_24 : decode cX12_papersOn 24 = .ok (.iadd, 1) := by decide +kernel
theorem dX12_papersOn_25 : decode cX12_papersOn 25 = .ok (.istore_n 2, 1) := by decide +kernel
theorem dX12_papersOn_26 : decode cX12_papersOn 26 = .ok (.iinc 3 1, 3) := by decide +kernel
theorem dX12_papersOn_29 : decode cX12_papersOn 29 = .ok (.goto (-25), 3) := by decide +kernel
theorem dX12_papersOn_32 : decode cX12_papersOn 32 = .ok (.iload_n 2, 1) := by decide +kernel
theorem dX12_papersOn_33 : decode cX12_papersOn 33 = .ok (.ireturn, 1) := by decide +kernel
theorem dX12_agesOn_0 : decode cX12_agesOn 0 = .ok (.iconst 0, 1) := by decide +kernel
theorem dX12_agesOn_1 : decode cX12_agesOn 1 = .ok (.istore_n 2, 1) := by decide +kernel
theorem dX12_agesOn_2 : decode cX12_agesOn 2 = .ok (.iconst 0, 1) := by decide +kernel
theorem dX12_agesOn_3 : decode cX12_agesOn 3 = .ok (.istore_n 3, 1) := by decide +kernel
theorem dX12_agesOn_4 : decode cX12_agesOn 4 = .ok (.iload_n 3, 1) := by decide +kernel
theorem dX12_agesOn_5 : decode cX12_agesOn 5 = .ok (.aload_n 0, 1) := by decide +kernel
theorem dX12_agesOn_6 : decode cX12_agesOn 6 = .ok (.getfield 130, 3) := by decide +kernel
theorem dX12_agesOn_9 : decode cX12_agesOn 9 = .ok (.if_icmp .ge 32, 3) := by decide +kernel
theorem dX12_agesOn_12 : decode cX12_agesOn 12 = .ok (.aload_n 0, 1) := by decide +kernel
theorem dX12_agesOn_13 : decode cX12_agesOn 13 = .ok (.getfield 25, 3) := by decide +kernel
theorem dX12_agesOn_16 : decode cX12_agesOn 16 = .ok (.iload_n 3, 1) := by decide +kernel
theorem dX12_agesOn_17 : decode cX12_agesOn 17 = .ok (.iaload, 1) := by decide +kernel
theorem dX12_agesOn_18 : decode cX12_agesOn 18 = .ok (.iload_n 1, 1) := by decide +kernel
theorem dX12_agesOn_19 : decode cX12_agesOn 19 = .ok (.if_icmp .ne 16, 3) := by decide +kernel
theorem dX12_agesOn_22 : decode cX12_agesOn 22 = .ok (.iload_n 2, 1) := by decide +kernel
theorem dX12_agesOn_23 : decode cX12_agesOn 23 = .ok (.aload_n 0, 1) := by decide +kernel
theorem dX12_agesOn_24 : decode cX12_agesOn 24 = .ok (.iload_n 3, 1) := by decide +kernel
theorem dX12_agesOn_25 : decode cX12_agesOn 25 = .ok (.iload_n 3, 1) := by decide +kernel
theorem dX12_agesOn_26 : decode cX12_agesOn 26 = .ok (.aload_n 0, 1) := by decide +kernel
theorem dX12_agesOn_27 : decode cX12_agesOn 27 = .ok (.getfield 127, 3) := by decide +kernel
theorem dX12_agesOn_30 : decode cX12_agesOn 30 = .ok (.invokevirtual 257, 3) := by decide +kernel
theorem dX12_agesOn_33 : decode cX12_agesOn 33 = .ok (.iadd, 1) := by decide +kernel
theorem dX12_agesOn_34 : decode cX12_agesOn 34 = .ok (.istore_n 2, 1) := by decide +kernel
theorem dX12_agesOn_35 : decode cX12_agesOn 35 = .ok (.iinc 3 1, 3) := by decide +kernel
theorem dX12_agesOn_38 : decode cX12_agesOn 38 = .ok (.goto (-34), 3) := by decide +kernel
theorem dX12_agesOn_41 : decode cX12_agesOn 41 = .ok (.iload_n 2, 1) := by decide +kernel
theorem dX12_agesOn_42 : decode cX12_agesOn 42 = .ok (.ireturn, 1) := by decide +kernel
theorem dX12_close_0 : decode cX12_close 0 = .ok (.aload_n 0, 1) := by decide +kernel
theorem dX12_close_1 : decode cX12_close 1 = .ok (.iconst 0, 1) := by decide +kernel
theorem dX12_close_2 : decode cX12_close 2 = .ok (.putfield 104, 3) := by decide +kernel
theorem dX12_close_5 : decode cX12_close 5 = .ok (.iconst (-1), 1) := by decide +kernel
theorem dX12_close_6 : decode cX12_close 6 = .ok (.istore_n 1, 1) := by decide +kernel
theorem dX12_close_7 : decode cX12_close 7 = .ok (.iconst 0, 1) := by decide +kernel
theorem dX12_close_8 : decode cX12_close 8 = .ok (.istore_n 2, 1) := by decide +kernel
theorem dX12_close_9 : decode cX12_close 9 = .ok (.iload_n 2, 1) := by decide +kernel
theorem dX12_close_10 : decode cX12_close 10 = .ok (.iconst 5, 1) := by decide +kernel
theorem dX12_close_11 : decode cX12_close 11 = .ok (.if_icmp .ge 37, 3) := by decide +kernel
theorem dX12_close_14 : decode cX12_close 14 = .ok (.aload_n 0, 1) := by decide +kernel
theorem dX12_close_15 : decode cX12_close 15 = .ok (.iload_n 2, 1) := by decide +kernel
theorem dX12_close_16 : decode cX12_close 16 = .ok (.invokevirtual 316, 3) := by decide +kernel
theorem dX12_close_19 : decode cX12_close 19 = .ok (.ifCond .le 23, 3) := by decide +kernel
theorem dX12_close_22 : decode cX12_close 22 = .ok (.iload_n 1, 1) := by decide +kernel
theorem dX12_close_23 : decode cX12_close 23 = .ok (.iconst (-1), 1) := by decide +kernel
theorem dX12_close_24 : decode cX12_close 24 = .ok (.if_icmp .eq 16, 3) := by decide +kernel
theorem dX12_close_27 : decode cX12_close 27 = .ok (.aload_n 0, 1) := by decide +kernel
theorem dX12_close_28 : decode cX12_close 28 = .ok (.iload_n 2, 1) := by decide +kernel
theorem dX12_close_29 : decode cX12_close 29 = .ok (.invokevirtual 319, 3) := by decide +kernel
theorem dX12_close_32 : decode cX12_close 32 = .ok (.aload_n 0, 1) := by decide +kernel
theorem dX12_close_33 : decode cX12_close 33 = .ok (.iload_n 1, 1) := by decide +kernel
theorem dX12_close_34 : decode cX12_close 34 = .ok (.invokevirtual 319, 3) := by decide +kernel
theorem dX12_close_37 : decode cX12_close 37 = .ok (.if_icmp .le 5, 3) := by decide +kernel
theorem dX12_close_40 : decode cX12_close 40 = .ok (.iload_n 2, 1) := by decide +kernel
theorem dX12_close_41 : decode cX12_close 41 = .ok (.istore_n 1, 1) := by decide +kernel
theorem dX12_close_42 : decode cX12_close 42 = .ok (.iinc 2 1, 3) := by decide +kernel
theorem dX12_close_45 : decode cX12_close 45 = .ok (.goto (-36), 3) := by decide +kernel
theorem dX12_close_48 : decode cX12_close 48 = .ok (.iload_n 1, 1) := by decide +kernel
theorem dX12_close_49 : decode cX12_close 49 = .ok (.ireturn, 1) := by decide +kernel
theorem dX12_mean_0 : decode cX12_mean 0 = .ok (.aload_n 0, 1) := by decide +kernel
theorem dX12_mean_1 : decode cX12_mean 1 = .ok (.iconst 0, 1) := by decide +kernel
theorem dX12_mean_2 : decode cX12_mean 2 = .ok (.putfield 104, 3) := by decide +kernel
theorem dX12_mean_5 : decode cX12_mean 5 = .ok (.aload_n 0, 1) := by decide +kernel
theorem dX12_mean_6 : decode cX12_mean 6 = .ok (.iload_n 1, 1) := by decide +kernel
theorem dX12_mean_7 : decode cX12_mean 7 = .ok (.invokevirtual 133, 3) := by decide +kernel
theorem dX12_mean_10 : decode cX12_mean 10 = .ok (.ifCond .eq 25, 3) := by decide +kernel
theorem dX12_mean_13 : decode cX12_mean 13 = .ok (.aload_n 0, 1) := by decide +kernel
theorem dX12_mean_14 : decode cX12_mean 14 = .ok (.iload_n 1, 1) := by decide +kernel
theorem dX12_mean_15 : decode cX12_mean 15 = .ok (.invokevirtual 316, 3) := by decide +kernel
theorem dX12_mean_18 : decode cX12_mean 18 = .ok (.ifCond .le 17, 3) := by decide +kernel
theorem dX12_mean_21 : decode cX12_mean 21 = .ok (.aload_n 0, 1) := by decide +kernel
theorem dX12_mean_22 : decode cX12_mean 22 = .ok (.iload_n 1, 1) := by decide +kernel
theorem dX12_mean_23 : decode cX12_mean 23 = .ok (.invokevirtual 319, 3) := by decide +kernel
theorem dX12_mean_26 : decode cX12_mean 26 = .ok (.aload_n 0, 1) := by decide +kernel
theorem dX12_mean_27 : decode cX12_mean 27 = .ok (.iload_n 1, 1) := by decide +kernel
theorem dX12_mean_28 : decode cX12_mean 28 = .ok (.invokevirtual 316, 3) := by decide +kernel
theorem dX12_mean_31 : decode cX12_mean 31 = .ok (.idiv, 1) := by decide +kernel
theorem dX12_mean_32 : decode cX12_mean 32 = .ok (.goto 4, 3) := by decide +kernel
theorem dX12_mean_35 : decode cX12_mean 35 = .ok (.iconst (-1), 1) := by decide +kernel
theorem dX12_mean_36 : decode cX12_mean 36 = .ok (.ireturn, 1) := by decide +kernel
theorem dX12_undo_0 : decode cX12_undo 0 = .ok (.aload_n 0, 1) := by decide +kernel
theorem dX12_undo_1 : decode cX12_undo 1 = .ok (.iconst 0, 1) := by decide +kernel
theorem dX12_undo_2 : decode cX12_undo 2 = .ok (.putfield 104, 3) := by decide +kernel
theorem dX12_undo_5 : decode cX12_undo 5 = .ok (.aload_n 0, 1) := by decide +kernel
theorem dX12_undo_6 : decode cX12_undo 6 = .ok (.getfield 120, 3) := by decide +kernel
theorem dX12_undo_9 : decode cX12_undo 9 = .ok (.ifCond .ne 5, 3) := by decide +kernel
theorem dX12_undo_12 : decode cX12_undo 12 = .ok (.iconst 0, 1) := by decide +kernel
theorem dX12_undo_13 : decode cX12_undo 13 = .ok (.ireturn, 1) := by decide +kernel
theorem dX12_undo_14 : decode cX12_undo 14 = .ok (.aload_n 0, 1) := by decide +kernel
theorem dX12_undo_15 : decode cX12_undo 15 = .ok (.aload_n 0, 1) := by decide +kernel
theorem dX12_undo_16 : decode cX12_undo 16 = .ok (.getfield 120, 3) := by decide +kernel
theorem dX12_undo_19 : decode cX12_undo 19 = .ok (.iconst 1, 1) := by decide +kernel
theorem dX12_undo_20 : decode cX12_undo 20 = .ok (.isub, 1) := by decide +kernel
theorem dX12_undo_21 : decode cX12_undo 21 = .ok (.putfield 120, 3) := by decide +kernel
theorem dX12_undo_24 : decode cX12_undo 24 = .ok (.bipush 6, 2) := by decide +kernel
theorem dX12_undo_26 : decode cX12_undo 26 = .ok (.aload_n 0, 1) := by decide +kernel
theorem dX12_undo_27 : decode cX12_undo 27 = .ok (.getfield 120, 3) := by decide +kernel
theorem dX12_undo_30 : decode cX12_undo 30 = .ok (.imul, 1) := by decide +kernel
theorem dX12_undo_31 : decode cX12_undo 31 = .ok (.istore_n 1, 1) := by decide +kernel
theorem dX12_undo_32 : decode cX12_undo 32 = .ok (.aload_n 0, 1) := by decide +kernel
theorem dX12_undo_33 : decode cX12_undo 33 = .ok (.getfield 83, 3) := by decide +kernel
theorem dX12_undo_36 : decode cX12_undo 36 = .ok (.iload_n 1, 1) := by decide +kernel
theorem dX12_undo_37 : decode cX12_undo 37 = .ok (.iaload, 1) := by decide +kernel
theorem dX12_undo_38 : decode cX12_undo 38 = .ok (.istore_n 2, 1) := by decide +kernel
theorem dX12_undo_39 : decode cX12_undo 39 = .ok (.aload_n 0, 1) := by decide +kernel
theorem dX12_undo_40 : decode cX12_undo 40 = .ok (.getfield 31, 3) := by decide +kernel
theorem dX12_undo_43 : decode cX12_undo 43 = .ok (.iload_n 2, 1) := by decide +kernel
theorem dX12_undo_44 : decode cX12_undo 44 = .ok (.aload_n 0, 1) := by decide +kernel
theorem dX12_undo_45 : decode cX12_undo 45 = .ok (.getfield 83, 3) := by decide +kernel
theorem dX12_undo_48 : decode cX12_undo 48 = .ok (.iload_n 1, 1) := by decide +kernel
theorem dX12_undo_49 : decode cX12_undo 49 = .ok (.iconst 1, 1) := by decide +kernel
theorem dX12_undo_50 : decode cX12_undo 50 = .ok (.iadd, 1) := by decide +kernel
theorem dX12_undo_51 : decode cX12_undo 51 = .ok (.iaload, 1) := by decide +kernel
theorem dX12_undo_52 : decode cX12_undo 52 = .ok (.iastore, 1) := by decide +kernel
theorem dX12_undo_53 : decode cX12_undo 53 = .ok (.aload_n 0, 1) := by decide +kernel
theorem dX12_undo_54 : decode cX12_undo 54 = .ok (.getfield 34, 3) := by decide +kernel
theorem dX12_undo_57 : decode cX12_undo 57 = .ok (.iload_n 2, 1) := by decide +kernel
theorem dX12_undo_58 : decode cX12_undo 58 = .ok (.aload_n 0, 1) := by decide +kernel
theorem dX12_undo_59 : decode cX12_undo 59 = .ok (.getfield 83, 3) := by decide +kernel
theorem dX12_undo_62 : decode cX12_undo 62 = .ok (.iload_n 1, 1) := by decide +kernel
theorem dX12_undo_63 : decode cX12_undo 63 = .ok (.iconst 2, 1) := by decide +kernel
theorem dX12_undo_64 : decode cX12_undo 64 = .ok (.iadd, 1) := by decide +kernel
theorem dX12_undo_65 : decode cX12_undo 65 = .ok (.iaload, 1) := by decide +kernel
theorem dX12_undo_66 : decode cX12_undo 66 = .ok (.iastore, 1) := by decide +kernel
theorem dX12_undo_67 : decode cX12_undo 67 = .ok (.aload_n 0, 1) := by decide +kernel
theorem dX12_undo_68 : decode cX12_undo 68 = .ok (.getfield 37, 3) := by decide +kernel
theorem dX12_undo_71 : decode cX12_undo 71 = .ok (.iload_n 2, 1) := by decide +kernel
theorem dX12_undo_72 : decode cX12_undo 72 = .ok (.aload_n 0, 1) := by decide +kernel
theorem dX12_undo_73 : decode cX12_undo 73 = .ok (.getfield 83, 3) := by decide +kernel
theorem dX12_undo_76 : decode cX12_undo 76 = .ok (.iload_n 1, 1) := by decide +kernel
theorem dX12_undo_77 : decode cX12_undo 77 = .ok (.iconst 3, 1) := by decide +kernel
theorem dX12_undo_78 : decode cX12_undo 78 = .ok (.iadd, 1) := by decide +kernel
theorem dX12_undo_79 : decode cX12_undo 79 = .ok (.iaload, 1) := by decide +kernel
theorem dX12_undo_80 : decode cX12_undo 80 = .ok (.iastore, 1) := by decide +kernel
theorem dX12_undo_81 : decode cX12_undo 81 = .ok (.aload_n 0, 1) := by decide +kernel
theorem dX12_undo_82 : decode cX12_undo 82 = .ok (.getfield 40, 3) := by decide +kernel
theorem dX12_undo_85 : decode cX12_undo 85 = .ok (.iload_n 2, 1) := by decide +kernel
theorem dX12_undo_86 : decode cX12_undo 86 = .ok (.aload_n 0, 1) := by decide +kernel
theorem dX12_undo_87 : decode cX12_undo 87 = .ok (.getfield 83, 3) := by decide +kernel
theorem dX12_undo_90 : decode cX12_undo 90 = .ok (.iload_n 1, 1) := by decide +kernel
theorem dX12_undo_91 : decode cX12_undo 91 = .ok (.iconst 4, 1) := by decide +kernel
theorem dX12_undo_92 : decode cX12_undo 92 = .ok (.iadd, 1) := by decide +kernel
theorem dX12_undo_93 : decode cX12_undo 93 = .ok (.iaload, 1) := by decide +kernel
theorem dX12_undo_94 : decode cX12_undo 94 = .ok (.iastore, 1) := by decide +kernel
theorem dX12_undo_95 : decode cX12_undo 95 = .ok (.aload_n 0, 1) := by decide +kernel
theorem dX12_undo_96 : decode cX12_undo 96 = .ok (.aload_n 0, 1) := by decide +kernel
theorem dX12_undo_97 : decode cX12_undo 97 = .ok (.getfield 83, 3) := by decide +kernel
theorem dX12_undo_100 : decode cX12_undo 100 = .ok (.iload_n 1, 1) := by decide +kernel
theorem dX12_undo_101 : decode cX12_undo 101 = .ok (.iconst 5, 1) := by decide +kernel
theorem dX12_undo_102 : decode cX12_undo 102 = .ok (.iadd, 1) := by decide +kernel
theorem dX12_undo_103 : decode cX12_undo 103 = .ok (.iaload, 1) := by decide +kernel
theorem dX12_undo_104 : decode cX12_undo 104 = .ok (.putfield 260, 3) := by decide +kernel
theorem dX12_undo_107 : decode cX12_undo 107 = .ok (.iconst 1, 1) := by decide +kernel
theorem dX12_undo_108 : decode cX12_undo 108 = .ok (.ireturn, 1) := by decide +kernel
theorem dX12_kept_0 : decode cX12_kept 0 = .ok (.aload_n 0, 1) := by decide +kernel
theorem dX12_kept_1 : decode cX12_kept 1 = .ok (.aload_n 0, 1) := by decide +kernel
theorem dX12_kept_2 : decode cX12_kept 2 = .ok (.getfield 322, 3) := by decide +kernel
theorem dX12_kept_5 : decode cX12_kept 5 = .ok (.iconst 1, 1) := by decide +kernel
theorem dX12_kept_6 : decode cX12_kept 6 = .ok (.iadd, 1) := by decide +kernel
theorem dX12_kept_7 : decode cX12_kept 7 = .ok (.putfield 322, 3) := by decide +kernel
theorem dX12_kept_10 : decode cX12_kept 10 = .ok (.aload_n 0, 1) := by decide +kernel
theorem dX12_kept_11 : decode cX12_kept 11 = .ok (.getfield 325, 3) := by decide +kernel
theorem dX12_kept_14 : decode cX12_kept 14 = .ok (.ifCond .ne 15, 3) := by decide +kernel
theorem dX12_kept_17 : decode cX12_kept 17 = .ok (.aload_n 0, 1) := by decide +kernel
theorem dX12_kept_18 : decode cX12_kept 18 = .ok (.getfield 101, 3) := by decide +kernel
theorem dX12_kept_21 : decode cX12_kept 21 = .ok (.aload_n 0, 1) := by decide +kernel
theorem dX12_kept_22 : decode cX12_kept 22 = .ok (.getfield 322, 3) := by decide +kernel
theorem dX12_kept_25 : decode cX12_kept 25 = .ok (.iconst 1, 1) := by decide +kernel
theorem dX12_kept_26 : decode cX12_kept 26 = .ok (.isub, 1) := by decide +kernel
theorem dX12_kept_27 : decode cX12_kept 27 = .ok (.iaload, 1) := by decide +kernel
theorem dX12_kept_28 : decode cX12_kept 28 = .ok (.ireturn, 1) := by decide +kernel
theorem dX12_kept_29 : decode cX12_kept 29 = .ok (.aload_n 0, 1) := by decide +kernel
theorem dX12_kept_30 : decode cX12_kept 30 = .ok (.getfield 101, 3) := by decide +kernel
theorem dX12_kept_33 : decode cX12_kept 33 = .ok (.aload_n 0, 1) := by decide +kernel
theorem dX12_kept_34 : decode cX12_kept 34 = .ok (.getfield 322, 3) := by decide +kernel
theorem dX12_kept_37 : decode cX12_kept 37 = .ok (.iconst 1, 1) := by decide +kernel
theorem dX12_kept_38 : decode cX12_kept 38 = .ok (.isub, 1) := by decide +kernel
theorem dX12_kept_39 : decode cX12_kept 39 = .ok (.iload_n 1, 1) := by decide +kernel
theorem dX12_kept_40 : decode cX12_kept 40 = .ok (.iastore, 1) := by decide +kernel
theorem dX12_kept_41 : decode cX12_kept 41 = .ok (.iload_n 1, 1) := by decide +kernel
theorem dX12_kept_42 : decode cX12_kept 42 = .ok (.ireturn, 1) := by decide +kernel
theorem dX12_keepsPapers_0 : decode cX12_keepsPapers 0 = .ok (.aload_n 0, 1) := by decide +kernel
theorem dX12_keepsPapers_1 : decode cX12_keepsPapers 1 = .ok (.aload_n 0, 1) := by decide +kernel
theorem dX12_keepsPapers_2 : decode cX12_keepsPapers 2 = .ok (.aload_n 0, 1) := by decide +kernel
theorem dX12_keepsPapers_3 : decode cX12_keepsPapers 3 = .ok (.getfield 130, 3) := by decide +kernel
theorem dX12_keepsPapers_6 : decode cX12_keepsPapers 6 = .ok (.invokevirtual 329, 3) := by decide +kernel
theorem dX12_keepsPapers_9 : decode cX12_keepsPapers 9 = .ok (.putfield 130, 3) := by decide +kernel
theorem dX12_keepsPapers_12 : decode cX12_keepsPapers 12 = .ok (.iconst 0, 1) := by decide +kernel
theorem dX12_keepsPapers_13 : decode cX12_keepsPapers 13 = .ok (.istore_n 1, 1) := by decide +kernel
theorem dX12_keepsPapers_14 : decode cX12_keepsPapers 14 = .ok (.iload_n 1, 1) := by decide +kernel
theorem dX12_keepsPapers_15 : decode cX12_keepsPapers 15 = .ok (.bipush 12, 2) := by decide +kernel
theorem dX12_keepsPapers_17 : decode cX12_keepsPapers 17 = .ok (.if_icmp .ge 121, 3) := by decide +kernel
theorem dX12_keepsPapers_20 : decode cX12_keepsPapers 20 = .ok (.aload_n 0, 1) := by decide +kernel
theorem dX12_keepsPapers_21 : decode cX12_keepsPapers 21 = .ok (.getfield 25, 3) := by decide +kernel
theorem dX12_keepsPapers_24 : decode cX12_keepsPapers 24 = .ok (.iload_n 1, 1) := by decide +kernel
theorem dX12_keepsPapers_25 : decode cX12_keepsPapers 25 = .ok (.aload_n 0, 1) := by decide +kernel
theorem dX12_keepsPapers_26 : decode cX12_keepsPapers 26 = .ok (.aload_n 0, 1) := by decide +kernel
theorem dX12_keepsPapers_27 : decode cX12_keepsPapers 27 = .ok (.getfield 25, 3) := by decide +kernel
theorem dX12_keepsPapers_30 : decode cX12_keepsPapers 30 = .ok (.iload_n 1, 1) := by decide +kernel
theorem dX12_keepsPapers_31 : decode cX12_keepsPapers 31 = .ok (.iaload, 1) := by decide +kernel
theorem dX12_keepsPapers_32 : decode cX12_keepsPapers 32 = .ok (.invokevirtual 329, 3) := by decide +kernel
theorem dX12_keepsPapers_35 : decode cX12_keepsPapers 35 = .ok (.iastore, 1) := by decide +kernel
theorem dX12_keepsPapers_36 : decode cX12_keepsPapers 36 = .ok (.aload_n 0, 1) := by decide +kernel
theorem dX12_keepsPapers_37 : decode cX12_keepsPapers 37 = .ok (.getfield 28, 3) := by decide +kernel
theorem dX12_keepsPapers_40 : decode cX12_keepsPapers 40 = .ok (.iload_n 1, 1) := by decide +kernel
theorem dX12_keepsPapers_41 : decode cX12_keepsPapers 41 = .ok (.aload_n 0, 1) := by decide +kernel
theorem dX12_keepsPapers_42 : decode cX12_keepsPapers 42 = .ok (.aload_n 0, 1) := by decide +kernel
theorem dX12_keepsPapers_43 : decode cX12_keepsPapers 43 = .ok (.getfield 28, 3) := by decide +kernel
theorem dX12_keepsPapers_46 : decode cX12_keepsPapers 46 = .ok (.iload_n 1, 1) := by decide +kernel
theorem dX12_keepsPapers_47 : decode cX12_keepsPapers 47 = .ok (.iaload, 1) := by decide +kernel
theorem dX12_keepsPapers_48 : decode cX12_keepsPapers 48 = .ok (.invokevirtual 329, 3) := by decide +kernel
theorem dX12_keepsPapers_51 : decode cX12_keepsPapers 51 = .ok (.iastore, 1) := by decide +kernel
theorem dX12_keepsPapers_52 : decode cX12_keepsPapers 52 = .ok (.aload_n 0, 1) := by decide +kernel
theorem dX12_keepsPapers_53 : decode cX12_keepsPapers 53 = .ok (.getfield 31, 3) := by decide +kernel
theorem dX12_keepsPapers_56 : decode cX12_keepsPapers 56 = .ok (.iload_n 1, 1) := by decide +kernel
theorem dX12_keepsPapers_57 : decode cX12_keepsPapers 57 = .ok (.aload_n 0, 1) := by decide +kernel
theorem dX12_keepsPapers_58 : decode cX12_keepsPapers 58 = .ok (.aload_n 0, 1) := by decide +kernel
theorem dX12_keepsPapers_59 : decode cX12_keepsPapers 59 = .ok (.getfield 31, 3) := by decide +kernel
theorem dX12_keepsPapers_62 : decode cX12_keepsPapers 62 = .ok (.iload_n 1, 1) := by decide +kernel
theorem dX12_keepsPapers_63 : decode cX12_keepsPapers 63 = .ok (.iaload, 1) := by decide +kernel
theorem dX12_keepsPapers_64 : decode cX12_keepsPapers 64 = .ok (.invokevirtual 329, 3) := by decide +kernel
theorem dX12_keepsPapers_67 : decode cX12_keepsPapers 67 = .ok (.iastore, 1) := by decide +kernel
theorem dX12_keepsPapers_68 : decode cX12_keepsPapers 68 = .ok (.aload_n 0, 1) := by decide +kernel
theorem dX12_keepsPapers_69 : decode cX12_keepsPapers 69 = .ok (.getfield 34, 3) := by decide +kernel
theorem dX12_keepsPapers_72 : decode cX12_keepsPapers 72 = .ok (.iload_n 1, 1) := by decide +kernel
theorem dX12_keepsPapers_73 : decode cX12_keepsPapers 73 = .ok (.aload_n 0, 1) := by decide +kernel
theorem dX12_keepsPapers_74 : decode cX12_keepsPapers 74 = .ok (.aload_n 0, 1) := by decide +kernel
theorem dX12_keepsPapers_75 : decode cX12_keepsPapers 75 = .ok (.getfield 34, 3) := by decide +kernel
theorem dX12_keepsPapers_78 : decode cX12_keepsPapers 78 = .ok (.iload_n 1, 1) := by decide +kernel
theorem dX12_keepsPapers_79 : decode cX12_keepsPapers 79 = .ok (.iaload, 1) := by decide +kernel
theorem dX12_keepsPapers_80 : decode cX12_keepsPapers 80 = .ok (.invokevirtual 329, 3) := by decide +kernel
theorem dX12_keepsPapers_83 : decode cX12_keepsPapers 83 = .ok (.iastore, 1) := by decide +kernel
theorem dX12_keepsPapers_84 : decode cX12_keepsPapers 84 = .ok (.aload_n 0, 1) := by decide +kernel
theorem dX12_keepsPapers_85 : decode cX12_keepsPapers 85 = .ok (.getfield 37, 3) := by decide +kernel
theorem dX12_keepsPapers_88 : decode cX12_keepsPapers 88 = .ok (.iload_n 1, 1) := by decide +kernel
theorem dX12_keepsPapers_89 : decode cX12_keepsPapers 89 = .ok (.aload_n 0, 1) := by decide +kernel
theorem dX12_keepsPapers_90 : decode cX12_keepsPapers 90 = .ok (.aload_n 0, 1) := by decide +kernel
theorem dX12_keepsPapers_91 : decode cX12_keepsPapers 91 = .ok (.getfield 37, 3) := by decide +kernel
theorem dX12_keepsPapers_94 : decode cX12_keepsPapers 94 = .ok (.iload_n 1, 1) := by decide +kernel
theorem dX12_keepsPapers_95 : decode cX12_keepsPapers 95 = .ok (.iaload, 1) := by decide +kernel
theorem dX12_keepsPapers_96 : decode cX12_keepsPapers 96 = .ok (.invokevirtual 329, 3) := by decide +kernel
theorem dX12_keepsPapers_99 : decode cX12_keepsPapers 99 = .ok (.iastore, 1) := by decide +kernel
theorem dX12_keepsPapers_100 : decode cX12_keepsPapers 100 = .ok (.aload_n 0, 1) := by decide +kernel
theorem dX12_keepsPapers_101 : decode cX12_keepsPapers 101 = .ok (.getfield 40, 3) := by decide +kernel
theorem dX12_keepsPapers_104 : decode cX12_keepsPapers 104 = .ok (.iload_n 1, 1) := by decide +kernel
theorem dX12_keepsPapers_105 : decode cX12_keepsPapers 105 = .ok (.aload_n 0, 1) := by decide +kernel
theorem dX12_keepsPapers_106 : decode cX12_keepsPapers 106 = .ok (.aload_n 0, 1) := by decide +kernel
theorem dX12_keepsPapers_107 : decode cX12_keepsPapers 107 = .ok (.getfield 40, 3) := by decide +kernel
theorem dX12_keepsPapers_110 : decode cX12_keepsPapers 110 = .ok (.iload_n 1, 1) := by decide +kernel
theorem dX12_keepsPapers_111 : decode cX12_keepsPapers 111 = .ok (.iaload, 1) := by decide +kernel
theorem dX12_keepsPapers_112 : decode cX12_keepsPapers 112 = .ok (.invokevirtual 329, 3) := by decide +kernel
theorem dX12_keepsPapers_115 : decode cX12_keepsPapers 115 = .ok (.iastore, 1) := by decide +kernel
theorem dX12_keepsPapers_116 : decode cX12_keepsPapers 116 = .ok (.aload_n 0, 1) := by decide +kernel
theorem dX12_keepsPapers_117 : decode cX12_keepsPapers 117 = .ok (.getfield 43, 3) := by decide +kernel
theorem dX12_keepsPapers_120 : decode cX12_keepsPapers 120 = .ok (.iload_n 1, 1) := by decide +kernel
theorem dX12_keepsPapers_121 : decode cX12_keepsPapers 121 = .ok (.aload_n 0, 1) := by decide +kernel
theorem dX12_keepsPapers_122 : decode cX12_keepsPapers 122 = .ok (.aload_n 0, 1) := by decide +kernel
theorem dX12_keepsPapers_123 : decode cX12_keepsPapers 123 = .ok (.getfield 43, 3) := by decide +kernel
theorem dX12_keepsPapers_126 : decode cX12_keepsPapers 126 = .ok (.iload_n 1, 1) := by decide +kernel
theorem dX12_keepsPapers_127 : decode cX12_keepsPapers 127 = .ok (.iaload, 1) := by decide +kernel
theorem dX12_keepsPapers_128 : decode cX12_keepsPapers 128 = .ok (.invokevirtual 329, 3) := by decide +kernel
theorem dX12_keepsPapers_131 : decode cX12_keepsPapers 131 = .ok (.iastore, 1) := by decide +kernel
theorem dX12_keepsPapers_132 : decode cX12_keepsPapers 132 = .ok (.iinc 1 1, 3) := by decide +kernel
theorem dX12_keepsPapers_135 : decode cX12_keepsPapers 135 = .ok (.goto (-121), 3) := by decide +kernel
theorem dX12_keepsPapers_138 : decode cX12_keepsPapers 138 = .ok (.aload_n 0, 1) := by decide +kernel
theorem dX12_keepsPapers_139 : decode cX12_keepsPapers 139 = .ok (.aload_n 0, 1) := by decide +kernel
theorem dX12_keepsPapers_140 : decode cX12_keepsPapers 140 = .ok (.aload_n 0, 1) := by decide +kernel
theorem dX12_keepsPapers_141 : decode cX12_keepsPapers 141 = .ok (.getfield 260, 3) := by decide +kernel
theorem dX12_keepsPapers_144 : decode cX12_keepsPapers 144 = .ok (.invokevirtual 329, 3) := by decide +kernel
theorem dX12_keepsPapers_147 : decode cX12_keepsPapers 147 = .ok (.putfield 260, 3) := by decide +kernel
theorem dX12_keepsPapers_150 : decode cX12_keepsPapers 150 = .ok (.iconst 0, 1) := by decide +kernel
theorem dX12_keepsPapers_151 : decode cX12_keepsPapers 151 = .ok (.istore_n 1, 1) := by decide +kernel
theorem dX12_keepsPapers_152 : decode cX12_keepsPapers 152 = .ok (.iload_n 1, 1) := by decide +kernel
theorem dX12_keepsPapers_153 : decode cX12_keepsPapers 153 = .ok (.sipush 600, 3) := by decide +kernel
theorem dX12_keepsPapers_156 : decode cX12_keepsPapers 156 = .ok (.if_icmp .ge 25, 3) := by decide +kernel
theorem dX12_keepsPapers_159 : decode cX12_keepsPapers 159 = .ok (.aload_n 0, 1) := by decide +kernel
theorem dX12_keepsPapers_160 : decode cX12_keepsPapers 160 = .ok (.getfield 46, 3) := by decide +kernel
theorem dX12_keepsPapers_163 : decode cX12_keepsPapers 163 = .ok (.iload_n 1, 1) := by decide +kernel
theorem dX12_keepsPapers_164 : decode cX12_keepsPapers 164 = .ok (.aload_n 0, 1) := by decide +kernel
theorem dX12_keepsPapers_165 : decode cX12_keepsPapers 165 = .ok (.aload_n 0, 1) := by decide +kernel
theorem dX12_keepsPapers_166 : decode cX12_keepsPapers 166 = .ok (.getfield 46, 3) := by decide +kernel
theorem dX12_keepsPapers_169 : decode cX12_keepsPapers 169 = .ok (.iload_n 1, 1) := by decide +kernel
theorem dX12_keepsPapers_170 : decode cX12_keepsPapers 170 = .ok (.iaload, 1) := by decide +kernel
theorem dX12_keepsPapers_171 : decode cX12_keepsPapers 171 = .ok (.invokevirtual 329, 3) := by decide +kernel
theorem dX12_keepsPapers_174 : decode cX12_keepsPapers 174 = .ok (.iastore, 1) := by decide +kernel
theorem dX12_keepsPapers_175 : decode cX12_keepsPapers 175 = .ok (.iinc 1 1, 3) := by decide +kernel
theorem dX12_keepsPapers_178 : decode cX12_keepsPapers 178 = .ok (.goto (-26), 3) := by decide +kernel
theorem dX12_keepsPapers_181 : decode cX12_keepsPapers 181 = .ok (.aload_n 0, 1) := by decide +kernel
theorem dX12_keepsPapers_182 : decode cX12_keepsPapers 182 = .ok (.aload_n 0, 1) := by decide +kernel
theorem dX12_keepsPapers_183 : decode cX12_keepsPapers 183 = .ok (.aload_n 0, 1) := by decide +kernel
theorem dX12_keepsPapers_184 : decode cX12_keepsPapers 184 = .ok (.getfield 289, 3) := by decide +kernel
theorem dX12_keepsPapers_187 : decode cX12_keepsPapers 187 = .ok (.invokevirtual 329, 3) := by decide +kernel
theorem dX12_keepsPapers_190 : decode cX12_keepsPapers 190 = .ok (.putfield 289, 3) := by decide +kernel
theorem dX12_keepsPapers_193 : decode cX12_keepsPapers 193 = .ok (.iconst 0, 1) := by decide +kernel
theorem dX12_keepsPapers_194 : decode cX12_keepsPapers 194 = .ok (.istore_n 1, 1) := by decide +kernel
theorem dX12_keepsPapers_195 : decode cX12_keepsPapers 195 = .ok (.iload_n 1, 1) := by decide +kernel
theorem dX12_keepsPapers_196 : decode cX12_keepsPapers 196 = .ok (.bipush 6, 2) := by decide +kernel
theorem dX12_keepsPapers_198 : decode cX12_keepsPapers 198 = .ok (.if_icmp .ge 73, 3) := by decide +kernel
theorem dX12_keepsPapers_201 : decode cX12_keepsPapers 201 = .ok (.aload_n 0, 1) := by decide +kernel
theorem dX12_keepsPapers_202 : decode cX12_keepsPapers 202 = .ok (.getfield 86, 3) := by decide +kernel
theorem dX12_keepsPapers_205 : decode cX12_keepsPapers 205 = .ok (.iload_n 1, 1) := by decide +kernel
theorem dX12_keepsPapers_206 : decode cX12_keepsPapers 206 = .ok (.aload_n 0, 1) := by decide +kernel
theorem dX12_keepsPapers_207 : decode cX12_keepsPapers 207 = .ok (.aload_n 0, 1) := by decide +kernel
theorem dX12_keepsPapers_208 : decode cX12_keepsPapers 208 = .ok (.getfield 86, 3) := by decide +kernel
theorem dX12_keepsPapers_211 : decode cX12_keepsPapers 211 = .ok (.iload_n 1, 1) := by decide +kernel
theorem dX12_keepsPapers_212 : decode cX12_keepsPapers 212 = .ok (.iaload, 1) := by decide +kernel
theorem dX12_keepsPapers_213 : decode cX12_keepsPapers 213 = .ok (.invokevirtual 329, 3) := by decide +kernel
theorem dX12_keepsPapers_216 : decode cX12_keepsPapers 216 = .ok (.iastore, 1) := by decide +kernel
theorem dX12_keepsPapers_217 : decode cX12_keepsPapers 217 = .ok (.aload_n 0, 1) := by decide +kernel
theorem dX12_keepsPapers_218 : decode cX12_keepsPapers 218 = .ok (.getfield 89, 3) := by decide +kernel
theorem dX12_keepsPapers_221 : decode cX12_keepsPapers 221 = .ok (.iload_n 1, 1) := by decide +kernel
theorem dX12_keepsPapers_222 : decode cX12_keepsPapers 222 = .ok (.aload_n 0, 1) := by decide +kernel
theorem dX12_keepsPapers_223 : decode cX12_keepsPapers 223 = .ok (.aload_n 0, 1) := by decide +kernel
theorem dX12_keepsPapers_224 : decode cX12_keepsPapers 224 = .ok (.getfield 89, 3) := by decide +kernel
theorem dX12_keepsPapers_227 : decode cX12_keepsPapers 227 = .ok (.iload_n 1, 1) := by decide +kernel
theorem dX12_keepsPapers_228 : decode cX12_keepsPapers 228 = .ok (.iaload, 1) := by decide +kernel
theorem dX12_keepsPapers_229 : decode cX12_keepsPapers 229 = .ok (.invokevirtual 329, 3) := by decide +kernel
theorem dX12_keepsPapers_232 : decode cX12_keepsPapers 232 = .ok (.iastore, 1) := by decide +kernel
theorem dX12_keepsPapers_233 : decode cX12_keepsPapers 233 = .ok (.aload_n 0, 1) := by decide +kernel
theorem dX12_keepsPapers_234 : decode cX12_keepsPapers 234 = .ok (.getfield 92, 3) := by decide +kernel
theorem dX12_keepsPapers_237 : decode cX12_keepsPapers 237 = .ok (.iload_n 1, 1) := by decide +kernel
theorem dX12_keepsPapers_238 : decode cX12_keepsPapers 238 = .ok (.aload_n 0, 1) := by decide +kernel
theorem dX12_keepsPapers_239 : decode cX12_keepsPapers 239 = .ok (.aload_n 0, 1) := by decide +kernel
theorem dX12_keepsPapers_240 : decode cX12_keepsPapers 240 = .ok (.getfield 92, 3) := by decide +kernel
theorem dX12_keepsPapers_243 : decode cX12_keepsPapers 243 = .ok (.iload_n 1, 1) := by decide +kernel
theorem dX12_keepsPapers_244 : decode cX12_keepsPapers 244 = .ok (.iaload, 1) := by decide +kernel
theorem dX12_keepsPapers_245 : decode cX12_keepsPapers 245 = .ok (.invokevirtual 329, 3) := by decide +kernel
theorem dX12_keepsPapers_248 : decode cX12_keepsPapers 248 = .ok (.iastore, 1) := by decide +kernel
theorem dX12_keepsPapers_249 : decode cX12_keepsPapers 249 = .ok (.aload_n 0, 1) := by decide +kernel
theorem dX12_keepsPapers_250 : decode cX12_keepsPapers 250 = .ok (.getfield 95, 3) := by decide +kernel
theorem dX12_keepsPapers_253 : decode cX12_keepsPapers 253 = .ok (.iload_n 1, 1) := by decide +kernel
theorem dX12_keepsPapers_254 : decode cX12_keepsPapers 254 = .ok (.aload_n 0, 1) := by decide +kernel
theorem dX12_keepsPapers_255 : decode cX12_keepsPapers 255 = .ok (.aload_n 0, 1) := by decide +kernel
theorem dX12_keepsPapers_256 : decode cX12_keepsPapers 256 = .ok (.getfield 95, 3) := by decide +kernel
theorem dX12_keepsPapers_259 : decode cX12_keepsPapers 259 = .ok (.iload_n 1, 1) := by decide +kernel
theorem dX12_keepsPapers_260 : decode cX12_keepsPapers 260 = .ok (.iaload, 1) := by decide +kernel
theorem dX12_keepsPapers_261 : decode cX12_keepsPapers 261 = .ok (.invokevirtual 329, 3) := by decide +kernel
theorem dX12_keepsPapers_264 : decode cX12_keepsPapers 264 = .ok (.iastore, 1) := by decide +kernel
theorem dX12_keepsPapers_265 : decode cX12_keepsPapers 265 = .ok (.iinc 1 1, 3) := by decide +kernel
theorem dX12_keepsPapers_268 : decode cX12_keepsPapers 268 = .ok (.goto (-73), 3) := by decide +kernel
theorem dX12_keepsPapers_271 : decode cX12_keepsPapers 271 = .ok (.return_, 1) := by decide +kernel
theorem dX12_keepsLaw_0 : decode cX12_keepsLaw 0 = .ok (.aload_n 0, 1) := by decide +kernel
theorem dX12_keepsLaw_1 : decode cX12_keepsLaw 1 = .ok (.aload_n 0, 1) := by decide +kernel
theorem dX12_keepsLaw_2 : decode cX12_keepsLaw 2 = .ok (.aload_n 0, 1) := by decide +kernel
theorem dX12_keepsLaw_3 : decode cX12_keepsLaw 3 = .ok (.getfield 241, 3) := by decide +kernel
theorem dX12_keepsLaw_6 : decode cX12_keepsLaw 6 = .ok (.invokevirtual 329, 3) := by decide +kernel
theorem dX12_keepsLaw_9 : decode cX12_keepsLaw 9 = .ok (.putfield 241, 3) := by decide +kernel
theorem dX12_keepsLaw_12 : decode cX12_keepsLaw 12 = .ok (.iconst 0, 1) := by decide +kernel
theorem dX12_keepsLaw_13 : decode cX12_keepsLaw 13 = .ok (.istore_n 1, 1) := by decide +kernel
theorem dX12_keepsLaw_14 : decode cX12_keepsLaw 14 = .ok (.iload_n 1, 1) := by decide +kernel
theorem dX12_keepsLaw_15 : decode cX12_keepsLaw 15 = .ok (.bipush 16, 2) := by decide +kernel
theorem dX12_keepsLaw_17 : decode cX12_keepsLaw 17 = .ok (.if_icmp .ge 57, 3) := by decide +kernel
theorem dX12_keepsLaw_20 : decode cX12_keepsLaw 20 = .ok (.aload_n 0, 1) := by decide +kernel
theorem dX12_keepsLaw_21 : decode cX12_keepsLaw 21 = .ok (.getfield 55, 3) := by decide +kernel
theorem dX12_keepsLaw_24 : decode cX12_keepsLaw 24 = .ok (.iload_n 1, 1) := by decide +kernel
theorem dX12_keepsLaw_25 : decode cX12_keepsLaw 25 = .ok (.aload_n 0, 1) := by decide +kernel
theorem dX12_keepsLaw_26 : decode cX12_keepsLaw 26 = .ok (.aload_n 0, 1) := by decide +kernel
theorem dX12_keepsLaw_27 : decode cX12_keepsLaw 27 = .ok (.getfield 55, 3) := by decide +kernel
theorem dX12_keepsLaw_30 : decode cX12_keepsLaw 30 = .ok (.iload_n 1, 1) := by decide +kernel
theorem dX12_keepsLaw_31 : decode cX12_keepsLaw 31 = .ok (.iaload, 1) := by decide +kernel
theorem dX12_keepsLaw_32 : decode cX12_keepsLaw 32 = .ok (.invokevirtual 329, 3) := by decide +kernel
theorem dX12_keepsLaw_35 : decode cX12_keepsLaw 35 = .ok (.iastore, 1) := by decide +kernel
theorem dX12_keepsLaw_36 : decode cX12_keepsLaw 36 = .ok (.aload_n 0, 1) := by decide +kernel
theorem dX12_keepsLaw_37 : decode cX12_keepsLaw 37 = .ok (.getfield 58, 3) := by decide +kernel
theorem dX12_keepsLaw_40 : decode cX12_keepsLaw 40 = .ok (.iload_n 1, 1) := by decide +kernel
theorem dX12_keepsLaw_41 : decode cX12_keepsLaw 41 = .ok (.aload_n 0, 1) := by decide +kernel
theorem dX12_keepsLaw_42 : decode cX12_keepsLaw 42 = .ok (.aload_n 0, 1) := by decide +kernel
theorem dX12_keepsLaw_43 : decode cX12_keepsLaw 43 = .ok (.getfield 58, 3) := by decide +kernel
theorem dX12_keepsLaw_46 : decode cX12_keepsLaw 46 = .ok (.iload_n 1, 1) := by decide +kernel
theorem dX12_keepsLaw_47 : decode cX12_keepsLaw 47 = .ok (.iaload, 1) := by decide +kernel
theorem dX12_keepsLaw_48 : decode cX12_keepsLaw 48 = .ok (.invokevirtual 329, 3) := by decide +kernel
theorem dX12_keepsLaw_51 : decode cX12_keepsLaw 51 = .ok (.iastore, 1) := by decide +kernel
theorem dX12_keepsLaw_52 : decode cX12_keepsLaw 52 = .ok (.aload_n 0, 1) := by decide +kernel
theorem dX12_keepsLaw_53 : decode cX12_keepsLaw 53 = .ok (.getfield 61, 3) := by decide +kernel
theorem dX12_keepsLaw_56 : decode cX12_keepsLaw 56 = .ok (.iload_n 1, 1) := by decide +kernel
theorem dX12_keepsLaw_57 : decode cX12_keepsLaw 57 = .ok (.aload_n 0, 1) := by decide +kernel
theorem dX12_keepsLaw_58 : decode cX12_keepsLaw 58 = .ok (.aload_n 0, 1) := by decide +kernel
theorem dX12_keepsLaw_59 : decode cX12_keepsLaw 59 = .ok (.getfield 61, 3) := by decide +kernel
theorem dX12_keepsLaw_62 : decode cX12_keepsLaw 62 = .ok (.iload_n 1, 1) := by decide +kernel
theorem dX12_keepsLaw_63 : decode cX12_keepsLaw 63 = .ok (.iaload, 1) := by decide +kernel
theorem dX12_keepsLaw_64 : decode cX12_keepsLaw 64 = .ok (.invokevirtual 329, 3) := by decide +kernel
theorem dX12_keepsLaw_67 : decode cX12_keepsLaw 67 = .ok (.iastore, 1) := by decide +kernel
theorem dX12_keepsLaw_68 : decode cX12_keepsLaw 68 = .ok (.iinc 1 1, 3) := by decide +kernel
theorem dX12_keepsLaw_71 : decode cX12_keepsLaw 71 = .ok (.goto (-57), 3) := by decide +kernel
theorem dX12_keepsLaw_74 : decode cX12_keepsLaw 74 = .ok (.iconst 0, 1) := by decide +kernel
theorem dX12_keepsLaw_75 : decode cX12_keepsLaw 75 = .ok (.istore_n 1, 1) := by decide +kernel
theorem dX12_keepsLaw_76 : decode cX12_keepsLaw 76 = .ok (.iload_n 1, 1) := by decide +kernel
theorem dX12_keepsLaw_77 : decode cX12_keepsLaw 77 = .ok (.sipush 400, 3) := by decide +kernel
theorem dX12_keepsLaw_80 : decode cX12_keepsLaw 80 = .ok (.if_icmp .ge 41, 3) := by decide +kernel
theorem dX12_keepsLaw_83 : decode cX12_keepsLaw 83 = .ok (.aload_n 0, 1) := by decide +kernel
theorem dX12_keepsLaw_84 : decode cX12_keepsLaw 84 = .ok (.getfield 64, 3) := by decide +kernel
theorem dX12_keepsLaw_87 : decode cX12_keepsLaw 87 = .ok (.iload_n 1, 1) := by decide +kernel
theorem dX12_keepsLaw_88 : decode cX12_keepsLaw 88 = .ok (.aload_n 0, 1) := by decide +kernel
theorem dX12_keepsLaw_89 : decode cX12_keepsLaw 89 = .ok (.aload_n 0, 1) := by decide +kernel
theorem dX12_keepsLaw_90 : decode cX12_keepsLaw 90 = .ok (.getfield 64, 3) := by decide +kernel
theorem dX12_keepsLaw_93 : decode cX12_keepsLaw 93 = .ok (.iload_n 1, 1) := by decide +kernel
theorem dX12_keepsLaw_94 : decode cX12_keepsLaw 94 = .ok (.iaload, 1) := by decide +kernel
theorem dX12_keepsLaw_95 : decode cX12_keepsLaw 95 = .ok (.invokevirtual 329, 3) := by decide +kernel
theorem dX12_keepsLaw_98 : decode cX12_keepsLaw 98 = .ok (.iastore, 1) := by decide +kernel
theorem dX12_keepsLaw_99 : decode cX12_keepsLaw 99 = .ok (.aload_n 0, 1) := by decide +kernel
theorem dX12_keepsLaw_100 : decode cX12_keepsLaw 100 = .ok (.getfield 67, 3) := by decide +kernel
theorem dX12_keepsLaw_103 : decode cX12_keepsLaw 103 = .ok (.iload_n 1, 1) := by decide +kernel
theorem dX12_keepsLaw_104 : decode cX12_keepsLaw 104 = .ok (.aload_n 0, 1) := by decide +kernel
theorem dX12_keepsLaw_105 : decode cX12_keepsLaw 105 = .ok (.aload_n 0, 1) := by decide +kernel
theorem dX12_keepsLaw_106 : decode cX12_keepsLaw 106 = .ok (.getfield 67, 3) := by decide +kernel
theorem dX12_keepsLaw_109 : decode cX12_keepsLaw 109 = .ok (.iload_n 1, 1) := by decide +kernel
theorem dX12_keepsLaw_110 : decode cX12_keepsLaw 110 = .ok (.iaload, 1) := by decide +kernel
theorem dX12_keepsLaw_111 : decode cX12_keepsLaw 111 = .ok (.invokevirtual 329, 3) := by decide +kernel
theorem dX12_keepsLaw_114 : decode cX12_keepsLaw 114 = .ok (.iastore, 1) := by decide +kernel
theorem dX12_keepsLaw_115 : decode cX12_keepsLaw 115 = .ok (.iinc 1 1, 3) := by decide +kernel
theorem dX12_keepsLaw_118 : decode cX12_keepsLaw 118 = .ok (.goto (-42), 3) := by decide +kernel
theorem dX12_keepsLaw_121 : decode cX12_keepsLaw 121 = .ok (.return_, 1) := by decide +kernel
theorem dX12_image_0 : decode cX12_image 0 = .ok (.aload_n 0, 1) := by decide +kernel
theorem dX12_image_1 : decode cX12_image 1 = .ok (.iconst 0, 1) := by decide +kernel
theorem dX12_image_2 : decode cX12_image 2 = .ok (.putfield 104, 3) := by decide +kernel
theorem dX12_image_5 : decode cX12_image 5 = .ok (.iload_n 1, 1) := by decide +kernel
theorem dX12_image_6 : decode cX12_image 6 = .ok (.ifCond .ne 12, 3) := by decide +kernel
theorem dX12_image_9 : decode cX12_image 9 = .ok (.aload_n 0, 1) := by decide +kernel
theorem dX12_image_10 : decode cX12_image 10 = .ok (.getfield 332, 3) := by decide +kernel
theorem dX12_image_13 : decode cX12_image 13 = .ok (.ifCond .ne 5, 3) := by decide +kernel
theorem dX12_image_16 : decode cX12_image 16 = .ok (.iconst 0, 1) := by decide +kernel
theorem dX12_image_17 : decode cX12_image 17 = .ok (.ireturn, 1) := by decide +kernel
theorem dX12_image_18 : decode cX12_image 18 = .ok (.aload_n 0, 1) := by decide +kernel
theorem dX12_image_19 : decode cX12_image 19 = .ok (.iload_n 1, 1) := by decide +kernel
theorem dX12_image_20 : decode cX12_image 20 = .ok (.putfield 325, 3) := by decide +kernel
theorem dX12_image_23 : decode cX12_image 23 = .ok (.aload_n 0, 1) := by decide +kernel
theorem dX12_image_24 : decode cX12_image 24 = .ok (.iconst 1, 1) := by decide +kernel
theorem dX12_image_25 : decode cX12_image 25 = .ok (.putfield 332, 3) := by decide +kernel
theorem dX12_image_28 : decode cX12_image 28 = .ok (.aload_n 0, 1) := by decide +kernel
theorem dX12_image_29 : decode cX12_image 29 = .ok (.iconst 0, 1) := by decide +kernel
theorem dX12_image_30 : decode cX12_image 30 = .ok (.putfield 322, 3) := by decide +kernel
theorem dX12_image_33 : decode cX12_image 33 = .ok (.aload_n 0, 1) := by decide +kernel
theorem dX12_image_34 : decode cX12_image 34 = .ok (.aload_n 0, 1) := by decide +kernel
theorem dX12_image_35 : decode cX12_image 35 = .ok (.aload_n 0, 1) := by decide +kernel
theorem dX12_image_36 : decode cX12_image 36 = .ok (.getfield 107, 3) := by decide +kernel
theorem dX12_image_39 : decode cX12_image 39 = .ok (.invokevirtual 329, 3) := by decide +kernel
theorem dX12_image_42 : decode cX12_image 42 = .ok (.putfield 107, 3) := by decide +kernel
theorem dX12_image_45 : decode cX12_image 45 = .ok (.aload_n 0, 1) := by decide +kernel
theorem dX12_image_46 : decode cX12_image 46 = .ok (.aload_n 0, 1) := by decide +kernel
theorem dX12_image_47 : decode cX12_image 47 = .ok (.aload_n 0, 1) := by decide +kernel
theorem dX12_image_48 : decode cX12_image 48 = .ok (.getfield 127, 3) := by decide +kernel
theorem dX12_image_51 : decode cX12_image 51 = .ok (.invokevirtual 329, 3) := by decide +kernel
theorem dX12_image_54 : decode cX12_image 54 = .ok (.putfield 127, 3) := by decide +kernel
theorem dX12_image_57 : decode cX12_image 57 = .ok (.aload_n 0, 1) := by decide +kernel
theorem dX12_image_58 : decode cX12_image 58 = .ok (.aload_n 0, 1) := by decide +kernel
theorem dX12_image_59 : decode cX12_image 59 = .ok (.aload_n 0, 1) := by decide +kernel
theorem dX12_image_60 : decode cX12_image 60 = .ok (.getfield 276, 3) := by decide +kernel
theorem dX12_image_63 : decode cX12_image 63 = .ok (.invokevirtual 329, 3) := by decide +kernel
theorem dX12_image_66 : decode cX12_image 66 = .ok (.putfield 276, 3) := by decide +kernel
theorem dX12_image_69 : decode cX12_image 69 = .ok (.aload_n 0, 1) := by decide +kernel
theorem dX12_image_70 : decode cX12_image 70 = .ok (.aload_n 0, 1) := by decide +kernel
theorem dX12_image_71 : decode cX12_image 71 = .ok (.aload_n 0, 1) := by decide +kernel
theorem dX12_image_72 : decode cX12_image 72 = .ok (.getfield 112, 3) := by decide +kernel
theorem dX12_image_75 : decode cX12_image 75 = .ok (.invokevirtual 329, 3) := by decide +kernel
theorem dX12_image_78 : decode cX12_image 78 = .ok (.putfield 112, 3) := by decide +kernel
theorem dX12_image_81 : decode cX12_image 81 = .ok (.iconst 0, 1) := by decide +kernel
theorem dX12_image_82 : decode cX12_image 82 = .ok (.istore_n 2, 1) := by decide +kernel
theorem dX12_image_83 : decode cX12_image 83 = .ok (.iload_n 2, 1) := by decide +kernel
theorem dX12_image_84 : decode cX12_image 84 = .ok (.bipush 12, 2) := by decide +kernel
theorem dX12_image_86 : decode cX12_image 86 = .ok (.if_icmp .ge 89, 3) := by decide +kernel
theorem dX12_image_89 : decode cX12_image 89 = .ok (.aload_n 0, 1) := by decide +kernel
theorem dX12_image_90 : decode cX12_image 90 = .ok (.getfield 7, 3) := by decide +kernel
theorem dX12_image_93 : decode cX12_image 93 = .ok (.iload_n 2, 1) := by decide +kernel
theorem dX12_image_94 : decode cX12_image 94 = .ok (.aload_n 0, 1) := by decide +kernel
theorem dX12_image_95 : decode cX12_image 95 = .ok (.aload_n 0, 1) := by decide +kernel
theorem dX12_image_96 : decode cX12_image 96 = .ok (.getfield 7, 3) := by decide +kernel
theorem dX12_image_99 : decode cX12_image 99 = .ok (.iload_n 2, 1) := by decide +kernel
theorem dX12_image_100 : decode cX12_image 100 = .ok (.iaload, 1) := by decide +kernel
theorem dX12_image_101 : decode cX12_image 101 = .ok (.invokevirtual 329, 3) := by decide +kernel
theorem dX12_image_104 : decode cX12_image 104 = .ok (.iastore, 1) := by decide +kernel
theorem dX12_image_105 : decode cX12_image 105 = .ok (.aload_n 0, 1) := by decide +kernel
theorem dX12_image_106 : decode cX12_image 106 = .ok (.getfield 13, 3) := by decide +kernel
theorem dX12_image_109 : decode cX12_image 109 = .ok (.iload_n 2, 1) := by decide +kernel
theorem dX12_image_110 : decode cX12_image 110 = .ok (.aload_n 0, 1) := by decide +kernel
theorem dX12_image_111 : decode cX12_image 111 = .ok (.aload_n 0, 1) := by decide +kernel
theorem dX12_image_112 : decode cX12_image 112 = .ok (.getfield 13, 3) := by decide +kernel
theorem dX12_image_115 : decode cX12_image 115 = .ok (.iload_n 2, 1) := by decide +kernel
theorem dX12_image_116 : decode cX12_image 116 = .ok (.iaload, 1) := by decide +kernel
theorem dX12_image_117 : decode cX12_image 117 = .ok (.invokevirtual 329, 3) := by decide +kernel
theorem dX12_image_120 : decode cX12_image 120 = .ok (.iastore, 1) := by decide +kernel
theorem dX12_image_121 : decode cX12_image 121 = .ok (.aload_n 0, 1) := by decide +kernel
theorem dX12_image_122 : decode cX12_image 122 = .ok (.getfield 16, 3) := by decide +kernel
theorem dX12_image_125 : decode cX12_image 125 = .ok (.iload_n 2, 1) := by decide +kernel
theorem dX12_image_126 : decode cX12_image 126 = .ok (.aload_n 0, 1) := by decide +kernel
theorem dX12_image_127 : decode cX12_image 127 = .ok (.aload_n 0, 1) := by decide +kernel
theorem dX12_image_128 : decode cX12_image 128 = .ok (.getfield 16, 3) := by decide +kernel
theorem dX12_image_131 : decode cX12_image 131 = .ok (.iload_n 2, 1) := by decide +kernel
theorem dX12_image_132 : decode cX12_image 132 = .ok (.iaload, 1) := by decide +kernel
theorem dX12_image_133 : decode cX12_image 133 = .ok (.invokevirtual 329, 3) := by decide +kernel
theorem dX12_image_136 : decode cX12_image 136 = .ok (.iastore, 1) := by decide +kernel
theorem dX12_image_137 : decode cX12_image 137 = .ok (.aload_n 0, 1) := by decide +kernel
theorem dX12_image_138 : decode cX12_image 138 = .ok (.getfield 19, 3) := by decide +kernel
theorem dX12_image_141 : decode cX12_image 141 = .ok (.iload_n 2, 1) := by decide +kernel
theorem dX12_image_142 : decode cX12_image 142 = .ok (.aload_n 0, 1) := by decide +kernel
theorem dX12_image_143 : decode cX12_image 143 = .ok (.aload_n 0, 1) := by decide +kernel
theorem dX12_image_144 : decode cX12_image 144 = .ok (.getfield 19, 3) := by decide +kernel
theorem dX12_image_147 : decode cX12_image 147 = .ok (.iload_n 2, 1) := by decide +kernel
theorem dX12_image_148 : decode cX12_image 148 = .ok (.iaload, 1) := by decide +kernel
theorem dX12_image_149 : decode cX12_image 149 = .ok (.invokevirtual 329, 3) := by decide +kernel
theorem dX12_image_152 : decode cX12_image 152 = .ok (.iastore, 1) := by decide +kernel
theorem dX12_image_153 : decode cX12_image 153 = .ok (.aload_n 0, 1) := by decide +kernel
theorem dX12_image_154 : decode cX12_image 154 = .ok (.getfield 22, 3) := by decide +kernel
theorem dX12_image_157 : decode cX12_image 157 = .ok (.iload_n 2, 1) := by decide +kernel
theorem dX12_image_158 : decode cX12_image 158 = .ok (.aload_n 0, 1) := by decide +kernel
theorem dX12_image_159 : decode cX12_image 159 = .ok (.aload_n 0, 1) := by decide +kernel
theorem dX12_image_160 : decode cX12_image 160 = .ok (.getfield 22, 3) := by decide +kernel
theorem dX12_image_163 : decode cX12_image 163 = .ok (.iload_n 2, 1) := by decide +kernel
theorem dX12_image_164 : decode cX12_image 164 = .ok (.iaload, 1) := by decide +kernel
theorem dX12_image_165 : decode cX12_image 165 = .ok (.invokevirtual 329, 3) := by decide +kernel
theorem dX12_image_168 : decode cX12_image 168 = .ok (.iastore, 1) := by decide +kernel
theorem dX12_image_169 : decode cX12_image 169 = .ok (.iinc 2 1, 3) := by decide +kernel
theorem dX12_image_172 : decode cX12_image 172 = .ok (.goto (-89), 3) := by decide +kernel
theorem dX12_image_175 : decode cX12_image 175 = .ok (.aload_n 0, 1) := by decide +kernel
theorem dX12_image_176 : decode cX12_image 176 = .ok (.invokevirtual 335, 3) := by decide +kernel
theorem dX12_image_179 : decode cX12_image 179 = .ok (.aload_n 0, 1) := by decide +kernel
theorem dX12_image_180 : decode cX12_image 180 = .ok (.invokevirtual 338, 3) := by decide +kernel
theorem dX12_image_183 : decode cX12_image 183 = .ok (.iload_n 1, 1) := by decide +kernel
theorem dX12_image_184 : decode cX12_image 184 = .ok (.ifCond .ne 8, 3) := by decide +kernel
theorem dX12_image_187 : decode cX12_image 187 = .ok (.aload_n 0, 1) := by decide +kernel
theorem dX12_image_188 : decode cX12_image 188 = .ok (.iconst 0, 1) := by decide +kernel
theorem dX12_image_189 : decode cX12_image 189 = .ok (.putfield 120, 3) := by decide +kernel
theorem dX12_image_192 : decode cX12_image 192 = .ok (.iconst 1, 1) := by decide +kernel
theorem dX12_image_193 : decode cX12_image 193 = .ok (.ireturn, 1) := by decide +kernel
theorem dX12_look_0 : decode cX12_look 0 = .ok (.aload_n 0, 1) := by decide +kernel
theorem dX12_look_1 : decode cX12_look 1 = .ok (.iconst 0, 1) := by decide +kernel
theorem dX12_look_2 : decode cX12_look 2 = .ok (.putfield 104, 3) := by decide +kernel
theorem dX12_look_5 : decode cX12_look 5 = .ok (.iload_n 1, 1) := by decide +kernel
theorem dX12_look_6 : decode cX12_look 6 = .ok (.ifCond .ne 8, 3) := by decide +kernel
theorem dX12_look_9 : decode cX12_look 9 = .ok (.aload_n 0, 1) := by decide +kernel
theorem dX12_look_10 : decode cX12_look 10 = .ok (.getfield 127, 3) := by decide +kernel
theorem dX12_look_13 : decode cX12_look 13 = .ok (.ireturn, 1) := by decide +kernel
theorem dX12_look_14 : decode cX12_look 14 = .ok (.iload_n 1, 1) := by decide +kernel
theorem dX12_look_15 : decode cX12_look 15 = .ok (.iconst 1, 1) := by decide +kernel
theorem dX12_look_16 : decode cX12_look 16 = .ok (.if_icmp .ne 8, 3) := by decide +kernel
theorem dX12_look_19 : decode cX12_look 19 = .ok (.aload_n 0, 1) := by decide +kernel
theorem dX12_look_20 : decode cX12_look 20 = .ok (.getfield 112, 3) := by decide +kernel
theorem dX12_look_23 : decode cX12_look 23 = .ok (.ireturn, 1) := by decide +kernel
theorem dX12_look_24 : decode cX12_look 24 = .ok (.iload_n 1, 1) := by decide +kernel
theorem dX12_look_25 : decode cX12_look 25 = .ok (.iconst 2, 1) := by decide +kernel
theorem dX12_look_26 : decode cX12_look 26 = .ok (.if_icmp .ne 8, 3) := by decide +kernel
theorem dX12_look_29 : decode cX12_look 29 = .ok (.aload_n 0, 1) := by decide +kernel
theorem dX12_look_30 : decode cX12_look 30 = .ok (.getfield 130, 3) := by decide +kernel
theorem dX12_look_33 : decode cX12_look 33 = .ok (.ireturn, 1) := by decide +kernel
theorem dX12_look_34 : decode cX12_look 34 = .ok (.iload_n 1, 1) := by decide +kernel
theorem dX12_look_35 : decode cX12_look 35 = .ok (.iconst 3, 1) := by decide +kernel
theorem dX12_look_36 : decode cX12_look 36 = .ok (.if_icmp .ne 8, 3) := by decide +kernel
theorem dX12_look_39 : decode cX12_look 39 = .ok (.aload_n 0, 1) := by decide +kernel
theorem dX12_look_40 : decode cX12_look 40 = .ok (.getfield 260, 3) := by decide +kernel
theorem dX12_look_43 : decode cX12_look 43 = .ok (.ireturn, 1) := by decide +kernel
theorem dX12_look_44 : decode cX12_look 44 = .ok (.iload_n 1, 1) := by decide +kernel
theorem dX12_look_45 : decode cX12_look 45 = .ok (.iconst 4, 1) := by decide +kernel
theorem dX12_look_46 : decode cX12_look 46 = .ok (.if_icmp .ne 8, 3) := by decide +kernel
theorem dX12_look_49 : decode cX12_look 49 = .ok (.aload_n 0, 1) := by decide +kernel
theorem dX12_look_50 : decode cX12_look 50 = .ok (.getfield 289, 3) := by decide +kernel
theorem dX12_look_53 : decode cX12_look 53 = .ok (.ireturn, 1) := by decide +kernel
theorem dX12_look_54 : decode cX12_look 54 = .ok (.iload_n 1, 1) := by decide +kernel
theorem dX12_look_55 : decode cX12_look 55 = .ok (.iconst 5, 1) := by decide +kernel
theorem dX12_look_56 : decode cX12_look 56 = .ok (.if_icmp .ne 8, 3) := by decide +kernel
theorem dX12_look_59 : decode cX12_look 59 = .ok (.aload_n 0, 1) := by decide +kernel
theorem dX12_look_60 : decode cX12_look 60 = .ok (.getfield 107, 3) := by decide +kernel
theorem dX12_look_63 : decode cX12_look 63 = .ok (.ireturn, 1) := by decide +kernel
theorem dX12_look_64 : decode cX12_look 64 = .ok (.iload_n 1, 1) := by decide +kernel
theorem dX12_look_65 : decode cX12_look 65 = .ok (.bipush 6, 2) := by decide +kernel
theorem dX12_look_67 : decode cX12_look 67 = .ok (.if_icmp .ne 8, 3) := by decide +kernel
theorem dX12_look_70 : decode cX12_look 70 = .ok (.aload_n 0, 1) := by decide +kernel
theorem dX12_look_71 : decode cX12_look 71 = .ok (.getfield 241, 3) := by decide +kernel
theorem dX12_look_74 : decode cX12_look 74 = .ok (.ireturn, 1) := by decide +kernel
theorem dX12_look_75 : decode cX12_look 75 = .ok (.iload_n 1, 1) := by decide +kernel
theorem dX12_look_76 : decode cX12_look 76 = .ok (.bipush 7, 2) := by decide +kernel
theorem dX12_look_78 : decode cX12_look 78 = .ok (.if_icmp .ne 10, 3) := by decide +kernel
theorem dX12_look_81 : decode cX12_look 81 = .ok (.aload_n 0, 1) := by decide +kernel
theorem dX12_look_82 : decode cX12_look 82 = .ok (.getfield 120, 3) := by decide +kernel
theorem dX12_look_85 : decode cX12_look 85 = .ok (.goto 17, 3) := by decide +kernel
theorem dX12_look_88 : decode cX12_look 88 = .ok (.iload_n 1, 1) := by decide +kernel
theorem dX12_look_89 : decode cX12_look 89 = .ok (.bipush 8, 2) := by decide +kernel
theorem dX12_look_91 : decode cX12_look 91 = .ok (.if_icmp .ne 10, 3) := by decide +kernel
theorem dX12_look_94 : decode cX12_look 94 = .ok (.aload_n 0, 1) := by decide +kernel
theorem dX12_look_95 : decode cX12_look 95 = .ok (.getfield 276, 3) := by decide +kernel
theorem dX12_look_98 : decode cX12_look 98 = .ok (.goto 4, 3) := by decide +kernel
theorem dX12_look_101 : decode cX12_look 101 = .ok (.iconst (-1), 1) := by decide +kernel
theorem dX12_look_102 : decode cX12_look 102 = .ok (.ireturn, 1) := by decide +kernel
