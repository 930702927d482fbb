theorem dX11_who_108 : decode cX11_who 108 = .ok (.ireturn, 1) := by decide +kernel
theorem dX11_who_109 : decode cX11_who 109 = .ok (.aload_n 3, 1) := by decide +kernel
theorem dX11_who_110 : decode cX11_who 110 = .ok (.aload_n 0, 1) := by decide +kernel
theorem dX11_who_111 : decode cX11_who 111 = .ok (.getfield 10, 3) := by decide +kernel
theorem dX11_who_114 : decode cX11_who 114 = .ok (.getfield 80, 3) := by decide +kernel
theorem dX11_who_117 : decode cX11_who 117 = .ok (.invokevirtual 138, 3) := by decide +kernel
theorem dX11_who_120 : decode cX11_who 120 = .ok (.ireturn, 1) := by decide +kernel
theorem dX11_who_121 : decode cX11_who 121 = .ok (.aload_n 0, 1) := by decide +kernel
theorem dX11_who_122 : decode cX11_who 122 = .ok (.getfield 10, 3) := by decide +kernel
theorem dX11_who_125 : decode cX11_who 125 = .ok (.iload_n 1, 1) := by decide +kernel
theorem dX11_who_126 : decode cX11_who 126 = .ok (.invokevirtual 225, 3) := by decide +kernel
theorem dX11_who_129 : decode cX11_who 129 = .ok (.ireturn, 1) := by decide +kernel
theorem dX11_who_130 : decode cX11_who 130 = .ok (.ldc 209, 2) := by decide +kernel
theorem dX11_who_132 : decode cX11_who 132 = .ok (.ireturn, 1) := by decide +kernel
theorem dX1_entry_0 : decode cX1_entry 0 = .ok (.iload_n 1, 1) := by decide +kernel
theorem dX1_entry_1 : decode cX1_entry 1 = .ok (.iconst 0, 1) := by decide +kernel
theorem dX1_entry_2 : decode cX1_entry 2 = .ok (.aload_n 0, 1) := by decide +kernel
theorem dX1_entry_3 : decode cX1_entry 3 = .ok (.getfield 15, 3) := by decide +kernel
theorem dX1_entry_6 : decode cX1_entry 6 = .ok (.iconst 1, 1) := by decide +kernel
theorem dX1_entry_7 : decode cX1_entry 7 = .ok (.isub, 1) := by decide +kernel
theorem dX1_entry_8 : decode cX1_entry 8 = .ok (.invokestatic 23, 3) := by decide +kernel
theorem dX1_entry_11 : decode cX1_entry 11 = .ok (.ifCond .eq 16, 3) := by decide +kernel
theorem dX1_entry_14 : decode cX1_entry 14 = .ok (.iload_n 2, 1) := by decide +kernel
theorem dX1_entry_15 : decode cX1_entry 15 = .ok (.iconst 0, 1) := by decide +kernel
theorem dX1_entry_16 : decode cX1_entry 16 = .ok (.iconst 4, 1) := by decide +kernel
theorem dX1_entry_17 : decode cX1_entry 17 = .ok (.invokestatic 23, 3) := by decide +kernel
theorem dX1_entry_20 : decode cX1_entry 20 = .ok (.ifCond .eq 7, 3) := by decide +kernel
theorem dX1_entry_23 : decode cX1_entry 23 = .ok (.iconst 1, 1) := by decide +kernel
theorem dX1_entry_24 : decode cX1_entry 24 = .ok (.goto 4, 3) := by decide +kernel
theorem dX1_entry_27 : decode cX1_entry 27 = .ok (.iconst 0, 1) := by decide +kernel
theorem dX1_entry_28 : decode cX1_entry 28 = .ok (.istore_n 3, 1) := by decide +kernel
theorem dX1_entry_29 : decode cX1_entry 29 = .ok (.iload_n 3, 1) := by decide +kernel
theorem dX1_entry_30 : decode cX1_entry 30 = .ok (.ifCond .eq 16, 3) := by decide +kernel
theorem dX1_entry_33 : decode cX1_entry 33 = .ok (.aload_n 0, 1) := by decide +kernel
theorem dX1_entry_34 : decode cX1_entry 34 = .ok (.getfield 11, 3) := by decide +kernel
theorem dX1_entry_37 : decode cX1_entry 37 = .ok (.iload_n 1, 1) := by decide +kernel
theorem dX1_entry_38 : decode cX1_entry 38 = .ok (.iconst 5, 1) := by decide +kernel
theorem dX1_entry_39 : decode cX1_entry 39 = .ok (.imul, 1) := by decide +kernel
theorem dX1_entry_40 : decode cX1_entry 40 = .ok (.iload_n 2, 1) := by decide +kernel
theorem dX1_entry_41 : decode cX1_entry 41 = .ok (.iadd, 1) := by decide +kernel
theorem dX1_entry_42 : decode cX1_entry 42 = .ok (.iaload, 1) := by decide +kernel
theorem dX1_entry_43 : decode cX1_entry 43 = .ok (.goto 4, 3) := by decide +kernel
theorem dX1_entry_46 : decode cX1_entry 46 = .ok (.iconst (-1), 1) := by decide +kernel
theorem dX1_entry_47 : decode cX1_entry 47 = .ok (.ireturn, 1) := by decide +kernel
theorem dX11_book_0 : decode cX11_book 0 = .ok (.aload_n 0, 1) := by decide +kernel
theorem dX11_book_1 : decode cX11_book 1 = .ok (.getfield 10, 3) := by decide +kernel
theorem dX11_book_4 : decode cX11_book 4 = .ok (.getfield 124, 3) := by decide +kernel
theorem dX11_book_7 : decode cX11_book 7 = .ok (.iload_n 1, 1) := by decide +kernel
theorem dX11_book_8 : decode cX11_book 8 = .ok (.iload_n 2, 1) := by decide +kernel
theorem dX11_book_9 : decode cX11_book 9 = .ok (.invokevirtual 228, 3) := by decide +kernel
theorem dX11_book_12 : decode cX11_book 12 = .ok (.ireturn, 1) := by decide +kernel
theorem dX2_hasRoom_0 : decode cX2_hasRoom 0 = .ok (.aload_n 0, 1) := by decide +kernel
theorem dX2_hasRoom_1 : decode cX2_hasRoom 1 = .ok (.getfield 24, 3) := by decide +kernel
theorem dX2_hasRoom_4 : decode cX2_hasRoom 4 = .ok (.bipush 6, 2) := by decide +kernel
theorem dX2_hasRoom_6 : decode cX2_hasRoom 6 = .ok (.if_icmp .ge 7, 3) := by decide +kernel
theorem dX2_hasRoom_9 : decode cX2_hasRoom 9 = .ok (.iconst 1, 1) := by decide +kernel
theorem dX2_hasRoom_10 : decode cX2_hasRoom 10 = .ok (.goto 4, 3) := by decide +kernel
theorem dX2_hasRoom_13 : decode cX2_hasRoom 13 = .ok (.iconst 0, 1) := by decide +kernel
theorem dX2_hasRoom_14 : decode cX2_hasRoom 14 = .ok (.ireturn, 1) := by decide +kernel
theorem dX2_add_0 : decode cX2_add 0 = .ok (.aload_n 0, 1) := by decide +kernel
theorem dX2_add_1 : decode cX2_add 1 = .ok (.invokevirtual 28, 3) := by decide +kernel
theorem dX2_add_4 : decode cX2_add 4 = .ok (.ifCond .ne 5, 3) := by decide +kernel
theorem dX2_add_7 : decode cX2_add 7 = .ok (.iconst (-1), 1) := by decide +kernel
theorem dX2_add_8 : decode cX2_add 8 = .ok (.ireturn, 1) := by decide +kernel
theorem dX2_add_9 : decode cX2_add 9 = .ok (.aload_n 0, 1) := by decide +kernel
theorem dX2_add_10 : decode cX2_add 10 = .ok (.getfield 11, 3) := by decide +kernel
theorem dX2_add_13 : decode cX2_add 13 = .ok (.aload_n 0, 1) := by decide +kernel
theorem dX2_add_14 : decode cX2_add 14 = .ok (.getfield 24, 3) := by decide +kernel
theorem dX2_add_17 : decode cX2_add 17 = .ok (.iload_n 1, 1) := by decide +kernel
theorem dX2_add_18 : decode cX2_add 18 = .ok (.iastore, 1) := by decide +kernel
theorem dX2_add_19 : decode cX2_add 19 = .ok (.aload_n 0, 1) := by decide +kernel
theorem dX2_add_20 : decode cX2_add 20 = .ok (.getfield 15, 3) := by decide +kernel
theorem dX2_add_23 : decode cX2_add 23 = .ok (.aload_n 0, 1) := by decide +kernel
theorem dX2_add_24 : decode cX2_add 24 = .ok (.getfield 24, 3) := by decide +kernel
theorem dX2_add_27 : decode cX2_add 27 = .ok (.iload_n 2, 1) := by decide +kernel
theorem dX2_add_28 : decode cX2_add 28 = .ok (.iastore, 1) := by decide +kernel
theorem dX2_add_29 : decode cX2_add 29 = .ok (.aload_n 0, 1) := by decide +kernel
theorem dX2_add_30 : decode cX2_add 30 = .ok (.getfield 18, 3) := by decide +kernel
theorem dX2_add_33 : decode cX2_add 33 = .ok (.aload_n 0, 1) := by decide +kernel
theorem dX2_add_34 : decode cX2_add 34 = .ok (.getfield 24, 3) := by decide +kernel
theorem dX2_add_37 : decode cX2_add 37 = .ok (.iload_n 3, 1) := by decide +kernel
theorem dX2_add_38 : decode cX2_add 38 = .ok (.iastore, 1) := by decide +kernel
theorem dX2_add_39 : decode cX2_add 39 = .ok (.aload_n 0, 1) := by decide +kernel
theorem dX2_add_40 : decode cX2_add 40 = .ok (.getfield 21, 3) := by decide +kernel
theorem dX2_add_43 : decode cX2_add 43 = .ok (.aload_n 0, 1) := by decide +kernel
theorem dX2_add_44 : decode cX2_add 44 = .ok (.getfield 24, 3) := by decide +kernel
theorem dX2_add_47 : decode cX2_add 47 = .ok (.iload 4, 2) := by decide +kernel
theorem dX2_add_49 : decode cX2_add 49 = .ok (.iastore, 1) := by decide +kernel
theorem dX2_add_50 : decode cX2_add 50 = .ok (.aload_n 0, 1) := by decide +kernel
theorem dX2_add_51 : decode cX2_add 51 = .ok (.dup, 1) := by decide +kernel
theorem dX2_add_52 : decode cX2_add 52 = .ok (.getfield 24, 3) := by decide +kernel
theorem dX2_add_55 : decode cX2_add 55 = .ok (.iconst 1, 1) := by decide +kernel
theorem dX2_add_56 : decode cX2_add 56 = .ok (.iadd, 1) := by decide +kernel
theorem dX2_add_57 : decode cX2_add 57 = .ok (.putfield 24, 3) := by decide +kernel
theorem dX2_add_60 : decode cX2_add 60 = .ok (.aload_n 0, 1) := by decide +kernel
theorem dX2_add_61 : decode cX2_add 61 = .ok (.getfield 24, 3) := by decide +kernel
theorem dX2_add_64 : decode cX2_add 64 = .ok (.iconst 1, 1) := by decide +kernel
theorem dX2_add_65 : decode cX2_add 65 = .ok (.isub, 1) := by decide +kernel
theorem dX2_add_66 : decode cX2_add 66 = .ok (.ireturn, 1) := by decide +kernel
theorem dX11_claim_0 : decode cX11_claim 0 = .ok (.aload_n 0, 1) := by decide +kernel
theorem dX11_claim_1 : decode cX11_claim 1 = .ok (.getfield 10, 3) := by decide +kernel
theorem dX11_claim_4 : decode cX11_claim 4 = .ok (.iload_n 1, 1) := by decide +kernel
theorem dX11_claim_5 : decode cX11_claim 5 = .ok (.invokevirtual 102, 3) := by decide +kernel
theorem dX11_claim_8 : decode cX11_claim 8 = .ok (.ifnull 42, 3) := by decide +kernel
theorem dX11_claim_11 : decode cX11_claim 11 = .ok (.iload_n 2, 1) := by decide +kernel
theorem dX11_claim_12 : decode cX11_claim 12 = .ok (.aload_n 0, 1) := by decide +kernel
theorem dX11_claim_13 : decode cX11_claim 13 = .ok (.getfield 10, 3) := by decide +kernel
theorem dX11_claim_16 : decode cX11_claim 16 = .ok (.getfield 80, 3) := by decide +kernel
theorem dX11_claim_19 : decode cX11_claim 19 = .ok (.sipush 9999, 3) := by decide +kernel
theorem dX11_claim_22 : decode cX11_claim 22 = .ok (.invokestatic 56, 3) := by decide +kernel
theorem dX11_claim_25 : decode cX11_claim 25 = .ok (.ifCond .eq 25, 3) := by decide +kernel
theorem dX11_claim_28 : decode cX11_claim 28 = .ok (.iload_n 3, 1) := by decide +kernel
theorem dX11_claim_29 : decode cX11_claim 29 = .ok (.ifCond .lt 21, 3) := by decide +kernel
theorem dX11_claim_32 : decode cX11_claim 32 = .ok (.iload_n 3, 1) := by decide +kernel
theorem dX11_claim_33 : decode cX11_claim 33 = .ok (.iload 4, 2) := by decide +kernel
theorem dX11_claim_35 : decode cX11_claim 35 = .ok (.if_icmp .gt 15, 3) := by decide +kernel
theorem dX11_claim_38 : decode cX11_claim 38 = .ok (.iload 4, 2) := by decide +kernel
theorem dX11_claim_40 : decode cX11_claim 40 = .ok (.sipush 999, 3) := by decide +kernel
theorem dX11_claim_43 : decode cX11_claim 43 = .ok (.if_icmp .gt 7, 3) := by decide +kernel
theorem dX11_claim_46 : decode cX11_claim 46 = .ok (.iconst 1, 1) := by decide +kernel
theorem dX11_claim_47 : decode cX11_claim 47 = .ok (.goto 4, 3) := by decide +kernel
theorem dX11_claim_50 : decode cX11_claim 50 = .ok (.iconst 0, 1) := by decide +kernel
theorem dX11_claim_51 : decode cX11_claim 51 = .ok (.istore 5, 2) := by decide +kernel
theorem dX11_claim_53 : decode cX11_claim 53 = .ok (.iload 5, 2) := by decide +kernel
theorem dX11_claim_55 : decode cX11_claim 55 = .ok (.ifCond .eq 16, 3) := by decide +kernel
theorem dX11_claim_58 : decode cX11_claim 58 = .ok (.aload_n 0, 1) := by decide +kernel
theorem dX11_claim_59 : decode cX11_claim 59 = .ok (.getfield 10, 3) := by decide +kernel
theorem dX11_claim_62 : decode cX11_claim 62 = .ok (.getfield 232, 3) := by decide +kernel
theorem dX11_claim_65 : decode cX11_claim 65 = .ok (.invokevirtual 236, 3) := by decide +kernel
theorem dX11_claim_68 : decode cX11_claim 68 = .ok (.ifCond .ne 5, 3) := by decide +kernel
theorem dX11_claim_71 : decode cX11_claim 71 = .ok (.iconst (-1), 1) := by decide +kernel
theorem dX11_claim_72 : decode cX11_claim 72 = .ok (.ireturn, 1) := by decide +kernel
theorem dX11_claim_73 : decode cX11_claim 73 = .ok (.aload_n 0, 1) := by decide +kernel
theorem dX11_claim_74 : decode cX11_claim 74 = .ok (.getfield 10, 3) := by decide +kernel
theorem dX11_claim_77 : decode cX11_claim 77 = .ok (.getfield 232, 3) := by decide +kernel
theorem dX11_claim_80 : decode cX11_claim 80 = .ok (.iload_n 1, 1) := by decide +kernel
theorem dX11_claim_81 : decode cX11_claim 81 = .ok (.iload_n 2, 1) := by decide +kernel
theorem dX11_claim_82 : decode cX11_claim 82 = .ok (.iload_n 3, 1) := by decide +kernel
theorem dX11_claim_83 : decode cX11_claim 83 = .ok (.iload 4, 2) := by decide +kernel
theorem dX11_claim_85 : decode cX11_claim 85 = .ok (.invokevirtual 239, 3) := by decide +kernel
theorem dX11_claim_88 : decode cX11_claim 88 = .ok (.ireturn, 1) := by decide +kernel
theorem dX2_anyWentBy_0 : decode cX2_anyWentBy 0 = .ok (.iconst 0, 1) := by decide +kernel
theorem dX2_anyWentBy_1 : decode cX2_anyWentBy 1 = .ok (.istore_n 2, 1) := by decide +kernel
theorem dX2_anyWentBy_2 : decode cX2_anyWentBy 2 = .ok (.iload_n 2, 1) := by decide +kernel
theorem dX2_anyWentBy_3 : decode cX2_anyWentBy 3 = .ok (.aload_n 0, 1) := by decide +kernel
theorem dX2_anyWentBy_4 : decode cX2_anyWentBy 4 = .ok (.getfield 24, 3) := by decide +kernel
theorem dX2_anyWentBy_7 : decode cX2_anyWentBy 7 = .ok (.if_icmp .ge 21, 3) := by decide +kernel
theorem dX2_anyWentBy_10 : decode cX2_anyWentBy 10 = .ok (.aload_n 0, 1) := by decide +kernel
theorem dX2_anyWentBy_11 : decode cX2_anyWentBy 11 = .ok (.getfield 15, 3) := by decide +kernel
theorem dX2_anyWentBy_14 : decode cX2_anyWentBy 14 = .ok (.iload_n 2, 1) := by decide +kernel
theorem dX2_anyWentBy_15 : decode cX2_anyWentBy 15 = .ok (.iaload, 1) := by decide +kernel
theorem dX2_anyWentBy_16 : decode cX2_anyWentBy 16 = .ok (.iload_n 1, 1) := by decide +kernel
theorem dX2_anyWentBy_17 : decode cX2_anyWentBy 17 = .ok (.if_icmp .ge 5, 3) := by decide +kernel
theorem dX2_anyWentBy_20 : decode cX2_anyWentBy 20 = .ok (.iconst 1, 1) := by decide +kernel
theorem dX2_anyWentBy_21 : decode cX2_anyWentBy 21 = .ok (.ireturn, 1) := by decide +kernel
theorem dX2_anyWentBy_22 : decode cX2_anyWentBy 22 = .ok (.iinc 2 1, 3) := by decide +kernel
theorem dX2_anyWentBy_25 : decode cX2_anyWentBy 25 = .ok (.goto (-23), 3) := by decide +kernel
theorem dX2_anyWentBy_28 : decode cX2_anyWentBy 28 = .ok (.iconst 0, 1) := by decide +kernel
theorem dX2_anyWentBy_29 : decode cX2_anyWentBy 29 = .ok (.ireturn, 1) := by decide +kernel
theorem dX8_claimsStand_0 : decode cX8_claimsStand 0 = .ok (.aload_n 1, 1) := by decide +kernel
theorem dX8_claimsStand_1 : decode cX8_claimsStand 1 = .ok (.getfield 77, 3) := by decide +kernel
theorem dX8_claimsStand_4 : decode cX8_claimsStand 4 = .ok (.astore_n 3, 1) := by decide +kernel
theorem dX8_claimsStand_5 : decode cX8_claimsStand 5 = .ok (.iconst 0, 1) := by decide +kernel
theorem dX8_claimsStand_6 : decode cX8_claimsStand 6 = .ok (.istore 4, 2) := by decide +kernel
theorem dX8_claimsStand_8 : decode cX8_claimsStand 8 = .ok (.iload 4, 2) := by decide +kernel
theorem dX8_claimsStand_10 : decode cX8_claimsStand 10 = .ok (.aload_n 3, 1) := by decide +kernel
theorem dX8_claimsStand_11 : decode cX8_claimsStand 11 = .ok (.getfield 81, 3) := by decide +kernel
theorem dX8_claimsStand_14 : decode cX8_claimsStand 14 = .ok (.if_icmp .ge 57, 3) := by decide +kernel
theorem dX8_claimsStand_17 : decode cX8_claimsStand 17 = .ok (.aload_n 3, 1) := by decide +kernel
theorem dX8_claimsStand_18 : decode cX8_claimsStand 18 = .ok (.getfield 86, 3) := by decide +kernel
theorem dX8_claimsStand_21 : decode cX8_claimsStand 21 = .ok (.iload 4, 2) := by decide +kernel
theorem dX8_claimsStand_23 : decode cX8_claimsStand 23 = .ok (.iaload, 1) := by decide +kernel
theorem dX8_claimsStand_24 : decode cX8_claimsStand 24 = .ok (.aload_n 2, 1) := by decide +kernel
theorem dX8_claimsStand_25 : decode cX8_claimsStand 25 = .ok (.getfield 88, 3) := by decide +kernel
theorem dX8_claimsStand_28 : decode cX8_claimsStand 28 = .ok (.if_icmp .ne 37, 3) := by decide +kernel
theorem dX8_claimsStand_31 : decode cX8_claimsStand 31 = .ok (.aload_n 1, 1) := by decide +kernel
theorem dX8_claimsStand_32 : decode cX8_claimsStand 32 = .ok (.aload_n 2, 1) := by decide +kernel
theorem dX8_claimsStand_33 : decode cX8_claimsStand 33 = .ok (.aload_n 3, 1) := by decide +kernel
theorem dX8_claimsStand_34 : decode cX8_claimsStand 34 = .ok (.getfield 91, 3) := by decide +kernel
theorem dX8_claimsStand_37 : decode cX8_claimsStand 37 = .ok (.iload 4, 2) := by decide +kernel
theorem dX8_claimsStand_39 : decode cX8_claimsStand 39 = .ok (.iaload, 1) := by decide +kernel
theorem dX8_claimsStand_40 : decode cX8_claimsStand 40 = .ok (.invokevirtual 94, 3) := by decide +kernel
theorem dX8_claimsStand_43 : decode cX8_claimsStand 43 = .ok (.aload_n 3, 1) := by decide +kernel
theorem dX8_claimsStand_44 : decode cX8_claimsStand 44 = .ok (.getfield 98, 3) := by decide +kernel
theorem dX8_claimsStand_47 : decode cX8_claimsStand 47 = .ok (.iload 4, 2) := by decide +kernel
theorem dX8_claimsStand_49 : decode cX8_claimsStand 49 = .ok (.iaload, 1) := by decide +kernel
theorem dX8_claimsStand_50 : decode cX8_claimsStand 50 = .ok (.aload_n 3, 1) := by decide +kernel
theorem dX8_claimsStand_51 : decode cX8_claimsStand 51 = .ok (.getfield 101, 3) := by decide +kernel
theorem dX8_claimsStand_54 : decode cX8_claimsStand 54 = .ok (.iload 4, 2) := by decide +kernel
theorem dX8_claimsStand_56 : decode cX8_claimsStand 56 = .ok (.iaload, 1) := by decide +kernel
theorem dX8_claimsStand_57 : decode cX8_claimsStand 57 = .ok (.invokestatic 104, 3) := by decide +kernel
theorem dX8_claimsStand_60 : decode cX8_claimsStand 60 = .ok (.ifCond .ne 5, 3) := by decide +kernel
theorem dX8_claimsStand_63 : decode cX8_claimsStand 63 = .ok (.iconst 0, 1) := by decide +kernel
theorem dX8_claimsStand_64 : decode cX8_claimsStand 64 = .ok (.ireturn, 1) := by decide +kernel
theorem dX8_claimsStand_65 : decode cX8_claimsStand 65 = .ok (.iinc 4 1, 3) := by decide +kernel
theorem dX8_claimsStand_68 : decode cX8_claimsStand 68 = .ok (.goto (-60), 3) := by decide +kernel
theorem dX8_claimsStand_71 : decode cX8_claimsStand 71 = .ok (.iconst 1, 1) := by decide +kernel
theorem dX8_claimsStand_72 : decode cX8_claimsStand 72 = .ok (.ireturn, 1) := by decide +kernel
theorem dX8_imagine_0 : decode cX8_imagine 0 = .ok (.aload_n 1, 1) := by decide +kernel
theorem dX8_imagine_1 : decode cX8_imagine 1 = .ok (.iload_n 3, 1) := by decide +kernel
theorem dX8_imagine_2 : decode cX8_imagine 2 = .ok (.invokevirtual 55, 3) := by decide +kernel
theorem dX8_imagine_5 : decode cX8_imagine 5 = .ok (.astore 5, 2) := by decide +kernel
theorem dX8_imagine_7 : decode cX8_imagine 7 = .ok (.aload 5, 2) := by decide +kernel
theorem dX8_imagine_9 : decode cX8_imagine 9 = .ok (.ifnull 13, 3) := by decide +kernel
theorem dX8_imagine_12 : decode cX8_imagine 12 = .ok (.aload 5, 2) := by decide +kernel
theorem dX8_imagine_14 : decode cX8_imagine 14 = .ok (.iload 4, 2) := by decide +kernel
theorem dX8_imagine_16 : decode cX8_imagine 16 = .ok (.invokevirtual 59, 3) := by decide +kernel
theorem dX8_imagine_19 : decode cX8_imagine 19 = .ok (.ifCond .ne 5, 3) := by decide +kernel
theorem dX8_imagine_22 : decode cX8_imagine 22 = .ok (.aconst_null, 1) := by decide +kernel
theorem dX8_imagine_23 : decode cX8_imagine 23 = .ok (.areturn, 1) := by decide +kernel
theorem dX8_imagine_24 : decode cX8_imagine 24 = .ok (.aload_n 0, 1) := by decide +kernel
theorem dX8_imagine_25 : decode cX8_imagine 25 = .ok (.getfield 18, 3) := by decide +kernel
theorem dX8_imagine_28 : decode cX8_imagine 28 = .ok (.aload_n 2, 1) := by decide +kernel
theorem dX8_imagine_29 : decode cX8_imagine 29 = .ok (.invokevirtual 65, 3) := by decide +kernel
theorem dX8_imagine_32 : decode cX8_imagine 32 = .ok (.aload_n 0, 1) := by decide +kernel
theorem dX8_imagine_33 : decode cX8_imagine 33 = .ok (.getfield 18, 3) := by decide +kernel
theorem dX8_imagine_36 : decode cX8_imagine 36 = .ok (.iload_n 3, 1) := by decide +kernel
theorem dX8_imagine_37 : decode cX8_imagine 37 = .ok (.aload 5, 2) := by decide +kernel
theorem dX8_imagine_39 : decode cX8_imagine 39 = .ok (.iload 4, 2) := by decide +kernel
theorem dX8_imagine_41 : decode cX8_imagine 41 = .ok (.invokevirtual 69, 3) := by decide +kernel
theorem dX8_imagine_44 : decode cX8_imagine 44 = .ok (.iload 4, 2) := by decide +kernel
theorem dX8_imagine_46 : decode cX8_imagine 46 = .ok (.invokevirtual 73, 3) := by decide +kernel
theorem dX8_imagine_49 : decode cX8_imagine 49 = .ok (.aload_n 0, 1) := by decide +kernel
theorem dX8_imagine_50 : decode cX8_imagine 50 = .ok (.getfield 18, 3) := by decide +kernel
theorem dX8_imagine_53 : decode cX8_imagine 53 = .ok (.areturn, 1) := by decide +kernel
theorem dX8_weigh_0 : decode cX8_weigh 0 = .ok (.iconst 0, 1) := by decide +kernel
theorem dX8_weigh_1 : decode cX8_weigh 1 = .ok (.istore_n 2, 1) := by decide +kernel
theorem dX8_weigh_2 : decode cX8_weigh 2 = .ok (.iload_n 2, 1) := by decide +kernel
theorem dX8_weigh_3 : decode cX8_weigh 3 = .ok (.aload_n 1, 1) := by decide +kernel
theorem dX8_weigh_4 : decode cX8_weigh 4 = .ok (.getfield 32, 3) := by decide +kernel
theorem dX8_weigh_7 : decode cX8_weigh 7 = .ok (.if_icmp .ge 109, 3) := by decide +kernel
theorem dX8_weigh_10 : decode cX8_weigh 10 = .ok (.aload_n 0, 1) := by decide +kernel
theorem dX8_weigh_11 : decode cX8_weigh 11 = .ok (.getfield 9, 3) := by decide +kernel
theorem dX8_weigh_14 : decode cX8_weigh 14 = .ok (.iload_n 2, 1) := by decide +kernel
theorem dX8_weigh_15 : decode cX8_weigh 15 = .ok (.aload_n 0, 1) := by decide +kernel
theorem dX8_weigh_16 : decode cX8_weigh 16 = .ok (.aload_n 1, 1) := by decide +kernel
theorem dX8_weigh_17 : decode cX8_weigh 17 = .ok (.aload_n 1, 1) := by decide +kernel
theorem dX8_weigh_18 : decode cX8_weigh 18 = .ok (.getfield 37, 3) := by decide +kernel
theorem dX8_weigh_21 : decode cX8_weigh 21 = .ok (.iload_n 2, 1) := by decide +kernel
theorem dX8_weigh_22 : decode cX8_weigh 22 = .ok (.aaload, 1) := by decide +kernel
theorem dX8_weigh_23 : decode cX8_weigh 23 = .ok (.invokevirtual 41, 3) := by decide +kernel
theorem dX8_weigh_26 : decode cX8_weigh 26 = .ok (.ifCond .eq 9, 3) := by decide +kernel
theorem dX8_weigh_29 : decode cX8_weigh 29 = .ok (.sipush 4096, 3) := by decide +kernel
theorem dX8_weigh_32 : decode cX8_weigh 32 = .ok (.goto 4, 3) := by decide +kernel
theorem dX8_weigh_35 : decode cX8_weigh 35 = .ok (.iconst 0, 1) := by decide +kernel
theorem dX8_weigh_36 : decode cX8_weigh 36 = .ok (.iastore, 1) := by decide +kernel
theorem dX8_weigh_37 : decode cX8_weigh 37 = .ok (.iconst 0, 1) := by decide +kernel
theorem dX8_weigh_38 : decode cX8_weigh 38 = .ok (.istore_n 3, 1) := by decide +kernel
theorem dX8_weigh_39 : decode cX8_weigh 39 = .ok (.iload_n 3, 1) := by decide +kernel
theorem dX8_weigh_40 : decode cX8_weigh 40 = .ok (.aload_n 1, 1) := by decide +kernel
theorem dX8_weigh_41 : decode cX8_weigh 41 = .ok (.getfield 45, 3) := by decide +kernel
theorem dX8_weigh_44 : decode cX8_weigh 44 = .ok (.if_icmp .ge 66, 3) := by decide +kernel
theorem dX8_weigh_47 : decode cX8_weigh 47 = .ok (.aload_n 0, 1) := by decide +kernel
theorem dX8_weigh_48 : decode cX8_weigh 48 = .ok (.getfield 9, 3) := by decide +kernel
theorem dX8_weigh_51 : decode cX8_weigh 51 = .ok (.iload_n 2, 1) := by decide +kernel
theorem dX8_weigh_52 : decode cX8_weigh 52 = .ok (.iaload, 1) := by decide +kernel
theorem dX8_weigh_53 : decode cX8_weigh 53 = .ok (.sipush 4096, 3) := by decide +kernel
theorem dX8_weigh_56 : decode cX8_weigh 56 = .ok (.if_icmp .eq 54, 3) := by decide +kernel
theorem dX8_weigh_59 : decode cX8_weigh 59 = .ok (.aload_n 0, 1) := by decide +kernel
theorem dX8_weigh_60 : decode cX8_weigh 60 = .ok (.aload_n 1, 1) := by decide +kernel
theorem dX8_weigh_61 : decode cX8_weigh 61 = .ok (.aload_n 1, 1) := by decide +kernel
theorem dX8_weigh_62 : decode cX8_weigh 62 = .ok (.getfield 37, 3) := by decide +kernel
theorem dX8_weigh_65 : decode cX8_weigh 65 = .ok (.iload_n 2, 1) := by decide +kernel
theorem dX8_weigh_66 : decode cX8_weigh 66 = .ok (.aaload, 1) := by decide +kernel
theorem dX8_weigh_67 : decode cX8_weigh 67 = .ok (.iload_n 3, 1) := by decide +kernel
theorem dX8_weigh_68 : decode cX8_weigh 68 = .ok (.aload_n 1, 1) := by decide +kernel
theorem dX8_weigh_69 : decode cX8_weigh 69 = .ok (.getfield 48, 3) := by decide +kernel
theorem dX8_weigh_72 : decode cX8_weigh 72 = .ok (.invokevirtual 51, 3) := by decide +kernel
theorem dX8_weigh_75 : decode cX8_weigh 75 = .ok (.astore 4, 2) := by decide +kernel
theorem dX8_weigh_77 : decode cX8_weigh 77 = .ok (.aload 4, 2) := by decide +kernel
theorem dX8_weigh_79 : decode cX8_weigh 79 = .ok (.ifnull 25, 3) := by decide +kernel
theorem dX8_weigh_82 : decode cX8_weigh 82 = .ok (.aload_n 0, 1) := by decide +kernel
theorem dX8_weigh_83 : decode cX8_weigh 83 = .ok (.aload_n 1, 1) := by decide +kernel
theorem dX8_weigh_84 : decode cX8_weigh 84 = .ok (.aload 4, 2) := by decide +kernel
theorem dX8_weigh_86 : decode cX8_weigh 86 = .ok (.invokevirtual 41, 3) := by decide +kernel
theorem dX8_weigh_89 : decode cX8_weigh 89 = .ok (.ifCond .eq 15, 3) := by decide +kernel
theorem dX8_weigh_92 : decode cX8_weigh 92 = .ok (.aload_n 0, 1) := by decide +kernel
theorem dX8_weigh_93 : decode cX8_weigh 93 = .ok (.getfield 9, 3) := by decide +kernel
theorem dX8_weigh_96 : decode cX8_weigh 96 = .ok (.iload_n 2, 1) := by decide +kernel
theorem dX8_weigh_97 : decode cX8_weigh 97 = .ok (.dup2, 1) := by decide +kernel
theorem dX8_weigh_98 : decode cX8_weigh 98 = .ok (.iaload, 1) := by decide +kernel
theorem dX8_weigh_99 : decode cX8_weigh 99 = .ok (.iconst 1, 1) := by decide +kernel
theorem dX8_weigh_100 : decode cX8_weigh 100 = .ok (.iload_n 3, 1) := by decide +kernel
theorem dX8_weigh_101 : decode cX8_weigh 101 = .ok (.ishl, 1) := by decide +kernel
theorem dX8_weigh_102 : decode cX8_weigh 102 = .ok (.ior, 1) := by decide +kernel
theorem dX8_weigh_103 : decode cX8_weigh 103 = .ok (.iastore, 1) := by decide +kernel
theorem dX8_weigh_104 : decode cX8_weigh 104 = .ok (.iinc 3 1, 3) := by decide +kernel
theorem dX8_weigh_107 : decode cX8_weigh 107 = .ok (.goto (-68), 3) := by decide +kernel
theorem dX8_weigh_110 : decode cX8_weigh 110 = .ok (.iinc 2 1, 3) := by decide +kernel
theorem dX8_weigh_113 : decode cX8_weigh 113 = .ok (.goto (-111), 3) := by decide +kernel
theorem dX8_weigh_116 : decode cX8_weigh 116 = .ok (.return_, 1) := by decide +kernel
theorem dJ6_bitCount_0f7a4_0 : decode cJ6_bitCount_0f7a4 0 = .ok (.iload_n 0, 1) := by decide +kernel
theorem dJ6_bitCount_0f7a4_1 : decode cJ6_bitCount_0f7a4 1 = .ok (.iload_n 0, 1) := by decide +kernel
theorem dJ6_bitCount_0f7a4_2 : decode cJ6_bitCount_0f7a4 2 = .ok (.iconst 1, 1) := by decide +kernel
theorem dJ6_bitCount_0f7a4_3 : decode cJ6_bitCount_0f7a4 3 = .ok (.iushr, 1) := by decide +kernel
theorem dJ6_bitCount_0f7a4_4 : decode cJ6_bitCount_0f7a4 4 = .ok (.ldc_w 265, 3) := by decide +kernel
theorem dJ6_bitCount_0f7a4_7 : decode cJ6_bitCount_0f7a4 7 = .ok (.iand, 1) := by decide +kernel
theorem dJ6_bitCount_0f7a4_8 : decode cJ6_bitCount_0f7a4 8 = .ok (.isub, 1) := by decide +kernel
theorem dJ6_bitCount_0f7a4_9 : decode cJ6_bitCount_0f7a4 9 = .ok (.istore_n 0, 1) := by decide +kernel
theorem dJ6_bitCount_0f7a4_10 : decode cJ6_bitCount_0f7a4 10 = .ok (.iload_n 0, 1) := by decide +kernel
theorem dJ6_bitCount_0f7a4_11 : decode cJ6_bitCount_0f7a4 11 = .ok (.ldc_w 266, 3) := by decide +kernel
theorem dJ6_bitCount_0f7a4_14 : decode cJ6_bitCount_0f7a4 14 = .ok (.iand, 1) := by decide +kernel
theorem dJ6_bitCount_0f7a4_15 : decode cJ6_bitCount_0f7a4 15 = .ok (.iload_n 0, 1) := by decide +kernel
theorem dJ6_bitCount_0f7a4_16 : decode cJ6_bitCount_0f7a4 16 = .ok (.iconst 2, 1) := by decide +kernel
theorem dJ6_bitCount_0f7a4_17 : decode cJ6_bitCount_0f7a4 17 = .ok (.iushr, 1) := by decide +kernel
theorem dJ6_bitCount_0f7a4_18 : decode cJ6_bitCount_0f7a4 18 = .ok (.ldc_w 266, 3) := by decide +kernel
theorem dJ6_bitCount_0f7a4_21 : decode cJ6_bitCount_0f7a4 21 = .ok (.iand, 1) := by decide +kernel
theorem dJ6_bitCount_0f7a4_22 : decode cJ6_bitCount_0f7a4 22 = .ok (.iadd, 1) := by decide +kernel
theorem dJ6_bitCount_0f7a4_23 : decode cJ6_bitCount_0f7a4 23 = .ok (.istore_n 0, 1) := by decide +kernel
theorem dJ6_bitCount_0f7a4_24 : decode cJ6_bitCount_0f7a4 24 = .ok (.iload_n 0, 1) := by decide +kernel
theorem dJ6_bitCount_0f7a4_25 : decode cJ6_bitCount_0f7a4 25 = .ok (.iload_n 0, 1) := by decide +kernel
theorem dJ6_bitCount_0f7a4_26 : decode cJ6_bitCount_0f7a4 26 = .ok (.iconst 4, 1) := by decide +kernel
theorem dJ6_bitCount_0f7a4_27 : decode cJ6_bitCount_0f7a4 27 = .ok (.iushr, 1) := by decide +kernel
theorem dJ6_bitCount_0f7a4_28 : decode cJ6_bitCount_0f7a4 28 = .ok (.iadd, 1) := by decide +kernel
theorem dJ6_bitCount_0f7a4_29 : decode cJ6_bitCount_0f7a4 29 = .ok (.ldc_w 267, 3) := by decide +kernel
theorem dJ6_bitCount_0f7a4_32 : decode cJ6_bitCount_0f7a4 32 = .ok (.iand, 1) := by decide +kernel
theorem dJ6_bitCount_0f7a4_33 : decode cJ6_bitCount_0f7a4 33 = .ok (.istore_n 0, 1) := by decide +kernel
theorem dJ6_bitCount_0f7a4_34 : decode cJ6_bitCount_0f7a4 34 = .ok (.iload_n 0, 1) := by decide +kernel
theorem dJ6_bitCount_0f7a4_35 : decode cJ6_bitCount_0f7a4 35 = .ok (.iload_n 0, 1) := by decide +kernel
theorem dJ6_bitCount_0f7a4_36 : decode cJ6_bitCount_0f7a4 36 = .ok (.bipush 8, 2) := by decide +kernel
theorem dJ6_bitCount_0f7a4_38 : decode cJ6_bitCount_0f7a4 38 = .ok (.iushr, 1) := by decide +kernel
theorem dJ6_bitCount_0f7a4_39 : decode cJ6_bitCount_0f7a4 39 = .ok (.iadd, 1) := by decide +kernel
theorem dJ6_bitCount_0f7a4_40 : decode cJ6_bitCount_0f7a4 40 = .ok (.istore_n 0, 1) := by decide +kernel
theorem dJ6_bitCount_0f7a4_41 : decode cJ6_bitCount_0f7a4 41 = .ok (.iload_n 0, 1) := by decide +kernel
theorem dJ6_bitCount_0f7a4_42 : decode cJ6_bitCount_0f7a4 42 = .ok (.iload_n 0, 1) := by decide +kernel
theorem dJ6_bitCount_0f7a4_43 : decode cJ6_bitCount_0f7a4 43 = .ok (.bipush 16, 2) := by decide +kernel
theorem dJ6_bitCount_0f7a4_45 : decode cJ6_bitCount_0f7a4 45 = .ok (.iushr, 1) := by decide +kernel
theorem dJ6_bitCount_0f7a4_46 : decode cJ6_bitCount_0f7a4 46 = .ok (.iadd, 1) := by decide +kernel
theorem dJ6_bitCount_0f7a4_47 : decode cJ6_bitCount_0f7a4 47 = .ok (.istore_n 0, 1) := by decide +kernel
theorem dJ6_bitCount_0f7a4_48 : decode cJ6_bitCount_0f7a4 48 = .ok (.iload_n 0, 1) := by decide +kernel
theorem dJ6_bitCount_0f7a4_49 : decode cJ6_bitCount_0f7a4 49 = .ok (.bipush 63, 2) := by decide +kernel
theorem dJ6_bitCount_0f7a4_51 : decode cJ6_bitCount_0f7a4 51 = .ok (.iand, 1) := by decide +kernel
theorem dJ6_bitCount_0f7a4_52 : decode cJ6_bitCount_0f7a4 52 = .ok (.ireturn, 1) := by decide +kernel
theorem dX8_suffices_0 : decode cX8_suffices 0 = .ok (.iconst 0, 1) := by decide +kernel
theorem dX8_suffices_1 : decode cX8_suffices 1 = .ok (.istore_n 3, 1) := by decide +kernel
theorem dX8_suffices_2 : decode cX8_suffices 2 = .ok (.iload_n 3, 1) := by decide +kernel
theorem dX8_suffices_3 : decode cX8_suffices 3 = .ok (.aload_n 1, 1) := by decide +kernel
theorem dX8_suffices_4 : decode cX8_suffices 4 = .ok (.getfield 32, 3) := by decide +kernel
theorem dX8_suffices_7 : decode cX8_suffices 7 = .ok (.if_icmp .ge 26, 3) := by decide +kernel
theorem dX8_suffices_10 : decode cX8_suffices 10 = .ok (.aload_n 0, 1) := by decide +kernel
theorem dX8_suffices_11 : decode cX8_suffices 11 = .ok (.getfield 9, 3) := by decide +kernel
theorem dX8_suffices_14 : decode cX8_suffices 14 = .ok (.iload_n 3, 1) := by decide +kernel
theorem dX8_suffices_15 : decode cX8_suffices 15 = .ok (.iaload, 1) := by decide +kernel
theorem dX8_suffices_16 : decode cX8_suffices 16 = .ok (.iload_n 2, 1) := by decide +kernel
theorem dX8_suffices_17 : decode cX8_suffices 17 = .ok (.sipush 4096, 3) := by decide +kernel
theorem dX8_suffices_20 : decode cX8_suffices 20 = .ok (.ior, 1) := by decide +kernel
theorem dX8_suffices_21 : decode cX8_suffices 21 = .ok (.iand, 1) := by decide +kernel
theorem dX8_suffices_22 : decode cX8_suffices 22 = .ok (.ifCond .ne 5, 3) := by decide +kernel
theorem dX8_suffices_25 : decode cX8_suffices 25 = .ok (.iconst 0, 1) := by decide +kernel
theorem dX8_suffices_26 : decode cX8_suffices 26 = .ok (.ireturn, 1) := by decide +kernel
theorem dX8_suffices_27 : decode cX8_suffices 27 = .ok (.iinc 3 1, 3) := by decide +kernel
theorem dX8_suffices_30 : decode cX8_suffices 30 = .ok (.goto (-28), 3) := by decide +kernel
theorem dX8_suffices_33 : decode cX8_suffices 33 = .ok (.iconst 1, 1) := by decide +kernel
theorem dX8_suffices_34 : decode cX8_suffices 34 = .ok (.ireturn, 1) := by decide +kernel
theorem dX8_leastSet_0 : decode cX8_leastSet 0 = .ok (.iconst (-1), 1) := by decide +kernel
theorem dX8_leastSet_1 : decode cX8_leastSet 1 = .ok (.istore_n 2, 1) := by decide +kernel
theorem dX8_leastSet_2 : decode cX8_leastSet 2 = .ok (.bipush 13, 2) := by decide +kernel
theorem dX8_leastSet_4 : decode cX8_leastSet 4 = .ok (.istore_n 3, 1) := by decide +kernel
theorem dX8_leastSet_5 : decode cX8_leastSet 5 = .ok (.iconst 0, 1) := by decide +kernel
theorem dX8_leastSet_6 : decode cX8_leastSet 6 = .ok (.istore 4, 2) := by decide +kernel
theorem dX8_leastSet_8 : decode cX8_leastSet 8 = .ok (.iload 4, 2) := by decide +kernel
theorem dX8_leastSet_10 : decode cX8_leastSet 10 = .ok (.iconst 1, 1) := by decide +kernel
theorem dX8_leastSet_11 : decode cX8_leastSet 11 = .ok (.aload_n 1, 1) := by decide +kernel
theorem dX8_leastSet_12 : decode cX8_leastSet 12 = .ok (.getfield 45, 3) := by decide +kernel
theorem dX8_leastSet_15 : decode cX8_leastSet 15 = .ok (.ishl, 1) := by decide +kernel
theorem dX8_leastSet_16 : decode cX8_leastSet 16 = .ok (.if_icmp .ge 37, 3) := by decide +kernel
theorem dX8_leastSet_19 : decode cX8_leastSet 19 = .ok (.iload 4, 2) := by decide +kernel
theorem dX8_leastSet_21 : decode cX8_leastSet 21 = .ok (.invokestatic 108, 3) := by decide +kernel
theorem dX8_leastSet_24 : decode cX8_leastSet 24 = .ok (.iload_n 3, 1) := by decide +kernel
theorem dX8_leastSet_25 : decode cX8_leastSet 25 = .ok (.if_icmp .ge 22, 3) := by decide +kernel
theorem dX8_leastSet_28 : decode cX8_leastSet 28 = .ok (.aload_n 0, 1) := by decide +kernel
theorem dX8_leastSet_29 : decode cX8_leastSet 29 = .ok (.aload_n 1, 1) := by decide +kernel
theorem dX8_leastSet_30 : decode cX8_leastSet 30 = .ok (.iload 4, 2) := by decide +kernel
theorem dX8_leastSet_32 : decode cX8_leastSet 32 = .ok (.invokevirtual 113, 3) := by decide +kernel
theorem dX8_leastSet_35 : decode cX8_leastSet 35 = .ok (.ifCond .eq 12, 3) := by decide +kernel
theorem dX8_leastSet_38 : decode cX8_leastSet 38 = .ok (.iload 4, 2) := by decide +kernel
theorem dX8_leastSet_40 : decode cX8_leastSet 40 = .ok (.istore_n 2, 1) := by decide +kernel
theorem dX8_leastSet_41 : decode cX8_leastSet 41 = .ok (.iload 4, 2) := by decide +kernel
theorem dX8_leastSet_43 : decode cX8_leastSet 43 = .ok (.invokestatic 108, 3) := by decide +kernel
theorem dX8_leastSet_46 : decode cX8_leastSet 46 = .ok (.istore_n 3, 1) := by decide +kernel
theorem dX8_leastSet_47 : decode cX8_leastSet 47 = .ok (.iinc 4 1, 3) := by decide +kernel
theorem dX8_leastSet_50 : decode cX8_leastSet 50 = .ok (.goto (-42), 3) := by decide +kernel
theorem dX8_leastSet_53 : decode cX8_leastSet 53 = .ok (.iload_n 2, 1) := by decide +kernel
theorem dX8_leastSet_54 : decode cX8_leastSet 54 = .ok (.ireturn, 1) := by decide +kernel
theorem dJ6_numberOfTrailingZeros_0f7a4_0 : decode cJ6_numberOfTrailingZeros_0f7a4 0 = .ok (.iload_n 0, 1) := by decide +kernel
theorem dJ6_numberOfTrailingZeros_0f7a4_1 : decode cJ6_numberOfTrailingZeros_0f7a4 1 = .ok (.iconst (-1), 1) := by decide +kernel
theorem dJ6_numberOfTrailingZeros_0f7a4_2 : decode cJ6_numberOfTrailingZeros_0f7a4 2 = .ok (.ixor, 1) := by decide +kernel
theorem dJ6_numberOfTrailingZeros_0f7a4_3 : decode cJ6_numberOfTrailingZeros_0f7a4 3 = .ok (.iload_n 0, 1) := by decide +kernel
theorem dJ6_numberOfTrailingZeros_0f7a4_4 : decode cJ6_numberOfTrailingZeros_0f7a4 4 = .ok (.iconst 1, 1) := by decide +kernel
theorem dJ6_numberOfTrailingZeros_0f7a4_5 : decode cJ6_numberOfTrailingZeros_0f7a4 5 = .ok (.isub, 1) := by decide +kernel
theorem dJ6_numberOfTrailingZeros_0f7a4_6 : decode cJ6_numberOfTrailingZeros_0f7a4 6 = .ok (.iand, 1) := by decide +kernel
theorem dJ6_numberOfTrailingZeros_0f7a4_7 : decode cJ6_numberOfTrailingZeros_0f7a4 7 = .ok (.istore_n 0, 1) := by decide +kernel
theorem dJ6_numberOfTrailingZeros_0f7a4_8 : decode cJ6_numberOfTrailingZeros_0f7a4 8 = .ok (.iload_n 0, 1) := by decide +kernel
theorem dJ6_numberOfTrailingZeros_0f7a4_9 : decode cJ6_numberOfTrailingZeros_0f7a4 9 = .ok (.ifCond .gt 8, 3) := by decide +kernel
theorem dJ6_numberOfTrailingZeros_0f7a4_12 : decode cJ6_numberOfTrailingZeros_0f7a4 12 = .ok (.iload_n 0, 1) := by decide +kernel
theorem dJ6_numberOfTrailingZeros_0f7a4_13 : decode cJ6_numberOfTrailingZeros_0f7a4 13 = .ok (.bipush 32, 2) := by decide +kernel
theorem dJ6_numberOfTrailingZeros_0f7a4_15 : decode cJ6_numberOfTrailingZeros_0f7a4 15 = .ok (.iand, 1) := by decide +kernel
theorem dJ6_numberOfTrailingZeros_0f7a4_16 : decode cJ6_numberOfTrailingZeros_0f7a4 16 = .ok (.ireturn, 1) := by decide +kernel
theorem dJ6_numberOfTrailingZeros_0f7a4_17 : decode cJ6_numberOfTrailingZeros_0f7a4 17 = .ok (.iconst 1, 1) := by decide +kernel
theorem dJ6_numberOfTrailingZeros_0f7a4_18 : decode cJ6_numberOfTrailingZeros_0f7a4 18 = .ok (.istore_n 1, 1) := by decide +kernel
theorem dJ6_numberOfTrailingZeros_0f7a4_19 : decode cJ6_numberOfTrailingZeros_0f7a4 19 = .ok (.iload_n 0, 1) := by decide +kernel
theorem dJ6_numberOfTrailingZeros_0f7a4_20 : decode cJ6_numberOfTrailingZeros_0f7a4 20 = .ok (.ldc_w 264, 3) := by decide +kernel
theorem dJ6_numberOfTrailingZeros_0f7a4_23 : decode cJ6_numberOfTrailingZeros_0f7a4 23 = .ok (.if_icmp .le 11, 3) := by decide +kernel
theorem dJ6_numberOfTrailingZeros_0f7a4_26 : decode cJ6_numberOfTrailingZeros_0f7a4 26 = .ok (.iinc 1 16, 3) := by decide +kernel
theorem dJ6_numberOfTrailingZeros_0f7a4_29 : decode cJ6_numberOfTrailingZeros_0f7a4 29 = .ok (.iload_n 0, 1) := by decide +kernel
theorem dJ6_numberOfTrailingZeros_0f7a4_30 : decode cJ6_numberOfTrailingZeros_0f7a4 30 = .ok (.bipush 16, 2) := by decide +kernel
theorem dJ6_numberOfTrailingZeros_0f7a4_32 : decode cJ6_numberOfTrailingZeros_0f7a4 32 = .ok (.iushr, 1) := by decide +kernel
theorem dJ6_numberOfTrailingZeros_0f7a4_33 : decode cJ6_numberOfTrailingZeros_0f7a4 33 = .ok (.istore_n 0, 1) := by decide +kernel
theorem dJ6_numberOfTrailingZeros_0f7a4_34 : decode cJ6_numberOfTrailingZeros_0f7a4 34 = .ok (.iload_n 0, 1) := by decide +kernel
theorem dJ6_numberOfTrailingZeros_0f7a4_35 : decode cJ6_numberOfTrailingZeros_0f7a4 35 = .ok (.sipush 256, 3) := by decide +kernel
theorem dJ6_numberOfTrailingZeros_0f7a4_38 : decode cJ6_numberOfTrailingZeros_0f7a4 38 = .ok (.if_icmp .le 11, 3) := by decide +kernel
theorem dJ6_numberOfTrailingZeros_0f7a4_41 : decode cJ6_numberOfTrailingZeros_0f7a4 41 = .ok (.iinc 1 8, 3) := by decide +kernel
theorem dJ6_numberOfTrailingZeros_0f7a4_44 : decode cJ6_numberOfTrailingZeros_0f7a4 44 = .ok (.iload_n 0, 1) := by decide +kernel
theorem dJ6_numberOfTrailingZeros_0f7a4_45 : decode cJ6_numberOfTrailingZeros_0f7a4 45 = .ok (.bipush 8, 2) := by decide +kernel
theorem dJ6_numberOfTrailingZeros_0f7a4_47 : decode cJ6_numberOfTrailingZeros_0f7a4 47 = .ok (.iushr, 1) := by decide +kernel
theorem dJ6_numberOfTrailingZeros_0f7a4_48 : decode cJ6_numberOfTrailingZeros_0f7a4 48 = .ok (.istore_n 0, 1) := by decide +kernel
theorem dJ6_numberOfTrailingZeros_0f7a4_49 : decode cJ6_numberOfTrailingZeros_0f7a4 49 = .ok (.iload_n 0, 1) := by decide +kernel
theorem dJ6_numberOfTrailingZeros_0f7a4_50 : decode cJ6_numberOfTrailingZeros_0f7a4 50 = .ok (.bipush 16, 2) := by decide +kernel
theorem dJ6_numberOfTrailingZeros_0f7a4_52 : decode cJ6_numberOfTrailingZeros_0f7a4 52 = .ok (.if_icmp .le 10, 3) := by decide +kernel
theorem dJ6_numberOfTrailingZeros_0f7a4_55 : decode cJ6_numberOfTrailingZeros_0f7a4 55 = .ok (.iinc 1 4, 3) := by decide +kernel
theorem dJ6_numberOfTrailingZeros_0f7a4_58 : decode cJ6_numberOfTrailingZeros_0f7a4 58 = .ok (.iload_n 0, 1) := by decide +kernel
theorem dJ6_numberOfTrailingZeros_0f7a4_59 : decode cJ6_numberOfTrailingZeros_0f7a4 59 = .ok (.iconst 4, 1) := by decide +kernel
theorem dJ6_numberOfTrailingZeros_0f7a4_60 : decode cJ6_numberOfTrailingZeros_0f7a4 60 = .ok (.iushr, 1) := by decide +kernel
theorem dJ6_numberOfTrailingZeros_0f7a4_61 : decode cJ6_numberOfTrailingZeros_0f7a4 61 = .ok (.istore_n 0, 1) := by decide +kernel
theorem dJ6_numberOfTrailingZeros_0f7a4_62 : decode cJ6_numberOfTrailingZeros_0f7a4 62 = .ok (.iload_n 0, 1) := by decide +kernel
theorem dJ6_numberOfTrailingZeros_0f7a4_63 : decode cJ6_numberOfTrailingZeros_0f7a4 63 = .ok (.iconst 4, 1) := by decide +kernel
theorem dJ6_numberOfTrailingZeros_0f7a4_64 : decode cJ6_numberOfTrailingZeros_0f7a4 64 = .ok (.if_icmp .le 10, 3) := by decide +kernel
theorem dJ6_numberOfTrailingZeros_0f7a4_67 : decode cJ6_numberOfTrailingZeros_0f7a4 67 = .ok (.iinc 1 2, 3) := by decide +kernel
theorem dJ6_numberOfTrailingZeros_0f7a4_70 : decode cJ6_numberOfTrailingZeros_0f7a4 70 = .ok (.iload_n 0, 1) := by decide +kernel
theorem dJ6_numberOfTrailingZeros_0f7a4_71 : decode cJ6_numberOfTrailingZeros_0f7a4 71 = .ok (.iconst 2, 1) := by decide +kernel
theorem dJ6_numberOfTrailingZeros_0f7a4_72 : decode cJ6_numberOfTrailingZeros_0f7a4 72 = .ok (.iushr, 1) := by decide +kernel
theorem dJ6_numberOfTrailingZeros_0f7a4_73 : decode cJ6_numberOfTrailingZeros_0f7a4 73 = .ok (.istore_n 0, 1) := by decide +kernel
theorem dJ6_numberOfTrailingZeros_0f7a4_74 : decode cJ6_numberOfTrailingZeros_0f7a4 74 = .ok (.iload_n 1, 1) := by decide +kernel
theorem dJ6_numberOfTrailingZeros_0f7a4_75 : decode cJ6_numberOfTrailingZeros_0f7a4 75 = .ok (.iload_n 0, 1) := by decide +kernel
theorem dJ6_numberOfTrailingZeros_0f7a4_76 : decode cJ6_numberOfTrailingZeros_0f7a4 76 = .ok (.iconst 1, 1) := by decide +kernel
theorem dJ6_numberOfTrailingZeros_0f7a4_77 : decode cJ6_numberOfTrailingZeros_0f7a4 77 = .ok (.iushr, 1) := by decide +kernel
theorem dJ6_numberOfTrailingZeros_0f7a4_78 : decode cJ6_numberOfTrailingZeros_0f7a4 78 = .ok (.iadd, 1) := by decide +kernel
theorem dJ6_numberOfTrailingZeros_0f7a4_79 : decode cJ6_numberOfTrailingZeros_0f7a4 79 = .ok (.ireturn, 1) := by decide +kernel
theorem dX8_readerOf_0 : decode cX8_readerOf 0 = .ok (.iload_n 2, 1) := by decide +kernel
theorem dX8_readerOf_1 : decode cX8_readerOf 1 = .ok (.iconst 0, 1) := by decide +kernel
theorem dX8_readerOf_2 : decode cX8_readerOf 2 = .ok (.aload_n 1, 1) := by decide +kernel
theorem dX8_readerOf_3 : decode cX8_readerOf 3 = .ok (.getfield 32, 3) := by decide +kernel
theorem dX8_readerOf_6 : decode cX8_readerOf 6 = .ok (.iconst 1, 1) := by decide +kernel
theorem dX8_readerOf_7 : decode cX8_readerOf 7 = .ok (.isub, 1) := by decide +kernel
theorem dX8_readerOf_8 : decode cX8_readerOf 8 = .ok (.invokestatic 104, 3) := by decide +kernel
theorem dX8_readerOf_11 : decode cX8_readerOf 11 = .ok (.ifCond .eq 16, 3) := by decide +kernel
theorem dX8_readerOf_14 : decode cX8_readerOf 14 = .ok (.aload_n 0, 1) := by decide +kernel
theorem dX8_readerOf_15 : decode cX8_readerOf 15 = .ok (.getfield 9, 3) := by decide +kernel
theorem dX8_readerOf_18 : decode cX8_readerOf 18 = .ok (.iload_n 2, 1) := by decide +kernel
theorem dX8_readerOf_19 : decode cX8_readerOf 19 = .ok (.iaload, 1) := by decide +kernel
theorem dX8_readerOf_20 : decode cX8_readerOf 20 = .ok (.sipush 4096, 3) := by decide +kernel
theorem dX8_readerOf_23 : decode cX8_readerOf 23 = .ok (.iand, 1) := by decide +kernel
theorem dX8_readerOf_24 : decode cX8_readerOf 24 = .ok (.ifCond .eq 5, 3) := by decide +kernel
theorem dX8_readerOf_27 : decode cX8_readerOf 27 = .ok (.iconst (-1), 1) := by decide +kernel
theorem dX8_readerOf_28 : decode cX8_readerOf 28 = .ok (.ireturn, 1) := by decide +kernel
theorem dX8_readerOf_29 : decode cX8_readerOf 29 = .ok (.aload_n 0, 1) := by decide +kernel
theorem dX8_readerOf_30 : decode cX8_readerOf 30 = .ok (.getfield 9, 3) := by decide +kernel
theorem dX8_readerOf_33 : decode cX8_readerOf 33 = .ok (.iload_n 2, 1) := by decide +kernel
theorem dX8_readerOf_34 : decode cX8_readerOf 34 = .ok (.iaload, 1) := by decide +kernel
theorem dX8_readerOf_35 : decode cX8_readerOf 35 = .ok (.iload_n 3, 1) := by decide +kernel
theorem dX8_readerOf_36 : decode cX8_readerOf 36 = .ok (.iand, 1) := by decide +kernel
theorem dX8_readerOf_37 : decode cX8_readerOf 37 = .ok (.invokestatic 117, 3) := by decide +kernel
theorem dX8_readerOf_40 : decode cX8_readerOf 40 = .ok (.ireturn, 1) := by decide +kernel
theorem dX11_fewest_0 : decode cX11_fewest 0 = .ok (.iload_n 1, 1) := by decide +kernel
theorem dX11_fewest_1 : decode cX11_fewest 1 = .ok (.bipush 10, 2) := by decide +kernel
theorem dX11_fewest_3 : decode cX11_fewest 3 = .ok (.bipush 21, 2) := by decide +kernel
theorem dX11_fewest_5 : decode cX11_fewest 5 = .ok (.invokestatic 56, 3) := by decide +kernel
theorem dX11_fewest_8 : decode cX11_fewest 8 = .ok (.istore_n 2, 1) := by decide +kernel
theorem dX11_fewest_9 : decode cX11_fewest 9 = .ok (.iload_n 1, 1) := by decide +kernel
theorem dX11_fewest_10 : decode cX11_fewest 10 = .ok (.ifCond .eq 7, 3) := by decide +kernel
theorem dX11_fewest_13 : decode cX11_fewest 13 = .ok (.iload_n 2, 1) := by decide +kernel
theorem dX11_fewest_14 : decode cX11_fewest 14 = .ok (.ifCond .eq 23, 3) := by decide +kernel
theorem dX11_fewest_17 : decode cX11_fewest 17 = .ok (.aload_n 0, 1) := by decide +kernel
theorem dX11_fewest_18 : decode cX11_fewest 18 = .ok (.getfield 10, 3) := by decide +kernel
theorem dX11_fewest_21 : decode cX11_fewest 21 = .ok (.getfield 232, 3) := by decide +kernel
theorem dX11_fewest_24 : decode cX11_fewest 24 = .ok (.aload_n 0, 1) := by decide +kernel
theorem dX11_fewest_25 : decode cX11_fewest 25 = .ok (.getfield 10, 3) := by decide +kernel
theorem dX11_fewest_28 : decode cX11_fewest 28 = .ok (.getfield 80, 3) := by decide +kernel
theorem dX11_fewest_31 : decode cX11_fewest 31 = .ok (.invokevirtual 243, 3) := by decide +kernel
theorem dX11_fewest_34 : decode cX11_fewest 34 = .ok (.ifCond .eq 5, 3) := by decide +kernel
theorem dX11_fewest_37 : decode cX11_fewest 37 = .ok (.iconst (-1), 1) := by decide +kernel
theorem dX11_fewest_38 : decode cX11_fewest 38 = .ok (.ireturn, 1) := by decide +kernel
theorem dX11_fewest_39 : decode cX11_fewest 39 = .ok (.aload_n 0, 1) := by decide +kernel
theorem dX11_fewest_40 : decode cX11_fewest 40 = .ok (.getfield 47, 3) := by decide +kernel
theorem dX11_fewest_43 : decode cX11_fewest 43 = .ok (.aload_n 0, 1) := by decide +kernel
theorem dX11_fewest_44 : decode cX11_fewest 44 = .ok (.getfield 10, 3) := by decide +kernel
theorem dX11_fewest_47 : decode cX11_fewest 47 = .ok (.invokevirtual 246, 3) := by decide +kernel
theorem dX11_fewest_50 : decode cX11_fewest 50 = .ok (.aload_n 0, 1) := by decide +kernel
theorem dX11_fewest_51 : decode cX11_fewest 51 = .ok (.getfield 47, 3) := by decide +kernel
theorem dX11_fewest_54 : decode cX11_fewest 54 = .ok (.aload_n 0, 1) := by decide +kernel
theorem dX11_fewest_55 : decode cX11_fewest 55 = .ok (.getfield 10, 3) := by decide +kernel
theorem dX11_fewest_58 : decode cX11_fewest 58 = .ok (.invokevirtual 250, 3) := by decide +kernel
theorem dX11_fewest_61 : decode cX11_fewest 61 = .ok (.istore_n 3, 1) := by decide +kernel
theorem dX11_fewest_62 : decode cX11_fewest 62 = .ok (.iload_n 1, 1) := by decide +kernel
theorem dX11_fewest_63 : decode cX11_fewest 63 = .ok (.ifCond .eq 8, 3) := by decide +kernel
theorem dX11_fewest_66 : decode cX11_fewest 66 = .ok (.iload_n 3, 1) := by decide +kernel
theorem dX11_fewest_67 : decode cX11_fewest 67 = .ok (.iconst (-1), 1) := by decide +kernel
theorem dX11_fewest_68 : decode cX11_fewest 68 = .ok (.if_icmp .ne 5, 3) := by decide +kernel
theorem dX11_fewest_71 : decode cX11_fewest 71 = .ok (.iload_n 3, 1) := by decide +kernel
theorem dX11_fewest_72 : decode cX11_fewest 72 = .ok (.ireturn, 1) := by decide +kernel
theorem dX11_fewest_73 : decode cX11_fewest 73 = .ok (.aload_n 0, 1) := by decide +kernel
theorem dX11_fewest_74 : decode cX11_fewest 74 = .ok (.getfield 47, 3) := by decide +kernel
theorem dX11_fewest_77 : decode cX11_fewest 77 = .ok (.aload_n 0, 1) := by decide +kernel
theorem dX11_fewest_78 : decode cX11_fewest 78 = .ok (.getfield 10, 3) := by decide +kernel
theorem dX11_fewest_81 : decode cX11_fewest 81 = .ok (.iload_n 1, 1) := by decide +kernel
theorem dX11_fewest_82 : decode cX11_fewest 82 = .ok (.bipush 10, 2) := by decide +kernel
theorem dX11_fewest_84 : decode cX11_fewest 84 = .ok (.isub, 1) := by decide +kernel
theorem dX11_fewest_85 : decode cX11_fewest 85 = .ok (.iload_n 3, 1) := by decide +kernel
theorem dX11_fewest_86 : decode cX11_fewest 86 = .ok (.invokevirtual 254, 3) := by decide +kernel
theorem dX11_fewest_89 : decode cX11_fewest 89 = .ok (.ireturn, 1) := by decide +kernel
theorem dX8_countThumb_0 : decode cX8_countThumb 0 = .ok (.aload_n 0, 1) := by decide +kernel
theorem dX8_countThumb_1 : decode cX8_countThumb 1 = .ok (.getfield 22, 3) := by decide +kernel
theorem dX8_countThumb_4 : decode cX8_countThumb 4 = .ok (.ifCond .ne 13, 3) := by decide +kernel
theorem dX8_countThumb_7 : decode cX8_countThumb 7 = .ok (.aload_n 0, 1) := by decide +kernel
theorem dX8_countThumb_8 : decode cX8_countThumb 8 = .ok (.iload_n 1, 1) := by decide +kernel
theorem dX8_countThumb_9 : decode cX8_countThumb 9 = .ok (.putfield 26, 3) := by decide +kernel
theorem dX8_countThumb_12 : decode cX8_countThumb 12 = .ok (.aload_n 0, 1) := by decide +kernel
theorem dX8_countThumb_13 : decode cX8_countThumb 13 = .ok (.iload_n 2, 1) := by decide +kernel
theorem dX8_countThumb_14 : decode cX8_countThumb 14 = .ok (.putfield 29, 3) := by decide +kernel
theorem dX8_countThumb_17 : decode cX8_countThumb 17 = .ok (.aload_n 0, 1) := by decide +kernel
theorem dX8_countThumb_18 : decode cX8_countThumb 18 = .ok (.dup, 1) := by decide +kernel
theorem dX8_countThumb_19 : decode cX8_countThumb 19 = .ok (.getfield 22, 3) := by decide +kernel
theorem dX8_countThumb_22 : decode cX8_countThumb 22 = .ok (.iconst 1, 1) := by decide +kernel
theorem dX8_countThumb_23 : decode cX8_countThumb 23 = .ok (.iadd, 1) := by decide +kernel
theorem dX8_countThumb_24 : decode cX8_countThumb 24 = .ok (.putfield 22, 3) := by decide +kernel
theorem dX8_countThumb_27 : decode cX8_countThumb 27 = .ok (.return_, 1) := by decide +kernel
theorem dX8_seekThumbs_0 : decode cX8_seekThumbs 0 = .ok (.aload_n 0, 1) := by decide +kernel
theorem dX8_seekThumbs_1 : decode cX8_seekThumbs 1 = .ok (.iconst 0, 1) := by decide +kernel
theorem dX8_seekThumbs_2 : decode cX8_seekThumbs 2 = .ok (.putfield 22, 3) := by decide +kernel
theorem dX8_seekThumbs_5 : decode cX8_seekThumbs 5 = .ok (.aload_n 0, 1) := by decide +kernel
theorem dX8_seekThumbs_6 : decode cX8_seekThumbs 6 = .ok (.iconst (-1), 1) := by decide +kernel
theorem dX8_seekThumbs_7 : decode cX8_seekThumbs 7 = .ok (.putfield 26, 3) := by decide +kernel
theorem dX8_seekThumbs_10 : decode cX8_seekThumbs 10 = .ok (.aload_n 0, 1) := by decide +kernel
theorem dX8_seekThumbs_11 : decode cX8_seekThumbs 11 = .ok (.iconst (-1), 1) := by decide +kernel
theorem dX8_seekThumbs_12 : decode cX8_seekThumbs 12 = .ok (.putfield 29, 3) := by decide +kernel
theorem dX8_seekThumbs_15 : decode cX8_seekThumbs 15 = .ok (.aload_n 2, 1) := by decide +kernel
theorem dX8_seekThumbs_16 : decode cX8_seekThumbs 16 = .ok (.getfield 120, 3) := by decide +kernel
theorem dX8_seekThumbs_19 : decode cX8_seekThumbs 19 = .ok (.iconst 0, 1) := by decide +kernel
theorem dX8_seekThumbs_20 : decode cX8_seekThumbs 20 = .ok (.aload_n 1, 1) := by decide +kernel
theorem dX8_seekThumbs_21 : decode cX8_seekThumbs 21 = .ok (.getfield 48, 3) := by decide +kernel
theorem dX8_seekThumbs_24 : decode cX8_seekThumbs 24 = .ok (.bipush 99, 2) := by decide +kernel
theorem dX8_seekThumbs_26 : decode cX8_seekThumbs 26 = .ok (.isub, 1) := by decide +kernel
theorem dX8_seekThumbs_27 : decode cX8_seekThumbs 27 = .ok (.invokestatic 123, 3) := by decide +kernel
theorem dX8_seekThumbs_30 : decode cX8_seekThumbs 30 = .ok (.invokestatic 123, 3) := by decide +kernel
theorem dX8_seekThumbs_33 : decode cX8_seekThumbs 33 = .ok (.istore 4, 2) := by decide +kernel
theorem dX8_seekThumbs_35 : decode cX8_seekThumbs 35 = .ok (.iconst 0, 1) := by decide +kernel
theorem dX8_seekThumbs_36 : decode cX8_seekThumbs 36 = .ok (.istore 5, 2) := by decide +kernel
theorem dX8_seekThumbs_38 : decode cX8_seekThumbs 38 = .ok (.iload 5, 2) := by decide +kernel
theorem dX8_seekThumbs_40 : decode cX8_seekThumbs 40 = .ok (.aload_n 1, 1) := by decide +kernel
theorem dX8_seekThumbs_41 : decode cX8_seekThumbs 41 = .ok (.getfield 45, 3) := by decide +kernel
theorem dX8_seekThumbs_44 : decode cX8_seekThumbs 44 = .ok (.if_icmp .ge 67, 3) := by decide +kernel
theorem dX8_seekThumbs_47 : decode cX8_seekThumbs 47 = .ok (.iload 4, 2) := by decide +kernel
theorem dX8_seekThumbs_49 : decode cX8_seekThumbs 49 = .ok (.istore 6, 2) := by decide +kernel
theorem dX8_seekThumbs_51 : decode cX8_seekThumbs 51 = .ok (.iload 6, 2) := by decide +kernel
theorem dX8_seekThumbs_53 : decode cX8_seekThumbs 53 = .ok (.aload_n 1, 1) := by decide +kernel
theorem dX8_seekThumbs_54 : decode cX8_seekThumbs 54 = .ok (.getfield 48, 3) := by decide +kernel
theorem dX8_seekThumbs_57 : decode cX8_seekThumbs 57 = .ok (.if_icmp .gt 48, 3) := by decide +kernel
theorem dX8_seekThumbs_60 : decode cX8_seekThumbs 60 = .ok (.aload_n 0, 1) := by decide +kernel
theorem dX8_seekThumbs_61 : decode cX8_seekThumbs 61 = .ok (.aload_n 1, 1) := by decide +kernel
theorem dX8_seekThumbs_62 : decode cX8_seekThumbs 62 = .ok (.aload_n 2, 1) := by decide +kernel
theorem dX8_seekThumbs_63 : decode cX8_seekThumbs 63 = .ok (.iload 5, 2) := by decide +kernel
theorem dX8_seekThumbs_65 : decode cX8_seekThumbs 65 = .ok (.iload 6, 2) := by decide +kernel
theorem dX8_seekThumbs_67 : decode cX8_seekThumbs 67 = .ok (.invokevirtual 51, 3) := by decide +kernel
theorem dX8_seekThumbs_70 : decode cX8_seekThumbs 70 = .ok (.astore 7, 2) := by decide +kernel
theorem dX8_seekThumbs_72 : decode cX8_seekThumbs 72 = .ok (.aload 7, 2) := by decide +kernel
theorem dX8_seekThumbs_74 : decode cX8_seekThumbs 74 = .ok (.ifnull 25, 3) := by decide +kernel
theorem dX8_seekThumbs_77 : decode cX8_seekThumbs 77 = .ok (.aload_n 1, 1) := by decide +kernel
theorem dX8_seekThumbs_78 : decode cX8_seekThumbs 78 = .ok (.aload 7, 2) := by decide +kernel
theorem dX8_seekThumbs_80 : decode cX8_seekThumbs 80 = .ok (.aload_n 1, 1) := by decide +kernel
theorem dX8_seekThumbs_81 : decode cX8_seekThumbs 81 = .ok (.getfield 48, 3) := by decide +kernel
theorem dX8_seekThumbs_84 : decode cX8_seekThumbs 84 = .ok (.invokevirtual 94, 3) := by decide +kernel
theorem dX8_seekThumbs_87 : decode cX8_seekThumbs 87 = .ok (.iload_n 3, 1) := by decide +kernel
theorem dX8_seekThumbs_88 : decode cX8_seekThumbs 88 = .ok (.if_icmp .ne 11, 3) := by decide +kernel
theorem dX8_seekThumbs_91 : decode cX8_seekThumbs 91 = .ok (.aload_n 0, 1) := by decide +kernel
theorem dX8_seekThumbs_92 : decode cX8_seekThumbs 92 = .ok (.iload 5, 2) := by decide +kernel
theorem dX8_seekThumbs_94 : decode cX8_seekThumbs 94 = .ok (.iload 6, 2) := by decide +kernel
theorem dX8_seekThumbs_96 : decode cX8_seekThumbs 96 = .ok (.invokevirtual 129, 3) := by decide +kernel
theorem dX8_seekThumbs_99 : decode cX8_seekThumbs 99 = .ok (.iinc 6 1, 3) := by decide +kernel
theorem dX8_seekThumbs_102 : decode cX8_seekThumbs 102 = .ok (.goto (-51), 3) := by decide +kernel
theorem dX8_seekThumbs_105 : decode cX8_seekThumbs 105 = .ok (.iinc 5 1, 3) := by decide +kernel
theorem dX8_seekThumbs_108 : decode cX8_seekThumbs 108 = .ok (.goto (-70), 3) := by decide +kernel
theorem dX8_seekThumbs_111 : decode cX8_seekThumbs 111 = .ok (.return_, 1) := by decide +kernel
theorem dX11_thumbs_0 : decode cX11_thumbs 0 = .ok (.aload_n 0, 1) := by decide +kernel
theorem dX11_thumbs_1 : decode cX11_thumbs 1 = .ok (.getfield 10, 3) := by decide +kernel
theorem dX11_thumbs_4 : decode cX11_thumbs 4 = .ok (.iload_n 1, 1) := by decide +kernel
theorem dX11_thumbs_5 : decode cX11_thumbs 5 = .ok (.invokevirtual 102, 3) := by decide +kernel
theorem dX11_thumbs_8 : decode cX11_thumbs 8 = .ok (.astore 4, 2) := by decide +kernel
theorem dX11_thumbs_10 : decode cX11_thumbs 10 = .ok (.aload 4, 2) := by decide +kernel
theorem dX11_thumbs_12 : decode cX11_thumbs 12 = .ok (.ifnull 23, 3) := by decide +kernel
theorem dX11_thumbs_15 : decode cX11_thumbs 15 = .ok (.iload_n 2, 1) := by decide +kernel
theorem dX11_thumbs_16 : decode cX11_thumbs 16 = .ok (.iconst 0, 1) := by decide +kernel
theorem dX11_thumbs_17 : decode cX11_thumbs 17 = .ok (.sipush 999, 3) := by decide +kernel
theorem dX11_thumbs_20 : decode cX11_thumbs 20 = .ok (.invokestatic 56, 3) := by decide +kernel
theorem dX11_thumbs_23 : decode cX11_thumbs 23 = .ok (.ifCond .eq 12, 3) := by decide +kernel
theorem dX11_thumbs_26 : decode cX11_thumbs 26 = .ok (.iload_n 3, 1) := by decide +kernel
theorem dX11_thumbs_27 : decode cX11_thumbs 27 = .ok (.iconst 0, 1) := by decide +kernel
theorem dX11_thumbs_28 : decode cX11_thumbs 28 = .ok (.iconst 2, 1) := by decide +kernel
theorem dX11_thumbs_29 : decode cX11_thumbs 29 = .ok (.invokestatic 56, 3) := by decide +kernel
theorem dX11_thumbs_32 : decode cX11_thumbs 32 = .ok (.ifCond .ne 5, 3) := by decide +kernel
theorem dX11_thumbs_35 : decode cX11_thumbs 35 = .ok (.iconst (-1), 1) := by decide +kernel
theorem dX11_thumbs_36 : decode cX11_thumbs 36 = .ok (.ireturn, 1) := by decide +kernel
theorem dX11_thumbs_37 : decode cX11_thumbs 37 = .ok (.aload_n 0, 1) := by decide +kernel
theorem dX11_thumbs_38 : decode cX11_thumbs 38 = .ok (.getfield 47, 3) := by decide +kernel
theorem dX11_thumbs_41 : decode cX11_thumbs 41 = .ok (.aload_n 0, 1) := by decide +kernel
theorem dX11_thumbs_42 : decode cX11_thumbs 42 = .ok (.getfield 10, 3) := by decide +kernel
theorem dX11_thumbs_45 : decode cX11_thumbs 45 = .ok (.aload 4, 2) := by decide +kernel
theorem dX11_thumbs_47 : decode cX11_thumbs 47 = .ok (.iload_n 2, 1) := by decide +kernel
theorem dX11_thumbs_48 : decode cX11_thumbs 48 = .ok (.invokevirtual 258, 3) := by decide +kernel
theorem dX11_thumbs_51 : decode cX11_thumbs 51 = .ok (.iload_n 3, 1) := by decide +kernel
theorem dX11_thumbs_52 : decode cX11_thumbs 52 = .ok (.lookupswitch 44 #[(0, 28), (1, 36)], 28) := by decide +kernel
theorem dX11_thumbs_80 : decode cX11_thumbs 80 = .ok (.aload_n 0, 1) := by decide +kernel
theorem dX11_thumbs_81 : decode cX11_thumbs 81 = .ok (.getfield 47, 3) := by decide +kernel
theorem dX11_thumbs_84 : decode cX11_thumbs 84 = .ok (.getfield 262, 3) := by decide +kernel
theorem dX11_thumbs_87 : decode cX11_thumbs 87 = .ok (.ireturn, 1) := by decide +kernel
theorem dX11_thumbs_88 : decode cX11_thumbs 88 = .ok (.aload_n 0, 1) := by decide +kernel
theorem dX11_thumbs_89 : decode cX11_thumbs 89 = .ok (.getfield 47, 3) := by decide +kernel
theorem dX11_thumbs_92 : decode cX11_thumbs 92 = .ok (.getfield 265, 3) := by decide +kernel
theorem dX11_thumbs_95 : decode cX11_thumbs 95 = .ok (.ireturn, 1) := by decide +kernel
theorem dX11_thumbs_96 : decode cX11_thumbs 96 = .ok (.aload_n 0, 1) := by decide +kernel
theorem dX11_thumbs_97 : decode cX11_thumbs 97 = .ok (.getfield 47, 3) := by decide +kernel
theorem dX11_thumbs_100 : decode cX11_thumbs 100 = .ok (.getfield 268, 3) := by decide +kernel
theorem dX11_thumbs_103 : decode cX11_thumbs 103 = .ok (.ireturn, 1) := by decide +kernel
theorem dX1_leapOf_0 : decode cX1_leapOf 0 = .ok (.aload_n 0, 1) := by decide +kernel
theorem dX1_leapOf_1 : decode cX1_leapOf 1 = .ok (.iload_n 1, 1) := by decide +kernel
theorem dX1_leapOf_2 : decode cX1_leapOf 2 = .ok (.iconst 4, 1) := by decide +kernel
theorem dX1_leapOf_3 : decode cX1_leapOf 3 = .ok (.invokevirtual 27, 3) := by decide +kernel
theorem dX1_leapOf_6 : decode cX1_leapOf 6 = .ok (.aload_n 0, 1) := by decide +kernel
theorem dX1_leapOf_7 : decode cX1_leapOf 7 = .ok (.iload_n 1, 1) := by decide +kernel
theorem dX1_leapOf_8 : decode cX1_leapOf 8 = .ok (.iconst 3, 1) := by decide +kernel
theorem dX1_leapOf_9 : decode cX1_leapOf 9 = .ok (.invokevirtual 27, 3) := by decide +kernel
theorem dX1_leapOf_12 : decode cX1_leapOf 12 = .ok (.isub, 1) := by decide +kernel
theorem dX1_leapOf_13 : decode cX1_leapOf 13 = .ok (.invokestatic 31, 3) := by decide +kernel
theorem dX1_leapOf_16 : decode cX1_leapOf 16 = .ok (.ireturn, 1) := by decide +kernel
theorem dX0_isLeap_0 : decode cX0_isLeap 0 = .ok (.aload_n 0, 1) := by decide +kernel
theorem dX0_isLeap_1 : decode cX0_isLeap 1 = .ok (.aload_n 0, 1) := by decide +kernel
theorem dX0_isLeap_2 : decode cX0_isLeap 2 = .ok (.getfield 26, 3) := by decide +kernel
theorem dX0_isLeap_5 : decode cX0_isLeap 5 = .ok (.iload_n 1, 1) := by decide +kernel
theorem dX0_isLeap_6 : decode cX0_isLeap 6 = .ok (.iconst 1, 1) := by decide +kernel
theorem dX0_isLeap_7 : decode cX0_isLeap 7 = .ok (.invokevirtual 156, 3) := by decide +kernel
theorem dX0_isLeap_10 : decode cX0_isLeap 10 = .ok (.invokevirtual 75, 3) := by decide +kernel
theorem dX0_isLeap_13 : decode cX0_isLeap 13 = .ok (.astore 4, 2) := by decide +kernel
theorem dX0_isLeap_15 : decode cX0_isLeap 15 = .ok (.aload 4, 2) := by decide +kernel
theorem dX0_isLeap_17 : decode cX0_isLeap 17 = .ok (.ifnull 28, 3) := by decide +kernel
theorem dX0_isLeap_20 : decode cX0_isLeap 20 = .ok (.aload 4, 2) := by decide +kernel
theorem dX0_isLeap_22 : decode cX0_isLeap 22 = .ok (.getfield 98, 3) := by decide +kernel
theorem dX0_isLeap_25 : decode cX0_isLeap 25 = .ok (.iload_n 2, 1) := by decide +kernel
theorem dX0_isLeap_26 : decode cX0_isLeap 26 = .ok (.if_icmp .ne 19, 3) := by decide +kernel
theorem dX0_isLeap_29 : decode cX0_isLeap 29 = .ok (.aload_n 0, 1) := by decide +kernel
theorem dX0_isLeap_30 : decode cX0_isLeap 30 = .ok (.getfield 26, 3) := by decide +kernel
theorem dX0_isLeap_33 : decode cX0_isLeap 33 = .ok (.iload_n 1, 1) := by decide +kernel
theorem dX0_isLeap_34 : decode cX0_isLeap 34 = .ok (.invokevirtual 160, 3) := by decide +kernel
theorem dX0_isLeap_37 : decode cX0_isLeap 37 = .ok (.iload_n 3, 1) := by decide +kernel
theorem dX0_isLeap_38 : decode cX0_isLeap 38 = .ok (.if_icmp .lt 7, 3) := by decide +kernel
theorem dX0_isLeap_41 : decode cX0_isLeap 41 = .ok (.iconst 1, 1) := by decide +kernel
theorem dX0_isLeap_42 : decode cX0_isLeap 42 = .ok (.goto 4, 3) := by decide +kernel
theorem dX0_isLeap_45 : decode cX0_isLeap 45 = .ok (.iconst 0, 1) := by decide +kernel
theorem dX0_isLeap_46 : decode cX0_isLeap 46 = .ok (.ireturn, 1) := by decide +kernel
theorem dX0_countLeaps_0 : decode cX0_countLeaps 0 = .ok (.iconst 0, 1) := by decide +kernel
theorem dX0_countLeaps_1 : decode cX0_countLeaps 1 = .ok (.istore_n 3, 1) := by decide +kernel
theorem dX0_countLeaps_2 : decode cX0_countLeaps 2 = .ok (.iconst 0, 1) := by decide +kernel
theorem dX0_countLeaps_3 : decode cX0_countLeaps 3 = .ok (.istore 4, 2) := by decide +kernel
theorem dX0_countLeaps_5 : decode cX0_countLeaps 5 = .ok (.iload 4, 2) := by decide +kernel
theorem dX0_countLeaps_7 : decode cX0_countLeaps 7 = .ok (.aload_n 0, 1) := by decide +kernel
theorem dX0_countLeaps_8 : decode cX0_countLeaps 8 = .ok (.getfield 26, 3) := by decide +kernel
theorem dX0_countLeaps_11 : decode cX0_countLeaps 11 = .ok (.getfield 150, 3) := by decide +kernel
theorem dX0_countLeaps_14 : decode cX0_countLeaps 14 = .ok (.if_icmp .ge 23, 3) := by decide +kernel
theorem dX0_countLeaps_17 : decode cX0_countLeaps 17 = .ok (.aload_n 0, 1) := by decide +kernel
theorem dX0_countLeaps_18 : decode cX0_countLeaps 18 = .ok (.iload 4, 2) := by decide +kernel
theorem dX0_countLeaps_20 : decode cX0_countLeaps 20 = .ok (.iload_n 1, 1) := by decide +kernel
theorem dX0_countLeaps_21 : decode cX0_countLeaps 21 = .ok (.iload_n 2, 1) := by decide +kernel
theorem dX0_countLeaps_22 : decode cX0_countLeaps 22 = .ok (.invokevirtual 153, 3) := by decide +kernel
theorem dX0_countLeaps_25 : decode cX0_countLeaps 25 = .ok (.ifCond .eq 6, 3) := by decide +kernel
theorem dX0_countLeaps_28 : decode cX0_countLeaps 28 = .ok (.iinc 3 1, 3) := by decide +kernel
theorem dX0_countLeaps_31 : decode cX0_countLeaps 31 = .ok (.iinc 4 1, 3) := by decide +kernel
theorem dX0_countLeaps_34 : decode cX0_countLeaps 34 = .ok (.goto (-29), 3) := by decide +kernel
theorem dX0_countLeaps_37 : decode cX0_countLeaps 37 = .ok (.iload_n 3, 1) := by decide +kernel
theorem dX0_countLeaps_38 : decode cX0_countLeaps 38 = .ok (.ireturn, 1) := by decide +kernel
theorem dX0_firstLeap_0 : decode cX0_firstLeap 0 = .ok (.iconst 0, 1) := by decide +kernel
theorem dX0_firstLeap_1 : decode cX0_firstLeap 1 = .ok (.istore_n 3, 1) := by decide +kernel
theorem dX0_firstLeap_2 : decode cX0_firstLeap 2 = .ok (.iload_n 3, 1) := by decide +kernel
theorem dX0_firstLeap_3 : decode cX0_firstLeap 3 = .ok (.aload_n 0, 1) := by decide +kernel
theorem dX0_firstLeap_4 : decode cX0_firstLeap 4 = .ok (.getfield 26, 3) := by decide +kernel
theorem dX0_firstLeap_7 : decode cX0_firstLeap 7 = .ok (.getfield 150, 3) := by decide +kernel
theorem dX0_firstLeap_10 : decode cX0_firstLeap 10 = .ok (.if_icmp .ge 21, 3) := by decide +kernel
theorem dX0_firstLeap_13 : decode cX0_firstLeap 13 = .ok (.aload_n 0, 1) := by decide +kernel
theorem dX0_firstLeap_14 : decode cX0_firstLeap 14 = .ok (.iload_n 3, 1) := by decide +kernel
theorem dX0_firstLeap_15 : decode cX0_firstLeap 15 = .ok (.iload_n 1, 1) := by decide +kernel
theorem dX0_firstLeap_16 : decode cX0_firstLeap 16 = .ok (.iload_n 2, 1) := by decide +kernel
theorem dX0_firstLeap_17 : decode cX0_firstLeap 17 = .ok (.invokevirtual 153, 3) := by decide +kernel
theorem dX0_firstLeap_20 : decode cX0_firstLeap 20 = .ok (.ifCond .eq 5, 3) := by decide +kernel
theorem dX0_firstLeap_23 : decode cX0_firstLeap 23 = .ok (.iload_n 3, 1) := by decide +kernel
theorem dX0_firstLeap_24 : decode cX0_firstLeap 24 = .ok (.ireturn, 1) := by decide +kernel
theorem dX0_firstLeap_25 : decode cX0_firstLeap 25 = .ok (.iinc 3 1, 3) := by decide +kernel
theorem dX0_firstLeap_28 : decode cX0_firstLeap 28 = .ok (.goto (-26), 3) := by decide +kernel
theorem dX0_firstLeap_31 : decode cX0_firstLeap 31 = .ok (.iconst (-1), 1) := by decide +kernel
theorem dX0_firstLeap_32 : decode cX0_firstLeap 32 = .ok (.ireturn, 1) := by decide +kernel
theorem dX11_leaps_0 : decode cX11_leaps 0 = .ok (.iload_n 1, 1) := by decide +kernel
theorem dX11_leaps_1 : decode cX11_leaps 1 = .ok (.iconst 0, 1) := by decide +kernel
theorem dX11_leaps_2 : decode cX11_leaps 2 = .ok (.iconst 3, 1) := by decide +kernel
theorem dX11_leaps_3 : decode cX11_leaps 3 = .ok (.invokestatic 56, 3) := by decide +kernel
theorem dX11_leaps_6 : decode cX11_leaps 6 = .ok (.ifCond .eq 14, 3) := by decide +kernel
theorem dX11_leaps_9 : decode cX11_leaps 9 = .ok (.iload_n 2, 1) := by decide +kernel
theorem dX11_leaps_10 : decode cX11_leaps 10 = .ok (.iconst 0, 1) := by decide +kernel
theorem dX11_leaps_11 : decode cX11_leaps 11 = .ok (.sipush 999, 3) := by decide +kernel
theorem dX11_leaps_14 : decode cX11_leaps 14 = .ok (.invokestatic 56, 3) := by decide +kernel
theorem dX11_leaps_17 : decode cX11_leaps 17 = .ok (.ifCond .ne 5, 3) := by decide +kernel
theorem dX11_leaps_20 : decode cX11_leaps 20 = .ok (.iconst (-1), 1) := by decide +kernel
theorem dX11_leaps_21 : decode cX11_leaps 21 = .ok (.ireturn, 1) := by decide +kernel
theorem dX11_leaps_22 : decode cX11_leaps 22 = .ok (.iload_n 3, 1) := by decide +kernel
theorem dX11_leaps_23 : decode cX11_leaps 23 = .ok (.lookupswitch 45 #[(0, 25), (1, 35)], 25) := by decide +kernel
theorem dX11_leaps_48 : decode cX11_leaps 48 = .ok (.aload_n 0, 1) := by decide +kernel
theorem dX11_leaps_49 : decode cX11_leaps 49 = .ok (.getfield 10, 3) := by decide +kernel
theorem dX11_leaps_52 : decode cX11_leaps 52 = .ok (.iload_n 1, 1) := by decide +kernel
theorem dX11_leaps_53 : decode cX11_leaps 53 = .ok (.iload_n 2, 1) := by decide +kernel
theorem dX11_leaps_54 : decode cX11_leaps 54 = .ok (.invokevirtual 271, 3) := by decide +kernel
theorem dX11_leaps_57 : decode cX11_leaps 57 = .ok (.ireturn, 1) := by decide +kernel
theorem dX11_leaps_58 : decode cX11_leaps 58 = .ok (.aload_n 0, 1) := by decide +kernel
theorem dX11_leaps_59 : decode cX11_leaps 59 = .ok (.getfield 10, 3) := by decide +kernel
theorem dX11_leaps_62 : decode cX11_leaps 62 = .ok (.iload_n 1, 1) := by decide +kernel
theorem dX11_leaps_63 : decode cX11_leaps 63 = .ok (.iload_n 2, 1) := by decide +kernel
theorem dX11_leaps_64 : decode cX11_leaps 64 = .ok (.invokevirtual 274, 3) := by decide +kernel
theorem dX11_leaps_67 : decode cX11_leaps 67 = .ok (.ireturn, 1) := by decide +kernel
theorem dX11_leaps_68 : decode cX11_leaps 68 = .ok (.iconst (-1), 1) := by decide +kernel
theorem dX11_leaps_69 : decode cX11_leaps 69 = .ok (.ireturn, 1) := by decide +kernel
theorem dX11_next_0 : decode cX11_next 0 = .ok (.aload_n 0, 1) := by decide +kernel
theorem dX11_next_1 : decode cX11_next 1 = .ok (.getfield 10, 3) := by decide +kernel
theorem dX11_next_4 : decode cX11_next 4 = .ok (.invokevirtual 277, 3) := by decide +kernel
theorem dX11_next_7 : decode cX11_next 7 = .ok (.ireturn, 1) := by decide +kernel
theorem dX0_agesOn_0 : decode cX0_agesOn 0 = .ok (.iconst 0, 1) := by decide +kernel
theorem dX0_agesOn_1 : decode cX0_agesOn 1 = .ok (.istore_n 2, 1) := by decide +kernel
theorem dX0_agesOn_2 : decode cX0_agesOn 2 = .ok (.iconst 0, 1) := by decide +kernel
theorem dX0_agesOn_3 : decode cX0_agesOn 3 = .ok (.istore_n 3, 1) := by decide +kernel
theorem dX0_agesOn_4 : decode cX0_agesOn 4 = .ok (.iload_n 3, 1) := by decide +kernel
theorem dX0_agesOn_5 : decode cX0_agesOn 5 = .ok (.aload_n 0, 1) := by decide +kernel
theorem dX0_agesOn_6 : decode cX0_agesOn 6 = .ok (.getfield 54, 3) := by decide +kernel
theorem dX0_agesOn_9 : decode cX0_agesOn 9 = .ok (.if_icmp .ge 39, 3) := by decide +kernel
theorem dX0_agesOn_12 : decode cX0_agesOn 12 = .ok (.aload_n 0, 1) := by decide +kernel
theorem dX0_agesOn_13 : decode cX0_agesOn 13 = .ok (.getfield 19, 3) := by decide +kernel
theorem dX0_agesOn_16 : decode cX0_agesOn 16 = .ok (.iload_n 3, 1) := by decide +kernel
theorem dX0_agesOn_17 : decode cX0_agesOn 17 = .ok (.aaload, 1) := by decide +kernel
theorem dX0_agesOn_18 : decode cX0_agesOn 18 = .ok (.getfield 95, 3) := by decide +kernel
theorem dX0_agesOn_21 : decode cX0_agesOn 21 = .ok (.iload_n 1, 1) := by decide +kernel
theorem dX0_agesOn_22 : decode cX0_agesOn 22 = .ok (.if_icmp .ne 20, 3) := by decide +kernel
theorem dX0_agesOn_25 : decode cX0_agesOn 25 = .ok (.iload_n 2, 1) := by decide +kernel
theorem dX0_agesOn_26 : decode cX0_agesOn 26 = .ok (.aload_n 0, 1) := by decide +kernel
theorem dX0_agesOn_27 : decode cX0_agesOn 27 = .ok (.aload_n 0, 1) := by decide +kernel
theorem dX0_agesOn_28 : decode cX0_agesOn 28 = .ok (.getfield 19, 3) := by decide +kernel
theorem dX0_agesOn_31 : decode cX0_agesOn 31 = .ok (.iload_n 3, 1) := by decide +kernel
theorem dX0_agesOn_32 : decode cX0_agesOn 32 = .ok (.aaload, 1) := by decide +kernel
theorem dX0_agesOn_33 : decode cX0_agesOn 33 = .ok (.aload_n 0, 1) := by decide +kernel
theorem dX0_agesOn_34 : decode cX0_agesOn 34 = .ok (.getfield 57, 3) := by decide +kernel
theorem dX0_agesOn_37 : decode cX0_agesOn 37 = .ok (.invokevirtual 112, 3) := by decide +kernel
theorem dX0_agesOn_40 : decode cX0_agesOn 40 = .ok (.iadd, 1) := by decide +kernel
theorem dX0_agesOn_41 : decode cX0_agesOn 41 = .ok (.istore_n 2, 1) := by decide +kernel
theorem dX0_agesOn_42 : decode cX0_agesOn 42 = .ok (.iinc 3 1, 3) := by decide +kernel
theorem dX0_agesOn_45 : decode cX0_agesOn 45 = .ok (.goto (-41), 3) := by decide +kernel
theorem dX0_agesOn_48 : decode cX0_agesOn 48 = .ok (.iload_n 2, 1) := by decide +kernel
theorem dX0_agesOn_49 : decode cX0_agesOn 49 = .ok (.ireturn, 1) := by decide +kernel
theorem dX11_close_0 : decode cX11_close 0 = .ok (.iconst (-1), 1) := by decide +kernel
theorem dX11_close_1 : decode cX11_close 1 = .ok (.istore_n 1, 1) := by decide +kernel
theorem dX11_close_2 : decode cX11_close 2 = .ok (.iconst (-1), 1) := by decide +kernel
theorem dX11_close_3 : decode cX11_close 3 = .ok (.istore_n 2, 1) := by decide +kernel
theorem dX11_close_4 : decode cX11_close 4 = .ok (.iconst 0, 1) := by decide +kernel
theorem dX11_close_5 : decode cX11_close 5 = .ok (.istore_n 3, 1) := by decide +kernel
theorem dX11_close_6 : decode cX11_close 6 = .ok (.iload_n 3, 1) := by decide +kernel
theorem dX11_close_7 : decode cX11_close 7 = .ok (.iconst 5, 1) := by decide +kernel
theorem dX11_close_8 : decode cX11_close 8 = .ok (.if_icmp .ge 41, 3) := by decide +kernel
theorem dX11_close_11 : decode cX11_close 11 = .ok (.aload_n 0, 1) := by decide +kernel
theorem dX11_close_12 : decode cX11_close 12 = .ok (.getfield 10, 3) := by decide +kernel
theorem dX11_close_15 : decode cX11_close 15 = .ok (.iload_n 3, 1) := by decide +kernel
theorem dX11_close_16 : decode cX11_close 16 = .ok (.invokevirtual 280, 3) := by decide +kernel
theorem dX11_close_19 : decode cX11_close 19 = .ok (.istore 4, 2) := by decide +kernel
theorem dX11_close_21 : decode cX11_close 21 = .ok (.aload_n 0, 1) := by decide +kernel
theorem dX11_close_22 : decode cX11_close 22 = .ok (.getfield 10, 3) := by decide +kernel
theorem dX11_close_25 : decode cX11_close 25 = .ok (.iload_n 3, 1) := by decide +kernel
theorem dX11_close_26 : decode cX11_close 26 = .ok (.invokevirtual 283, 3) := by decide +kernel
theorem dX11_close_29 : decode cX11_close 29 = .ok (.ifCond .le 14, 3) := by decide +kernel
theorem dX11_close_32 : decode cX11_close 32 = .ok (.iload 4, 2) := by decide +kernel
theorem dX11_close_34 : decode cX11_close 34 = .ok (.iload_n 2, 1) := by decide +kernel
theorem dX11_close_35 : decode cX11_close 35 = .ok (.if_icmp .le 8, 3) := by decide +kernel
theorem dX11_close_38 : decode cX11_close 38 = .ok (.iload 4, 2) := by decide +kernel
theorem dX11_close_40 : decode cX11_close 40 = .ok (.istore_n 2, 1) := by decide +kernel
theorem dX11_close_41 : decode cX11_close 41 = .ok (.iload_n 3, 1) := by decide +kernel
theorem dX11_close_42 : decode cX11_close 42 = .ok (.istore_n 1, 1) := by decide +kernel
theorem dX11_close_43 : decode cX11_close 43 = .ok (.iinc 3 1, 3) := by decide +kernel
theorem dX11_close_46 : decode cX11_close 46 = .ok (.goto (-40), 3) := by decide +kernel
theorem dX11_close_49 : decode cX11_close 49 = .ok (.iload_n 1, 1) := by decide +kernel
theorem dX11_close_50 : decode cX11_close 50 = .ok (.ireturn, 1) := by decide +kernel
theorem dX11_mean_0 : decode cX11_mean 0 = .ok (.aload_n 0, 1) := by decide +kernel
theorem dX11_mean_1 : decode cX11_mean 1 = .ok (.getfield 10, 3) := by decide +kernel
theorem dX11_mean_4 : decode cX11_mean 4 = .ok (.iload_n 1, 1) := by decide +kernel
theorem dX11_mean_5 : decode cX11_mean 5 = .ok (.invokevirtual 283, 3) := by decide +kernel
theorem dX11_mean_8 : decode cX11_mean 8 = .ok (.istore_n 2, 1) := by decide +kernel
theorem dX11_mean_9 : decode cX11_mean 9 = .ok (.iload_n 2, 1) := by decide +kernel
theorem dX11_mean_10 : decode cX11_mean 10 = .ok (.ifCond .le 16, 3) := by decide +kernel
theorem dX11_mean_13 : decode cX11_mean 13 = .ok (.aload_n 0, 1) := by decide +kernel
theorem dX11_mean_14 : decode cX11_mean 14 = .ok (.getfield 10, 3) := by decide +kernel
theorem dX11_mean_17 : decode cX11_mean 17 = .ok (.iload_n 1, 1) := by decide +kernel
theorem dX11_mean_18 : decode cX11_mean 18 = .ok (.invokevirtual 280, 3) := by decide +kernel
theorem dX11_mean_21 : decode cX11_mean 21 = .ok (.iload_n 2, 1) := by decide +kernel
theorem dX11_mean_22 : decode cX11_mean 22 = .ok (.idiv, 1) := by decide +kernel
theorem dX11_mean_23 : decode cX11_mean 23 = .ok (.goto 4, 3) := by decide +kernel
theorem dX11_mean_26 : decode cX11_mean 26 = .ok (.iconst (-1), 1) := by decide +kernel
theorem dX11_mean_27 : decode cX11_mean 27 = .ok (.ireturn, 1) := by decide +kernel
theorem dX10_latestWrote_0 : decode cX10_latestWrote 0 = .ok (.aload_n 0, 1) := by decide +kernel
theorem dX10_latestWrote_1 : decode cX10_latestWrote 1 = .ok (.getfield 15, 3) := by decide +kernel
theorem dX10_latestWrote_4 : decode cX10_latestWrote 4 = .ok (.aload_n 0, 1) := by decide +kernel
theorem dX10_latestWrote_5 : decode cX10_latestWrote 5 = .ok (.getfield 19, 3) := by decide +kernel
theorem dX10_latestWrote_8 : decode cX10_latestWrote 8 = .ok (.baload, 1) := by decide +kernel
theorem dX10_latestWrote_9 : decode cX10_latestWrote 9 = .ok (.ireturn, 1) := by decide +kernel
theorem dX10_takeLatest_0 : decode cX10_takeLatest 0 = .ok (.aload_n 0, 1) := by decide +kernel
theorem dX10_takeLatest_1 : decode cX10_takeLatest 1 = .ok (.getfield 11, 3) := by decide +kernel
theorem dX10_takeLatest_4 : decode cX10_takeLatest 4 = .ok (.aload_n 0, 1) := by decide +kernel
theorem dX10_takeLatest_5 : decode cX10_takeLatest 5 = .ok (.getfield 19, 3) := by decide +kernel
theorem dX10_takeLatest_8 : decode cX10_takeLatest 8 = .ok (.aaload, 1) := by decide +kernel
theorem dX10_takeLatest_9 : decode cX10_takeLatest 9 = .ok (.astore_n 1, 1) := by decide +kernel
theorem dX10_takeLatest_10 : decode cX10_takeLatest 10 = .ok (.aload_n 0, 1) := by decide +kernel
theorem dX10_takeLatest_11 : decode cX10_takeLatest 11 = .ok (.aload_n 0, 1) := by decide +kernel
theorem dX10_takeLatest_12 : decode cX10_takeLatest 12 = .ok (.getfield 19, 3) := by decide +kernel
theorem dX10_takeLatest_15 : decode cX10_takeLatest 15 = .ok (.bipush 10, 2) := by decide +kernel
theorem dX10_takeLatest_17 : decode cX10_takeLatest 17 = .ok (.iadd, 1) := by decide +kernel
theorem dX10_takeLatest_18 : decode cX10_takeLatest 18 = .ok (.iconst 1, 1) := by decide +kernel
theorem dX10_takeLatest_19 : decode cX10_takeLatest 19 = .ok (.isub, 1) := by decide +kernel
theorem dX10_takeLatest_20 : decode cX10_takeLatest 20 = .ok (.bipush 10, 2) := by decide +kernel
theorem dX10_takeLatest_22 : decode cX10_takeLatest 22 = .ok (.irem, 1) := by decide +kernel
theorem dX10_takeLatest_23 : decode cX10_takeLatest 23 = .ok (.putfield 19, 3) := by decide +kernel
theorem dX10_takeLatest_26 : decode cX10_takeLatest 26 = .ok (.aload_n 0, 1) := by decide +kernel
theorem dX10_takeLatest_27 : decode cX10_takeLatest 27 = .ok (.dup, 1) := by decide +kernel
theorem dX10_takeLatest_28 : decode cX10_takeLatest 28 = .ok (.getfield 23, 3) := by decide +kernel
theorem dX10_takeLatest_31 : decode cX10_takeLatest 31 = .ok (.iconst 1, 1) := by decide +kernel
theorem dX10_takeLatest_32 : decode cX10_takeLatest 32 = .ok (.isub, 1) := by decide +kernel
theorem dX10_takeLatest_33 : decode cX10_takeLatest 33 = .ok (.putfield 23, 3) := by decide +kernel
theorem dX10_takeLatest_36 : decode cX10_takeLatest 36 = .ok (.aload_n 1, 1) := by decide +kernel
theorem dX10_takeLatest_37 : decode cX10_takeLatest 37 = .ok (.areturn, 1) := by decide +kernel
theorem dX1_dropLast_0 : decode cX1_dropLast 0 = .ok (.aload_n 0, 1) := by decide +kernel
theorem dX1_dropLast_1 : decode cX1_dropLast 1 = .ok (.getfield 15, 3) := by decide +kernel
theorem dX1_dropLast_4 : decode cX1_dropLast 4 = .ok (.ifCond .le 13, 3) := by decide +kernel
theorem dX1_dropLast_7 : decode cX1_dropLast 7 = .ok (.aload_n 0, 1) := by decide +kernel
theorem dX1_dropLast_8 : decode cX1_dropLast 8 = .ok (.dup, 1) := by decide +kernel
theorem dX1_dropLast_9 : decode cX1_dropLast 9 = .ok (.getfield 15, 3) := by decide +kernel
theorem dX1_dropLast_12 : decode cX1_dropLast 12 = .ok (.iconst 1, 1) := by decide +kernel
theorem dX1_dropLast_13 : decode cX1_dropLast 13 = .ok (.isub, 1) := by decide +kernel
theorem dX1_dropLast_14 : decode cX1_dropLast 14 = .ok (.putfield 15, 3) := by decide +kernel
theorem dX1_dropLast_17 : decode cX1_dropLast 17 = .ok (.return_, 1) := by decide +kernel
theorem dX11_undo_0 : decode cX11_undo 0 = .ok (.aload_n 0, 1) := by decide +kernel
theorem dX11_undo_1 : decode cX11_undo 1 = .ok (.getfield 40, 3) := by decide +kernel
theorem dX11_undo_4 : decode cX11_undo 4 = .ok (.getfield 286, 3) := by decide +kernel
theorem dX11_undo_7 : decode cX11_undo 7 = .ok (.ifCond .gt 5, 3) := by decide +kernel
theorem dX11_undo_10 : decode cX11_undo 10 = .ok (.iconst 0, 1) := by decide +kernel
theorem dX11_undo_11 : decode cX11_undo 11 = .ok (.ireturn, 1) := by decide +kernel
theorem dX11_undo_12 : decode cX11_undo 12 = .ok (.aload_n 0, 1) := by decide +kernel
theorem dX11_undo_13 : decode cX11_undo 13 = .ok (.getfield 40, 3) := by decide +kernel
theorem dX11_undo_16 : decode cX11_undo 16 = .ok (.invokevirtual 287, 3) := by decide +kernel
theorem dX11_undo_19 : decode cX11_undo 19 = .ok (.istore_n 1, 1) := by decide +kernel
theorem dX11_undo_20 : decode cX11_undo 20 = .ok (.aload_n 0, 1) := by decide +kernel
theorem dX11_undo_21 : decode cX11_undo 21 = .ok (.getfield 40, 3) := by decide +kernel
theorem dX11_undo_24 : decode cX11_undo 24 = .ok (.invokevirtual 290, 3) := by decide +kernel
theorem dX11_undo_27 : decode cX11_undo 27 = .ok (.astore_n 2, 1) := by decide +kernel
theorem dX11_undo_28 : decode cX11_undo 28 = .ok (.aload_n 0, 1) := by decide +kernel
theorem dX11_undo_29 : decode cX11_undo 29 = .ok (.getfield 10, 3) := by decide +kernel
theorem dX11_undo_32 : decode cX11_undo 32 = .ok (.aload_n 2, 1) := by decide +kernel
theorem dX11_undo_33 : decode cX11_undo 33 = .ok (.getfield 294, 3) := by decide +kernel
theorem dX11_undo_36 : decode cX11_undo 36 = .ok (.invokevirtual 102, 3) := by decide +kernel
theorem dX11_undo_39 : decode cX11_undo 39 = .ok (.astore_n 3, 1) := by decide +kernel
theorem dX11_undo_40 : decode cX11_undo 40 = .ok (.aload_n 3, 1) := by decide +kernel
theorem dX11_undo_41 : decode cX11_undo 41 = .ok (.ifnull 8, 3) := by decide +kernel
theorem dX11_undo_44 : decode cX11_undo 44 = .ok (.aload_n 3, 1) := by decide +kernel
theorem dX11_undo_45 : decode cX11_undo 45 = .ok (.aload_n 2, 1) := by decide +kernel
theorem dX11_undo_46 : decode cX11_undo 46 = .ok (.invokevirtual 297, 3) := by decide +kernel
theorem dX11_undo_49 : decode cX11_undo 49 = .ok (.iload_n 1, 1) := by decide +kernel
theorem dX11_undo_50 : decode cX11_undo 50 = .ok (.ifCond .eq 13, 3) := by decide +kernel
theorem dX11_undo_53 : decode cX11_undo 53 = .ok (.aload_n 0, 1) := by decide +kernel
theorem dX11_undo_54 : decode cX11_undo 54 = .ok (.getfield 10, 3) := by decide +kernel
theorem dX11_undo_57 : decode cX11_undo 57 = .ok (.getfield 124, 3) := by decide +kernel
theorem dX11_undo_60 : decode cX11_undo 60 = .ok (.invokevirtual 300, 3) := by decide +kernel
theorem dX11_undo_63 : decode cX11_undo 63 = .ok (.iconst 1, 1) := by decide +kernel
theorem dX11_undo_64 : decode cX11_undo 64 = .ok (.ireturn, 1) := by decide +kernel
theorem dX1_copyFrom_0 : decode cX1_copyFrom 0 = .ok (.aload_n 1, 1) := by decide +kernel
theorem dX1_copyFrom_1 : decode cX1_copyFrom 1 = .ok (.getfield 11, 3) := by decide +kernel
theorem dX1_copyFrom_4 : decode cX1_copyFrom 4 = .ok (.iconst 0, 1) := by decide +kernel
theorem dX1_copyFrom_5 : decode cX1_copyFrom 5 = .ok (.aload_n 0, 1) := by decide +kernel
theorem dX1_copyFrom_6 : decode cX1_copyFrom 6 = .ok (.getfield 11, 3) := by decide +kernel
theorem dX1_copyFrom_9 : decode cX1_copyFrom 9 = .ok (.iconst 0, 1) := by decide +kernel
theorem dX1_copyFrom_10 : decode cX1_copyFrom 10 = .ok (.sipush 600, 3) := by decide +kernel
theorem dX1_copyFrom_13 : decode cX1_copyFrom 13 = .ok (.invokestatic 37, 3) := by decide +kernel
theorem dX1_copyFrom_16 : decode cX1_copyFrom 16 = .ok (.aload_n 0, 1) := by decide +kernel
theorem dX1_copyFrom_17 : decode cX1_copyFrom 17 = .ok (.aload_n 1, 1) := by decide +kernel
theorem dX1_copyFrom_18 : decode cX1_copyFrom 18 = .ok (.getfield 15, 3) := by decide +kernel
theorem dX1_copyFrom_21 : decode cX1_copyFrom 21 = .ok (.putfield 15, 3) := by decide +kernel
theorem dX1_copyFrom_24 : decode cX1_copyFrom 24 = .ok (.return_, 1) := by decide +kernel
theorem dX2_copyFrom_0 : decode cX2_copyFrom 0 = .ok (.aload_n 1, 1) := by decide +kernel
theorem dX2_copyFrom_1 : decode cX2_copyFrom 1 = .ok (.getfield 11, 3) := by decide +kernel
theorem dX2_copyFrom_4 : decode cX2_copyFrom 4 = .ok (.iconst 0, 1) := by decide +kernel
theorem dX2_copyFrom_5 : decode cX2_copyFrom 5 = .ok (.aload_n 0, 1) := by decide +kernel
theorem dX2_copyFrom_6 : decode cX2_copyFrom 6 = .ok (.getfield 11, 3) := by decide +kernel
theorem dX2_copyFrom_9 : decode cX2_copyFrom 9 = .ok (.iconst 0, 1) := by decide +kernel
theorem dX2_copyFrom_10 : decode cX2_copyFrom 10 = .ok (.bipush 6, 2) := by decide +kernel
theorem dX2_copyFrom_12 : decode cX2_copyFrom 12 = .ok (.invokestatic 32, 3) := by decide +kernel
theorem dX2_copyFrom_15 : decode cX2_copyFrom 15 = .ok (.aload_n 1, 1) := by decide +kernel
theorem dX2_copyFrom_16 : decode cX2_copyFrom 16 = .ok (.getfield 15, 3) := by decide +kernel
theorem dX2_copyFrom_19 : decode cX2_copyFrom 19 = .ok (.iconst 0, 1) := by decide +kernel
theorem dX2_copyFrom_20 : decode cX2_copyFrom 20 = .ok (.aload_n 0, 1) := by decide +kernel
theorem dX2_copyFrom_21 : decode cX2_copyFrom 21 = .ok (.getfield 15, 3) := by decide +kernel
theorem dX2_copyFrom_24 : decode cX2_copyFrom 24 = .ok (.iconst 0, 1) := by decide +kernel
theorem dX2_copyFrom_25 : decode cX2_copyFrom 25 = .ok (.bipush 6, 2) := by decide +kernel
theorem dX2_copyFrom_27 : decode cX2_copyFrom 27 = .ok (.invokestatic 32, 3) := by decide +kernel
theorem dX2_copyFrom_30 : decode cX2_copyFrom 30 = .ok (.aload_n 1, 1) := by decide +kernel
theorem dX2_copyFrom_31 : decode cX2_copyFrom 31 = .ok (.getfield 18, 3) := by decide +kernel
theorem dX2_copyFrom_34 : decode cX2_copyFrom 34 = .ok (.iconst 0, 1) := by decide +kernel
theorem dX2_copyFrom_35 : decode cX2_copyFrom 35 = .ok (.aload_n 0, 1) := by decide +kernel
theorem dX2_copyFrom_36 : decode cX2_copyFrom 36 = .ok (.getfield 18, 3) := by decide +kernel
theorem dX2_copyFrom_39 : decode cX2_copyFrom 39 = .ok (.iconst 0, 1) := by decide +kernel
theorem dX2_copyFrom_40 : decode cX2_copyFrom 40 = .ok (.bipush 6, 2) := by decide +kernel
theorem dX2_copyFrom_42 : decode cX2_copyFrom 42 = .ok (.invokestatic 32, 3) := by decide +kernel
theorem dX2_copyFrom_45 : decode cX2_copyFrom 45 = .ok (.aload_n 1, 1) := by decide +kernel
theorem dX2_copyFrom_46 : decode cX2_copyFrom 46 = .ok (.getfield 21, 3) := by decide +kernel
theorem dX2_copyFrom_49 : decode cX2_copyFrom 49 = .ok (.iconst 0, 1) := by decide +kernel
theorem dX2_copyFrom_50 : decode cX2_copyFrom 50 = .ok (.aload_n 0, 1) := by decide +kernel
theorem dX2_copyFrom_51 : decode cX2_copyFrom 51 = .ok (.getfield 21, 3) := by decide +kernel
theorem dX2_copyFrom_54 : decode cX2_copyFrom 54 = .ok (.iconst 0, 1) := by decide +kernel
theorem dX2_copyFrom_55 : decode cX2_copyFrom 55 = .ok (.bipush 6, 2) := by decide +kernel
theorem dX2_copyFrom_57 : decode cX2_copyFrom 57 = .ok (.invokestatic 32, 3) := by decide +kernel
theorem dX2_copyFrom_60 : decode cX2_copyFrom 60 = .ok (.aload_n 0, 1) := by decide +kernel
theorem dX2_copyFrom_61 : decode cX2_copyFrom 61 = .ok (.aload_n 1, 1) := by decide +kernel
theorem dX2_copyFrom_62 : decode cX2_copyFrom 62 = .ok (.getfield 24, 3) := by decide +kernel
theorem dX2_copyFrom_65 : decode cX2_copyFrom 65 = .ok (.putfield 24, 3) := by decide +kernel
theorem dX2_copyFrom_68 : decode cX2_copyFrom 68 = .ok (.return_, 1) := by decide +kernel
theorem dX6_copyFrom_0 : decode cX6_copyFrom 0 = .ok (.aload_n 0, 1) := by decide +kernel
theorem dX6_copyFrom_1 : decode cX6_copyFrom 1 = .ok (.aload_n 1, 1) := by decide +kernel
theorem dX6_copyFrom_2 : decode cX6_copyFrom 2 = .ok (.getfield 9, 3) := by decide +kernel
theorem dX6_copyFrom_5 : decode cX6_copyFrom 5 = .ok (.putfield 9, 3) := by decide +kernel
theorem dX6_copyFrom_8 : decode cX6_copyFrom 8 = .ok (.aload_n 0, 1) := by decide +kernel
theorem dX6_copyFrom_9 : decode cX6_copyFrom 9 = .ok (.aload_n 1, 1) := by decide +kernel
theorem dX6_copyFrom_10 : decode cX6_copyFrom 10 = .ok (.getfield 15, 3) := by decide +kernel
theorem dX6_copyFrom_13 : decode cX6_copyFrom 13 = .ok (.putfield 15, 3) := by decide +kernel
theorem dX6_copyFrom_16 : decode cX6_copyFrom 16 = .ok (.aload_n 0, 1) := by decide +kernel
theorem dX6_copyFrom_17 : decode cX6_copyFrom 17 = .ok (.aload_n 1, 1) := by decide +kernel
theorem dX6_copyFrom_18 : decode cX6_copyFrom 18 = .ok (.getfield 18, 3) := by decide +kernel
theorem dX6_copyFrom_21 : decode cX6_copyFrom 21 = .ok (.putfield 18, 3) := by decide +kernel
theorem dX6_copyFrom_24 : decode cX6_copyFrom 24 = .ok (.aload_n 0, 1) := by decide +kernel
theorem dX6_copyFrom_25 : decode cX6_copyFrom 25 = .ok (.aload_n 1, 1) := by decide +kernel
theorem dX6_copyFrom_26 : decode cX6_copyFrom 26 = .ok (.getfield 21, 3) := by decide +kernel
theorem dX6_copyFrom_29 : decode cX6_copyFrom 29 = .ok (.putfield 21, 3) := by decide +kernel
theorem dX6_copyFrom_32 : decode cX6_copyFrom 32 = .ok (.aload_n 0, 1) := by decide +kernel
theorem dX6_copyFrom_33 : decode cX6_copyFrom 33 = .ok (.aload_n 1, 1) := by decide +kernel
theorem dX6_copyFrom_34 : decode cX6_copyFrom 34 = .ok (.getfield 24, 3) := by decide +kernel
theorem dX6_copyFrom_37 : decode cX6_copyFrom 37 = .ok (.putfield 24, 3) := by decide +kernel
theorem dX6_copyFrom_40 : decode cX6_copyFrom 40 = .ok (.return_, 1) := by decide +kernel
theorem dX0_copyFrom_0 : decode cX0_copyFrom 0 = .ok (.iconst 0, 1) := by decide +kernel
theorem dX0_copyFrom_1 : decode cX0_copyFrom 1 = .ok (.istore_n 2, 1) := by decide +kernel
theorem dX0_copyFrom_2 : decode cX0_copyFrom 2 = .ok (.iload_n 2, 1) := by decide +kernel
theorem dX0_copyFrom_3 : decode cX0_copyFrom 3 = .ok (.bipush 12, 2) := by decide +kernel
theorem dX0_copyFrom_5 : decode cX0_copyFrom 5 = .ok (.if_icmp .ge 24, 3) := by decide +kernel
theorem dX0_copyFrom_8 : decode cX0_copyFrom 8 = .ok (.aload_n 0, 1) := by decide +kernel
theorem dX0_copyFrom_9 : decode cX0_copyFrom 9 = .ok (.getfield 11, 3) := by decide +kernel
theorem dX0_copyFrom_12 : decode cX0_copyFrom 12 = .ok (.iload_n 2, 1) := by decide +kernel
theorem dX0_copyFrom_13 : decode cX0_copyFrom 13 = .ok (.aaload, 1) := by decide +kernel
theorem dX0_copyFrom_14 : decode cX0_copyFrom 14 = .ok (.aload_n 1, 1) := by decide +kernel
theorem dX0_copyFrom_15 : decode cX0_copyFrom 15 = .ok (.getfield 11, 3) := by decide +kernel
theorem dX0_copyFrom_18 : decode cX0_copyFrom 18 = .ok (.iload_n 2, 1) := by decide +kernel
theorem dX0_copyFrom_19 : decode cX0_copyFrom 19 = .ok (.aaload, 1) := by decide +kernel
theorem dX0_copyFrom_20 : decode cX0_copyFrom 20 = .ok (.invokevirtual 163, 3) := by decide +kernel
theorem dX0_copyFrom_23 : decode cX0_copyFrom 23 = .ok (.iinc 2 1, 3) := by decide +kernel
theorem dX0_copyFrom_26 : decode cX0_copyFrom 26 = .ok (.goto (-24), 3) := by decide +kernel
theorem dX0_copyFrom_29 : decode cX0_copyFrom 29 = .ok (.iconst 0, 1) := by decide +kernel
theorem dX0_copyFrom_30 : decode cX0_copyFrom 30 = .ok (.istore_n 2, 1) := by decide +kernel
theorem dX0_copyFrom_31 : decode cX0_copyFrom 31 = .ok (.iload_n 2, 1) := by decide +kernel
theorem dX0_copyFrom_32 : decode cX0_copyFrom 32 = .ok (.bipush 12, 2) := by decide +kernel
theorem dX0_copyFrom_34 : decode cX0_copyFrom 34 = .ok (.if_icmp .ge 24, 3) := by decide +kernel
theorem dX0_copyFrom_37 : decode cX0_copyFrom 37 = .ok (.aload_n 0, 1) := by decide +kernel
theorem dX0_copyFrom_38 : decode cX0_copyFrom 38 = .ok (.getfield 19, 3) := by decide +kernel
theorem dX0_copyFrom_41 : decode cX0_copyFrom 41 = .ok (.iload_n 2, 1) := by decide +kernel
theorem dX0_copyFrom_42 : decode cX0_copyFrom 42 = .ok (.aaload, 1) := by decide +kernel
theorem dX0_copyFrom_43 : decode cX0_copyFrom 43 = .ok (.aload_n 1, 1) := by decide +kernel
theorem dX0_copyFrom_44 : decode cX0_copyFrom 44 = .ok (.getfield 19, 3) := by decide +kernel
theorem dX0_copyFrom_47 : decode cX0_copyFrom 47 = .ok (.iload_n 2, 1) := by decide +kernel
theorem dX0_copyFrom_48 : decode cX0_copyFrom 48 = .ok (.aaload, 1) := by decide +kernel
theorem dX0_copyFrom_49 : decode cX0_copyFrom 49 = .ok (.invokevirtual 167, 3) := by decide +kernel
theorem dX0_copyFrom_52 : decode cX0_copyFrom 52 = .ok (.iinc 2 1, 3) := by decide +kernel
theorem dX0_copyFrom_55 : decode cX0_copyFrom 55 = .ok (.goto (-24), 3) := by decide +kernel
theorem dX0_copyFrom_58 : decode cX0_copyFrom 58 = .ok (.aload_n 0, 1) := by decide +kernel
theorem dX0_copyFrom_59 : decode cX0_copyFrom 59 = .ok (.getfield 26, 3) := by decide +kernel
theorem dX0_copyFrom_62 : decode cX0_copyFrom 62 = .ok (.aload_n 1, 1) := by decide +kernel
theorem dX0_copyFrom_63 : decode cX0_copyFrom 63 = .ok (.getfield 26, 3) := by decide +kernel
theorem dX0_copyFrom_66 : decode cX0_copyFrom 66 = .ok (.invokevirtual 170, 3) := by decide +kernel
theorem dX0_copyFrom_69 : decode cX0_copyFrom 69 = .ok (.aload_n 0, 1) := by decide +kernel
theorem dX0_copyFrom_70 : decode cX0_copyFrom 70 = .ok (.getfield 33, 3) := by decide +kernel
theorem dX0_copyFrom_73 : decode cX0_copyFrom 73 = .ok (.aload_n 1, 1) := by decide +kernel
theorem dX0_copyFrom_74 : decode cX0_copyFrom 74 = .ok (.getfield 33, 3) := by decide +kernel
theorem dX0_copyFrom_77 : decode cX0_copyFrom 77 = .ok (.invokevirtual 173, 3) := by decide +kernel
theorem dX0_copyFrom_80 : decode cX0_copyFrom 80 = .ok (.aload_n 0, 1) := by decide +kernel
theorem dX0_copyFrom_81 : decode cX0_copyFrom 81 = .ok (.getfield 40, 3) := by decide +kernel
theorem dX0_copyFrom_84 : decode cX0_copyFrom 84 = .ok (.aload_n 1, 1) := by decide +kernel
theorem dX0_copyFrom_85 : decode cX0_copyFrom 85 = .ok (.getfield 40, 3) := by decide +kernel
theorem dX0_copyFrom_88 : decode cX0_copyFrom 88 = .ok (.invokevirtual 176, 3) := by decide +kernel
theorem dX0_copyFrom_91 : decode cX0_copyFrom 91 = .ok (.aload_n 0, 1) := by decide +kernel
theorem dX0_copyFrom_92 : decode cX0_copyFrom 92 = .ok (.aload_n 1, 1) := by decide +kernel
theorem dX0_copyFrom_93 : decode cX0_copyFrom 93 = .ok (.getfield 50, 3) := by decide +kernel
theorem dX0_copyFrom_96 : decode cX0_copyFrom 96 = .ok (.putfield 50, 3) := by decide +kernel
theorem dX0_copyFrom_99 : decode cX0_copyFrom 99 = .ok (.aload_n 0, 1) := by decide +kernel
theorem dX0_copyFrom_100 : decode cX0_copyFrom 100 = .ok (.aload_n 1, 1) := by decide +kernel
theorem dX0_copyFrom_101 : decode cX0_copyFrom 101 = .ok (.getfield 54, 3) := by decide +kernel
theorem dX0_copyFrom_104 : decode cX0_copyFrom 104 = .ok (.putfield 54, 3) := by decide +kernel
theorem dX0_copyFrom_107 : decode cX0_copyFrom 107 = .ok (.aload_n 0, 1) := by decide +kernel
theorem dX0_copyFrom_108 : decode cX0_copyFrom 108 = .ok (.aload_n 1, 1) := by decide +kernel
theorem dX0_copyFrom_109 : decode cX0_copyFrom 109 = .ok (.getfield 57, 3) := by decide +kernel
theorem dX0_copyFrom_112 : decode cX0_copyFrom 112 = .ok (.putfield 57, 3) := by decide +kernel
theorem dX0_copyFrom_115 : decode cX0_copyFrom 115 = .ok (.aload_n 0, 1) := by decide +kernel
theorem dX0_copyFrom_116 : decode cX0_copyFrom 116 = .ok (.aload_n 1, 1) := by decide +kernel
theorem dX0_copyFrom_117 : decode cX0_copyFrom 117 = .ok (.getfield 60, 3) := by decide +kernel
theorem dX0_copyFrom_120 : decode cX0_copyFrom 120 = .ok (.putfield 60, 3) := by decide +kernel
theorem dX0_copyFrom_123 : decode cX0_copyFrom 123 = .ok (.aload_n 0, 1) := by decide +kernel
theorem dX0_copyFrom_124 : decode cX0_copyFrom 124 = .ok (.aload_n 1, 1) := by decide +kernel
theorem dX0_copyFrom_125 : decode cX0_copyFrom 125 = .ok (.getfield 63, 3) := by decide +kernel
theorem dX0_copyFrom_128 : decode cX0_copyFrom 128 = .ok (.putfield 63, 3) := by decide +kernel
theorem dX0_copyFrom_131 : decode cX0_copyFrom 131 = .ok (.return_, 1) := by decide +kernel
theorem dX11_image_0 : decode cX11_image 0 = .ok (.iload_n 1, 1) := by decide +kernel
theorem dX11_image_1 : decode cX11_image 1 = .ok (.ifCond .eq 21, 3) := by decide +kernel
theorem dX11_image_4 : decode cX11_image 4 = .ok (.aload_n 0, 1) := by decide +kernel
theorem dX11_image_5 : decode cX11_image 5 = .ok (.getfield 16, 3) := by decide +kernel
theorem dX11_image_8 : decode cX11_image 8 = .ok (.aload_n 0, 1) := by decide +kernel
theorem dX11_image_9 : decode cX11_image 9 = .ok (.getfield 10, 3) := by decide +kernel
theorem dX11_image_12 : decode cX11_image 12 = .ok (.invokevirtual 303, 3) := by decide +kernel
theorem dX11_image_15 : decode cX11_image 15 = .ok (.aload_n 0, 1) := by decide +kernel
theorem dX11_image_16 : decode cX11_image 16 = .ok (.iconst 1, 1) := by decide +kernel
theorem dX11_image_17 : decode cX11_image 17 = .ok (.putfield 19, 3) := by decide +kernel
theorem dX11_image_20 : decode cX11_image 20 = .ok (.iconst 1, 1) := by decide +kernel
theorem dX11_image_21 : decode cX11_image 21 = .ok (.ireturn, 1) := by decide +kernel
theorem dX11_image_22 : decode cX11_image 22 = .ok (.aload_n 0, 1) := by decide +kernel
theorem dX11_image_23 : decode cX11_image 23 = .ok (.getfield 19, 3) := by decide +kernel
theorem dX11_image_26 : decode cX11_image 26 = .ok (.ifCond .ne 5, 3) := by decide +kernel
theorem dX11_image_29 : decode cX11_image 29 = .ok (.iconst 0, 1) := by decide +kernel
theorem dX11_image_30 : decode cX11_image 30 = .ok (.ireturn, 1) := by decide +kernel
theorem dX11_image_31 : decode cX11_image 31 = .ok (.aload_n 0, 1) := by decide +kernel
theorem dX11_image_32 : decode cX11_image 32 = .ok (.getfield 40, 3) := by decide +kernel
theorem dX11_image_35 : decode cX11_image 35 = .ok (.invokevirtual 63, 3) := by decide +kernel
theorem dX11_image_38 : decode cX11_image 38 = .ok (.aload_n 0, 1) := by decide +kernel
theorem dX11_image_39 : decode cX11_image 39 = .ok (.getfield 10, 3) := by decide +kernel
theorem dX11_image_42 : decode cX11_image 42 = .ok (.aload_n 0, 1) := by decide +kernel
theorem dX11_image_43 : decode cX11_image 43 = .ok (.getfield 16, 3) := by decide +kernel
theorem dX11_image_46 : decode cX11_image 46 = .ok (.invokevirtual 303, 3) := by decide +kernel
theorem dX11_image_49 : decode cX11_image 49 = .ok (.iconst 1, 1) := by decide +kernel
theorem dX11_image_50 : decode cX11_image 50 = .ok (.ireturn, 1) := by decide +kernel
theorem dX11_look_0 : decode cX11_look 0 = .ok (.iload_n 1, 1) := by decide +kernel
theorem dX11_look_1 : decode cX11_look 1 = .ok (.tableswitch 132 0 8 #[51, 59, 67, 75, 86, 97, 105, 116, 124], 51) := by decide +kernel
theorem dX11_look_52 : decode cX11_look 52 = .ok (.aload_n 0, 1) := by decide +kernel
theorem dX11_look_53 : decode cX11_look 53 = .ok (.getfield 10, 3) := by decide +kernel
theorem dX11_look_56 : decode cX11_look 56 = .ok (.getfield 80, 3) := by decide +kernel
theorem dX11_look_59 : decode cX11_look 59 = .ok (.ireturn, 1) := by decide +kernel
theorem dX11_look_60 : decode cX11_look 60 = .ok (.aload_n 0, 1) := by decide +kernel
theorem dX11_look_61 : decode cX11_look 61 = .ok (.getfield 10, 3) := by decide +kernel
theorem dX11_look_64 : decode cX11_look 64 = .ok (.getfield 60, 3) := by decide +kernel
theorem dX11_look_67 : decode cX11_look 67 = .ok (.ireturn, 1) := by decide +kernel
theorem dX11_look_68 : decode cX11_look 68 = .ok (.aload_n 0, 1) := by decide +kernel
theorem dX11_look_69 : decode cX11_look 69 = .ok (.getfield 10, 3) := by decide +kernel
theorem dX11_look_72 : decode cX11_look 72 = .ok (.getfield 90, 3) := by decide +kernel
theorem dX11_look_75 : decode cX11_look 75 = .ok (.ireturn, 1) := by decide +kernel
theorem dX11_look_76 : decode cX11_look 76 = .ok (.aload_n 0, 1) := by decide +kernel
theorem dX11_look_77 : decode cX11_look 77 = .ok (.getfield 10, 3) := by decide +kernel
theorem dX11_look_80 : decode cX11_look 80 = .ok (.getfield 124, 3) := by decide +kernel
theorem dX11_look_83 : decode cX11_look 83 = .ok (.getfield 305, 3) := by decide +kernel
theorem dX11_look_86 : decode cX11_look 86 = .ok (.ireturn, 1) := by decide +kernel
theorem dX11_look_87 : decode cX11_look 87 = .ok (.aload_n 0, 1) := by decide +kernel
theorem dX11_look_88 : decode cX11_look 88 = .ok (.getfield 10, 3) := by decide +kernel
theorem dX11_look_91 : decode cX11_look 91 = .ok (.getfield 232, 3) := by decide +kernel
theorem dX11_look_94 : decode cX11_look 94 = .ok (.getfield 306, 3) := by decide +kernel
theorem dX11_look_97 : decode cX11_look 97 = .ok (.ireturn, 1) := by decide +kernel
theorem dX11_look_98 : decode cX11_look 98 = .ok (.aload_n 0, 1) := by decide +kernel
theorem dX11_look_99 : decode cX11_look 99 = .ok (.getfield 10, 3) := by decide +kernel
theorem dX11_look_102 : decode cX11_look 102 = .ok (.getfield 51, 3) := by decide +kernel
theorem dX11_look_105 : decode cX11_look 105 = .ok (.ireturn, 1) := by decide +kernel
theorem dX11_look_106 : decode cX11_look 106 = .ok (.aload_n 0, 1) := by decide +kernel
theorem dX11_look_107 : decode cX11_look 107 = .ok (.getfield 10, 3) := by decide +kernel
theorem dX11_look_110 : decode cX11_look 110 = .ok (.getfield 168, 3) := by decide +kernel
theorem dX11_look_113 : decode cX11_look 113 = .ok (.getfield 181, 3) := by decide +kernel
theorem dX11_look_116 : decode cX11_look 116 = .ok (.ireturn, 1) := by decide +kernel
theorem dX11_look_117 : decode cX11_look 117 = .ok (.aload_n 0, 1) := by decide +kernel
theorem dX11_look_118 : decode cX11_look 118 = .ok (.getfield 40, 3) := by decide +kernel
theorem dX11_look_121 : decode cX11_look 121 = .ok (.getfield 286, 3) := by decide +kernel
theorem dX11_look_124 : decode cX11_look 124 = .ok (.ireturn, 1) := by decide +kernel
theorem dX11_look_125 : decode cX11_look 125 = .ok (.aload_n 0, 1) := by decide +kernel
theorem dX11_look_126 : decode cX11_look 126 = .ok (.getfield 10, 3) := by decide +kernel
theorem dX11_look_129 : decode cX11_look 129 = .ok (.getfield 307, 3) := by decide +kernel
theorem dX11_look_132 : decode cX11_look 132 = .ok (.ireturn, 1) := by decide +kernel
theorem dX11_look_133 : decode cX11_look 133 = .ok (.iconst (-1), 1) := by decide +kernel
theorem dX11_look_134 : decode cX11_look 134 = .ok (.ireturn, 1) := by decide +kernel
theorem dX12_state_0 : decode cX12_state 0 = .ok (.aload_n 0, 1) := by decide +kernel
theorem dX12_state_1 : decode cX12_state 1 = .ok (.iconst 0, 1) := by decide +kernel
theorem dX12_state_2 : decode cX12_state 2 = .ok (.putfield 104, 3) := by decide +kernel
theorem dX12_state_5 : decode cX12_state 5 = .ok (.aload_n 0, 1) := by decide +kernel
theorem dX12_state_6 : decode cX12_state 6 = .ok (.getfield 107, 3) := by decide +kernel
theorem dX12_state_9 : decode cX12_state 9 = .ok (.istore_n 2, 1) := by decide +kernel
theorem dX12_state_10 : decode cX12_state 10 = .ok (.aload_n 0, 1) := by decide +kernel
theorem dX12_state_11 : decode cX12_state 11 = .ok (.iload_n 1, 1) := by decide +kernel
theorem dX12_state_12 : decode cX12_state 12 = .ok (.putfield 107, 3) := by decide +kernel
theorem dX12_state_15 : decode cX12_state 15 = .ok (.iload_n 2, 1) := by decide +kernel
theorem dX12_state_16 : decode cX12_state 16 = .ok (.ireturn, 1) := by decide +kernel
theorem dX12_isIn_0 : decode cX12_isIn 0 = .ok (.iload_n 1, 1) := by decide +kernel
theorem dX12_isIn_1 : decode cX12_isIn 1 = .ok (.iload_n 2, 1) := by decide +kernel
theorem dX12_isIn_2 : decode cX12_isIn 2 = .ok (.if_icmp .lt 12, 3) := by decide +kernel
theorem dX12_isIn_5 : decode cX12_isIn 5 = .ok (.iload_n 1, 1) := by decide +kernel
theorem dX12_isIn_6 : decode cX12_isIn 6 = .ok (.iload_n 3, 1) := by decide +kernel
theorem dX12_isIn_7 : decode cX12_isIn 7 = .ok (.if_icmp .gt 7, 3) := by decide +kernel
theorem dX12_isIn_10 : decode cX12_isIn 10 = .ok (.iconst 1, 1) := by decide +kernel
theorem dX12_isIn_11 : decode cX12_isIn 11 = .ok (.goto 4, 3) := by decide +kernel
theorem dX12_isIn_14 : decode cX12_isIn 14 = .ok (.iconst 0, 1) := by decide +kernel
theorem dX12_isIn_15 : decode cX12_isIn 15 = .ok (.ireturn, 1) := by decide +kernel
theorem dX12_reader_0 : decode cX12_reader 0 = .ok (.aload_n 0, 1) := by decide +kernel
theorem dX12_reader_1 : decode cX12_reader 1 = .ok (.iconst 0, 1) := by decide +kernel
theorem dX12_reader_2 : decode cX12_reader 2 = .ok (.putfield 104, 3) := by decide +kernel
theorem dX12_reader_5 : decode cX12_reader 5 = .ok (.aload_n 0, 1) := by decide +kernel
theorem dX12_reader_6 : decode cX12_reader 6 = .ok (.iload_n 1, 1) := by decide +kernel
theorem dX12_reader_7 : decode cX12_reader 7 = .ok (.ldc 115, 2) := by decide +kernel
theorem dX12_reader_9 : decode cX12_reader 9 = .ok (.sipush 9999, 3) := by decide +kernel
theorem dX12_reader_12 : decode cX12_reader 12 = .ok (.invokevirtual 116, 3) := by decide +kernel
theorem dX12_reader_15 : decode cX12_reader 15 = .ok (.ifCond .eq 45, 3) := by decide +kernel
theorem dX12_reader_18 : decode cX12_reader 18 = .ok (.aload_n 0, 1) := by decide +kernel
theorem dX12_reader_19 : decode cX12_reader 19 = .ok (.iload_n 2, 1) := by decide +kernel
theorem dX12_reader_20 : decode cX12_reader 20 = .ok (.iconst (-1), 1) := by decide +kernel
theorem dX12_reader_21 : decode cX12_reader 21 = .ok (.sipush 9999, 3) := by decide +kernel
theorem dX12_reader_24 : decode cX12_reader 24 = .ok (.invokevirtual 116, 3) := by decide +kernel
theorem dX12_reader_27 : decode cX12_reader 27 = .ok (.ifCond .eq 33, 3) := by decide +kernel
theorem dX12_reader_30 : decode cX12_reader 30 = .ok (.aload_n 0, 1) := by decide +kernel
theorem dX12_reader_31 : decode cX12_reader 31 = .ok (.iload_n 3, 1) := by decide +kernel
theorem dX12_reader_32 : decode cX12_reader 32 = .ok (.iconst 0, 1) := by decide +kernel
theorem dX12_reader_33 : decode cX12_reader 33 = .ok (.iconst 1, 1) := by decide +kernel
theorem dX12_reader_34 : decode cX12_reader 34 = .ok (.invokevirtual 116, 3) := by decide +kernel
theorem dX12_reader_37 : decode cX12_reader 37 = .ok (.ifCond .eq 23, 3) := by decide +kernel
theorem dX12_reader_40 : decode cX12_reader 40 = .ok (.aload_n 0, 1) := by decide +kernel
theorem dX12_reader_41 : decode cX12_reader 41 = .ok (.iload 4, 2) := by decide +kernel
theorem dX12_reader_43 : decode cX12_reader 43 = .ok (.iconst 0, 1) := by decide +kernel
theorem dX12_reader_44 : decode cX12_reader 44 = .ok (.iconst 3, 1) := by decide +kernel
theorem dX12_reader_45 : decode cX12_reader 45 = .ok (.invokevirtual 116, 3) := by decide +kernel
theorem dX12_reader_48 : decode cX12_reader 48 = .ok (.ifCond .eq 12, 3) := by decide +kernel
theorem dX12_reader_51 : decode cX12_reader 51 = .ok (.aload_n 0, 1) := by decide +kernel
theorem dX12_reader_52 : decode cX12_reader 52 = .ok (.getfield 112, 3) := by decide +kernel
theorem dX12_reader_55 : decode cX12_reader 55 = .ok (.bipush 12, 2) := by decide +kernel
theorem dX12_reader_57 : decode cX12_reader 57 = .ok (.if_icmp .ne 5, 3) := by decide +kernel
theorem dX12_reader_60 : decode cX12_reader 60 = .ok (.iconst (-1), 1) := by decide +kernel
theorem dX12_reader_61 : decode cX12_reader 61 = .ok (.ireturn, 1) := by decide +kernel
theorem dX12_reader_62 : decode cX12_reader 62 = .ok (.aload_n 0, 1) := by decide +kernel
theorem dX12_reader_63 : decode cX12_reader 63 = .ok (.getfield 7, 3) := by decide +kernel
theorem dX12_reader_66 : decode cX12_reader 66 = .ok (.aload_n 0, 1) := by decide +kernel
theorem dX12_reader_67 : decode cX12_reader 67 = .ok (.getfield 112, 3) := by decide +kernel
theorem dX12_reader_70 : decode cX12_reader 70 = .ok (.iload_n 1, 1) := by decide +kernel
theorem dX12_reader_71 : decode cX12_reader 71 = .ok (.iastore, 1) := by decide +kernel
theorem dX12_reader_72 : decode cX12_reader 72 = .ok (.aload_n 0, 1) := by decide +kernel
theorem dX12_reader_73 : decode cX12_reader 73 = .ok (.getfield 13, 3) := by decide +kernel
theorem dX12_reader_76 : decode cX12_reader 76 = .ok (.aload_n 0, 1) := by decide +kernel
theorem dX12_reader_77 : decode cX12_reader 77 = .ok (.getfield 112, 3) := by decide +kernel
theorem dX12_reader_80 : decode cX12_reader 80 = .ok (.iload_n 2, 1) := by decide +kernel
theorem dX12_reader_81 : decode cX12_reader 81 = .ok (.iastore, 1) := by decide +kernel
theorem dX12_reader_82 : decode cX12_reader 82 = .ok (.aload_n 0, 1) := by decide +kernel
theorem dX12_reader_83 : decode cX12_reader 83 = .ok (.getfield 16, 3) := by decide +kernel
theorem dX12_reader_86 : decode cX12_reader 86 = .ok (.aload_n 0, 1) := by decide +kernel
theorem dX12_reader_87 : decode cX12_reader 87 = .ok (.getfield 112, 3) := by decide +kernel
theorem dX12_reader_90 : decode cX12_reader 90 = .ok (.iload_n 3, 1) := by decide +kernel
theorem dX12_reader_91 : decode cX12_reader 91 = .ok (.iastore, 1) := by decide +kernel
theorem dX12_reader_92 : decode cX12_reader 92 = .ok (.aload_n 0, 1) := by decide +kernel
theorem dX12_reader_93 : decode cX12_reader 93 = .ok (.getfield 19, 3) := by decide +kernel
theorem dX12_reader_96 : decode cX12_reader 96 = .ok (.aload_n 0, 1) := by decide +kernel
theorem dX12_reader_97 : decode cX12_reader 97 = .ok (.getfield 112, 3) := by decide +kernel
theorem dX12_reader_100 : decode cX12_reader 100 = .ok (.iload 4, 2) := by decide +kernel
theorem dX12_reader_102 : decode cX12_reader 102 = .ok (.iastore, 1) := by decide +kernel
theorem dX12_reader_103 : decode cX12_reader 103 = .ok (.aload_n 0, 1) := by decide +kernel
theorem dX12_reader_104 : decode cX12_reader 104 = .ok (.getfield 22, 3) := by decide +kernel
theorem dX12_reader_107 : decode cX12_reader 107 = .ok (.aload_n 0, 1) := by decide +kernel
theorem dX12_reader_108 : decode cX12_reader 108 = .ok (.getfield 112, 3) := by decide +kernel
theorem dX12_reader_111 : decode cX12_reader 111 = .ok (.iconst 0, 1) := by decide +kernel
theorem dX12_reader_112 : decode cX12_reader 112 = .ok (.iastore, 1) := by decide +kernel
theorem dX12_reader_113 : decode cX12_reader 113 = .ok (.aload_n 0, 1) := by decide +kernel
theorem dX12_reader_114 : decode cX12_reader 114 = .ok (.aload_n 0, 1) := by decide +kernel
theorem dX12_reader_115 : decode cX12_reader 115 = .ok (.getfield 112, 3) := by decide +kernel
theorem dX12_reader_118 : decode cX12_reader 118 = .ok (.iconst 1, 1) := by decide +kernel
theorem dX12_reader_119 : decode cX12_reader 119 = .ok (.iadd, 1) := by decide +kernel
theorem dX12_reader_120 : decode cX12_reader 120 = .ok (.putfield 112, 3) := by decide +kernel
theorem dX12_reader_123 : decode cX12_reader 123 = .ok (.aload_n 0, 1) := by decide +kernel
theorem dX12_reader_124 : decode cX12_reader 124 = .ok (.iconst 0, 1) := by decide +kernel
theorem dX12_reader_125 : decode cX12_reader 125 = .ok (.putfield 120, 3) := by decide +kernel
theorem dX12_reader_128 : decode cX12_reader 128 = .ok (.aload_n 0, 1) := by decide +kernel
theorem dX12_reader_129 : decode cX12_reader 129 = .ok (.getfield 112, 3) := by decide +kernel
theorem dX12_reader_132 : decode cX12_reader 132 = .ok (.iconst 1, 1) := by decide +kernel
theorem dX12_reader_133 : decode cX12_reader 133 = .ok (.isub, 1) := by decide +kernel
theorem dX12_reader_134 : decode cX12_reader 134 = .ok (.ireturn, 1) := by decide +kernel
theorem dX12_isReader_0 : decode cX12_isReader 0 = .ok (.iload_n 1, 1) := by decide +kernel
theorem dX12_isReader_1 : decode cX12_isReader 1 = .ok (.ifCond .lt 15, 3) := by decide +kernel
theorem dX12_isReader_4 : decode cX12_isReader 4 = .ok (.iload_n 1, 1) := by decide +kernel
theorem dX12_isReader_5 : decode cX12_isReader 5 = .ok (.aload_n 0, 1) := by decide +kernel
theorem dX12_isReader_6 : decode cX12_isReader 6 = .ok (.getfield 112, 3) := by decide +kernel
theorem dX12_isReader_9 : decode cX12_isReader 9 = .ok (.if_icmp .ge 7, 3) := by decide +kernel
theorem dX12_isReader_12 : decode cX12_isReader 12 = .ok (.iconst 1, 1) := by decide +kernel
theorem dX12_isReader_13 : decode cX12_isReader 13 = .ok (.goto 4, 3) := by decide +kernel
theorem dX12_isReader_16 : decode cX12_isReader 16 = .ok (.iconst 0, 1) := by decide +kernel
theorem dX12_isReader_17 : decode cX12_isReader 17 = .ok (.ireturn, 1) := by decide +kernel
theorem dX12_set_0 : decode cX12_set 0 = .ok (.aload_n 0, 1) := by decide +kernel
theorem dX12_set_1 : decode cX12_set 1 = .ok (.iconst 0, 1) := by decide +kernel
theorem dX12_set_2 : decode cX12_set 2 = .ok (.putfield 104, 3) := by decide +kernel
theorem dX12_set_5 : decode cX12_set 5 = .ok (.aload_n 0, 1) := by decide +kernel
theorem dX12_set_6 : decode cX12_set 6 = .ok (.iload_n 1, 1) := by decide +kernel
theorem dX12_set_7 : decode cX12_set 7 = .ok (.invokevirtual 123, 3) := by decide +kernel
theorem dX12_set_10 : decode cX12_set 10 = .ok (.ifCond .eq 13, 3) := by decide +kernel
theorem dX12_set_13 : decode cX12_set 13 = .ok (.aload_n 0, 1) := by decide +kernel
theorem dX12_set_14 : decode cX12_set 14 = .ok (.iload_n 2, 1) := by decide +kernel
theorem dX12_set_15 : decode cX12_set 15 = .ok (.iconst 0, 1) := by decide +kernel
theorem dX12_set_16 : decode cX12_set 16 = .ok (.iconst 2, 1) := by decide +kernel
theorem dX12_set_17 : decode cX12_set 17 = .ok (.invokevirtual 116, 3) := by decide +kernel
theorem dX12_set_20 : decode cX12_set 20 = .ok (.ifCond .ne 5, 3) := by decide +kernel
theorem dX12_set_23 : decode cX12_set 23 = .ok (.iconst 0, 1) := by decide +kernel
theorem dX12_set_24 : decode cX12_set 24 = .ok (.ireturn, 1) := by decide +kernel
theorem dX12_set_25 : decode cX12_set 25 = .ok (.iload_n 2, 1) := by decide +kernel
theorem dX12_set_26 : decode cX12_set 26 = .ok (.ifCond .ne 25, 3) := by decide +kernel
theorem dX12_set_29 : decode cX12_set 29 = .ok (.iload_n 3, 1) := by decide +kernel
theorem dX12_set_30 : decode cX12_set 30 = .ok (.iconst (-1), 1) := by decide +kernel
theorem dX12_set_31 : decode cX12_set 31 = .ok (.if_icmp .eq 20, 3) := by decide +kernel
theorem dX12_set_34 : decode cX12_set 34 = .ok (.aload_n 0, 1) := by decide +kernel
theorem dX12_set_35 : decode cX12_set 35 = .ok (.iload_n 3, 1) := by decide +kernel
theorem dX12_set_36 : decode cX12_set 36 = .ok (.aload_n 0, 1) := by decide +kernel
theorem dX12_set_37 : decode cX12_set 37 = .ok (.getfield 127, 3) := by decide +kernel
theorem dX12_set_40 : decode cX12_set 40 = .ok (.sipush 9999, 3) := by decide +kernel
theorem dX12_set_43 : decode cX12_set 43 = .ok (.invokevirtual 116, 3) := by decide +kernel
theorem dX12_set_46 : decode cX12_set 46 = .ok (.ifCond .ne 5, 3) := by decide +kernel
theorem dX12_set_49 : decode cX12_set 49 = .ok (.iconst 0, 1) := by decide +kernel
theorem dX12_set_50 : decode cX12_set 50 = .ok (.ireturn, 1) := by decide +kernel
theorem dX12_set_51 : decode cX12_set 51 = .ok (.iload_n 2, 1) := by decide +kernel
theorem dX12_set_52 : decode cX12_set 52 = .ok (.ifCond .le 26, 3) := by decide +kernel
theorem dX12_set_55 : decode cX12_set 55 = .ok (.aload_n 0, 1) := by decide +kernel
theorem dX12_set_56 : decode cX12_set 56 = .ok (.iload_n 3, 1) := by decide +kernel
theorem dX12_set_57 : decode cX12_set 57 = .ok (.iconst 0, 1) := by decide +kernel
theorem dX12_set_58 : decode cX12_set 58 = .ok (.iload_n 2, 1) := by decide +kernel
theorem dX12_set_59 : decode cX12_set 59 = .ok (.iconst 1, 1) := by decide +kernel
theorem dX12_set_60 : decode cX12_set 60 = .ok (.if_icmp .ne 7, 3) := by decide +kernel
theorem dX12_set_63 : decode cX12_set 63 = .ok (.iconst 1, 1) := by decide +kernel
theorem dX12_set_64 : decode cX12_set 64 = .ok (.goto 6, 3) := by decide +kernel
theorem dX12_set_67 : decode cX12_set 67 = .ok (.sipush 9999, 3) := by decide +kernel
theorem dX12_set_70 : decode cX12_set 70 = .ok (.invokevirtual 116, 3) := by decide +kernel
theorem dX12_set_73 : decode cX12_set 73 = .ok (.ifCond .ne 5, 3) := by decide +kernel
theorem dX12_set_76 : decode cX12_set 76 = .ok (.iconst 0, 1) := by decide +kernel
theorem dX12_set_77 : decode cX12_set 77 = .ok (.ireturn, 1) := by decide +kernel
theorem dX12_set_78 : decode cX12_set 78 = .ok (.iload_n 2, 1) := by decide +kernel
theorem dX12_set_79 : decode cX12_set 79 = .ok (.ifCond .ne 10, 3) := by decide +kernel
theorem dX12_set_82 : decode cX12_set 82 = .ok (.aload_n 0, 1) := by decide +kernel
theorem dX12_set_83 : decode cX12_set 83 = .ok (.getfield 13, 3) := by decide +kernel
theorem dX12_set_86 : decode cX12_set 86 = .ok (.iload_n 1, 1) := by decide +kernel
theorem dX12_set_87 : decode cX12_set 87 = .ok (.iload_n 3, 1) := by decide +kernel
theorem dX12_set_88 : decode cX12_set 88 = .ok (.iastore, 1) := by decide +kernel
theorem dX12_set_89 : decode cX12_set 89 = .ok (.iload_n 2, 1) := by decide +kernel
theorem dX12_set_90 : decode cX12_set 90 = .ok (.iconst 1, 1) := by decide +kernel
theorem dX12_set_91 : decode cX12_set 91 = .ok (.if_icmp .ne 10, 3) := by decide +kernel
theorem dX12_set_94 : decode cX12_set 94 = .ok (.aload_n 0, 1) := by decide +kernel
theorem dX12_set_95 : decode cX12_set 95 = .ok (.getfield 16, 3) := by decide +kernel
theorem dX12_set_98 : decode cX12_set 98 = .ok (.iload_n 1, 1) := by decide +kernel
theorem dX12_set_99 : decode cX12_set 99 = .ok (.iload_n 3, 1) := by decide +kernel
theorem dX12_set_100 : decode cX12_set 100 = .ok (.iastore, 1) := by decide +kernel
theorem dX12_set_101 : decode cX12_set 101 = .ok (.iload_n 2, 1) := by decide +kernel
theorem dX12_set_102 : decode cX12_set 102 = .ok (.iconst 2, 1) := by decide +kernel
theorem dX12_set_103 : decode cX12_set 103 = .ok (.if_icmp .ne 10, 3) := by decide +kernel
theorem dX12_set_106 : decode cX12_set 106 = .ok (.aload_n 0, 1) := by decide +kernel
theorem dX12_set_107 : decode cX12_set 107 = .ok (.getfield 22, 3) := by decide +kernel
theorem dX12_set_110 : decode cX12_set 110 = .ok (.iload_n 1, 1) := by decide +kernel
theorem dX12_set_111 : decode cX12_set 111 = .ok (.iload_n 3, 1) := by decide +kernel
theorem dX12_set_112 : decode cX12_set 112 = .ok (.iastore, 1) := by decide +kernel
theorem dX12_set_113 : decode cX12_set 113 = .ok (.aload_n 0, 1) := by decide +kernel
theorem dX12_set_114 : decode cX12_set 114 = .ok (.iconst 0, 1) := by decide +kernel
theorem dX12_set_115 : decode cX12_set 115 = .ok (.putfield 120, 3) := by decide +kernel
theorem dX12_set_118 : decode cX12_set 118 = .ok (.iconst 1, 1) := by decide +kernel
theorem dX12_set_119 : decode cX12_set 119 = .ok (.ireturn, 1) := by decide +kernel
theorem dX12_isShelf_0 : decode cX12_isShelf 0 = .ok (.iload_n 1, 1) := by decide +kernel
theorem dX12_isShelf_1 : decode cX12_isShelf 1 = .ok (.ifCond .lt 12, 3) := by decide +kernel
theorem dX12_isShelf_4 : decode cX12_isShelf 4 = .ok (.iload_n 1, 1) := by decide +kernel
theorem dX12_isShelf_5 : decode cX12_isShelf 5 = .ok (.iconst 5, 1) := by decide +kernel
theorem dX12_isShelf_6 : decode cX12_isShelf 6 = .ok (.if_icmp .ge 7, 3) := by decide +kernel
theorem dX12_isShelf_9 : decode cX12_isShelf 9 = .ok (.iconst 1, 1) := by decide +kernel
theorem dX12_isShelf_10 : decode cX12_isShelf 10 = .ok (.goto 4, 3) := by decide +kernel
theorem dX12_isShelf_13 : decode cX12_isShelf 13 = .ok (.iconst 0, 1) := by decide +kernel
theorem dX12_isShelf_14 : decode cX12_isShelf 14 = .ok (.ireturn, 1) := by decide +kernel
theorem dX12_isUnread_0 : decode cX12_isUnread 0 = .ok (.aload_n 0, 1) := by decide +kernel
theorem dX12_isUnread_1 : decode cX12_isUnread 1 = .ok (.getfield 31, 3) := by decide +kernel
theorem dX12_isUnread_4 : decode cX12_isUnread 4 = .ok (.iload_n 1, 1) := by decide +kernel
theorem dX12_isUnread_5 : decode cX12_isUnread 5 = .ok (.iconst 0, 1) := by decide +kernel
theorem dX12_isUnread_6 : decode cX12_isUnread 6 = .ok (.iastore, 1) := by decide +kernel
theorem dX12_isUnread_7 : decode cX12_isUnread 7 = .ok (.aload_n 0, 1) := by decide +kernel
theorem dX12_isUnread_8 : decode cX12_isUnread 8 = .ok (.getfield 34, 3) := by decide +kernel
theorem dX12_isUnread_11 : decode cX12_isUnread 11 = .ok (.iload_n 1, 1) := by decide +kernel
theorem dX12_isUnread_12 : decode cX12_isUnread 12 = .ok (.iconst 0, 1) := by decide +kernel
theorem dX12_isUnread_13 : decode cX12_isUnread 13 = .ok (.iastore, 1) := by decide +kernel
theorem dX12_isUnread_14 : decode cX12_isUnread 14 = .ok (.aload_n 0, 1) := by decide +kernel
theorem dX12_isUnread_15 : decode cX12_isUnread 15 = .ok (.getfield 37, 3) := by decide +kernel
theorem dX12_isUnread_18 : decode cX12_isUnread 18 = .ok (.iload_n 1, 1) := by decide +kernel
theorem dX12_isUnread_19 : decode cX12_isUnread 19 = .ok (.iconst 0, 1) := by decide +kernel
theorem dX12_isUnread_20 : decode cX12_isUnread 20 = .ok (.iastore, 1) := by decide +kernel
theorem dX12_isUnread_21 : decode cX12_isUnread 21 = .ok (.aload_n 0, 1) := by decide +kernel
theorem dX12_isUnread_22 : decode cX12_isUnread 22 = .ok (.getfield 40, 3) := by decide +kernel
theorem dX12_isUnread_25 : decode cX12_isUnread 25 = .ok (.iload_n 1, 1) := by decide +kernel
theorem dX12_isUnread_26 : decode cX12_isUnread 26 = .ok (.aload_n 0, 1) := by decide +kernel
theorem dX12_isUnread_27 : decode cX12_isUnread 27 = .ok (.getfield 127, 3) := by decide +kernel
theorem dX12_isUnread_30 : decode cX12_isUnread 30 = .ok (.iastore, 1) := by decide +kernel
theorem dX12_isUnread_31 : decode cX12_isUnread 31 = .ok (.return_, 1) := by decide +kernel
theorem dX12_paper_0 : decode cX12_paper 0 = .ok (.aload_n 0, 1) := by decide +kernel
theorem dX12_paper_1 : decode cX12_paper 1 = .ok (.iconst 0, 1) := by decide +kernel
theorem dX12_paper_2 : decode cX12_paper 2 = .ok (.putfield 104, 3) := by decide +kernel
theorem dX12_paper_5 : decode cX12_paper 5 = .ok (.aload_n 0, 1) := by decide +kernel
theorem dX12_paper_6 : decode cX12_paper 6 = .ok (.iload_n 1, 1) := by decide +kernel
theorem dX12_paper_7 : decode cX12_paper 7 = .ok (.invokevirtual 133, 3) := by decide +kernel
theorem dX12_paper_10 : decode cX12_paper 10 = .ok (.ifCond .eq 12, 3) := by decide +kernel
theorem dX12_paper_13 : decode cX12_paper 13 = .ok (.aload_n 0, 1) := by decide +kernel
theorem dX12_paper_14 : decode cX12_paper 14 = .ok (.getfield 130, 3) := by decide +kernel
theorem dX12_paper_17 : decode cX12_paper 17 = .ok (.bipush 12, 2) := by decide +kernel
theorem dX12_paper_19 : decode cX12_paper 19 = .ok (.if_icmp .ne 5, 3) := by decide +kernel
theorem dX12_paper_22 : decode cX12_paper 22 = .ok (.iconst (-1), 1) := by decide +kernel
theorem dX12_paper_23 : decode cX12_paper 23 = .ok (.ireturn, 1) := by decide +kernel
theorem dX12_paper_24 : decode cX12_paper 24 = .ok (.aload_n 0, 1) := by decide +kernel
theorem dX12_paper_25 : decode cX12_paper 25 = .ok (.getfield 25, 3) := by decide +kernel
theorem dX12_paper_28 : decode cX12_paper 28 = .ok (.aload_n 0, 1) := by decide +kernel
theorem dX12_paper_29 : decode cX12_paper 29 = .ok (.getfield 130, 3) := by decide +kernel
theorem dX12_paper_32 : decode cX12_paper 32 = .ok (.iload_n 1, 1) := by decide +kernel
theorem dX12_paper_33 : decode cX12_paper 33 = .ok (.iastore, 1) := by decide +kernel
theorem dX12_paper_34 : decode cX12_paper 34 = .ok (.aload_n 0, 1) := by decide +kernel
theorem dX12_paper_35 : decode cX12_paper 35 = .ok (.getfield 28, 3) := by decide +kernel
theorem dX12_paper_38 : decode cX12_paper 38 = .ok (.aload_n 0, 1) := by decide +kernel
theorem dX12_paper_39 : decode cX12_paper 39 = .ok (.getfield 130, 3) := by decide +kernel
theorem dX12_paper_42 : decode cX12_paper 42 = .ok (.aload_n 0, 1) := by decide +kernel
theorem dX12_paper_43 : decode cX12_paper 43 = .ok (.getfield 127, 3) := by decide +kernel
theorem dX12_paper_46 : decode cX12_paper 46 = .ok (.iastore, 1) := by decide +kernel
theorem dX12_paper_47 : decode cX12_paper 47 = .ok (.aload_n 0, 1) := by decide +kernel
theorem dX12_paper_48 : decode cX12_paper 48 = .ok (.aload_n 0, 1) := by decide +kernel
theorem dX12_paper_49 : decode cX12_paper 49 = .ok (.getfield 130, 3) := by decide +kernel
theorem dX12_paper_52 : decode cX12_paper 52 = .ok (.invokevirtual 136, 3) := by decide +kernel
theorem dX12_paper_55 : decode cX12_paper 55 = .ok (.aload_n 0, 1) := by decide +kernel
theorem dX12_paper_56 : decode cX12_paper 56 = .ok (.getfield 43, 3) := by decide +kernel
theorem dX12_paper_59 : decode cX12_paper 59 = .ok (.aload_n 0, 1) := by decide +kernel
theorem dX12_paper_60 : decode cX12_paper 60 = .ok (.getfield 130, 3) := by decide +kernel
theorem dX12_paper_63 : decode cX12_paper 63 = .ok (.iconst (-1), 1) := by decide +kernel
theorem dX12_paper_64 : decode cX12_paper 64 = .ok (.iastore, 1) := by decide +kernel
theorem dX12_paper_65 : decode cX12_paper 65 = .ok (.aload_n 0, 1) := by decide +kernel
theorem dX12_paper_66 : decode cX12_paper 66 = .ok (.aload_n 0, 1) := by decide +kernel
theorem dX12_paper_67 : decode cX12_paper 67 = .ok (.getfield 130, 3) := by decide +kernel
theorem dX12_paper_70 : decode cX12_paper 70 = .ok (.iconst 1, 1) := by decide +kernel
theorem dX12_paper_71 : decode cX12_paper 71 = .ok (.iadd, 1) := by decide +kernel
theorem dX12_paper_72 : decode cX12_paper 72 = .ok (.putfield 130, 3) := by decide +kernel
theorem dX12_paper_75 : decode cX12_paper 75 = .ok (.aload_n 0, 1) := by decide +kernel
theorem dX12_paper_76 : decode cX12_paper 76 = .ok (.iconst 0, 1) := by decide +kernel
theorem dX12_paper_77 : decode cX12_paper 77 = .ok (.putfield 120, 3) := by decide +kernel
theorem dX12_paper_80 : decode cX12_paper 80 = .ok (.aload_n 0, 1) := by decide +kernel
theorem dX12_paper_81 : decode cX12_paper 81 = .ok (.getfield 130, 3) := by decide +kernel
theorem dX12_paper_84 : decode cX12_paper 84 = .ok (.iconst 1, 1) := by decide +kernel
theorem dX12_paper_85 : decode cX12_paper 85 = .ok (.isub, 1) := by decide +kernel
theorem dX12_paper_86 : decode cX12_paper 86 = .ok (.ireturn, 1) := by decide +kernel
theorem dX12_isPaper_0 : decode cX12_isPaper 0 = .ok (.iload_n 1, 1) := by decide +kernel
theorem dX12_isPaper_1 : decode cX12_isPaper 1 = .ok (.ifCond .lt 15, 3) := by decide +kernel
theorem dX12_isPaper_4 : decode cX12_isPaper 4 = .ok (.iload_n 1, 1) := by decide +kernel
theorem dX12_isPaper_5 : decode cX12_isPaper 5 = .ok (.aload_n 0, 1) := by decide +kernel
theorem dX12_isPaper_6 : decode cX12_isPaper 6 = .ok (.getfield 130, 3) := by decide +kernel
theorem dX12_isPaper_9 : decode cX12_isPaper 9 = .ok (.if_icmp .ge 7, 3) := by decide +kernel
theorem dX12_isPaper_12 : decode cX12_isPaper 12 = .ok (.iconst 1, 1) := by decide +kernel
theorem dX12_isPaper_13 : decode cX12_isPaper 13 = .ok (.goto 4, 3) := by decide +kernel
theorem dX12_isPaper_16 : decode cX12_isPaper 16 = .ok (.iconst 0, 1) := by decide +kernel
theorem dX12_isPaper_17 : decode cX12_isPaper 17 = .ok (.ireturn, 1) := by decide +kernel
theorem dX12_move_0 : decode cX12_move 0 = .ok (.aload_n 0, 1) := by decide +kernel
theorem dX12_move_1 : decode cX12_move 1 = .ok (.iconst 0, 1) := by decide +kernel
theorem dX12_move_2 : decode cX12_move 2 = .ok (.putfield 104, 3) := by decide +kernel
theorem dX12_move_5 : decode cX12_move 5 = .ok (.aload_n 0, 1) := by decide +kernel
theorem dX12_move_6 : decode cX12_move 6 = .ok (.iload_n 1, 1) := by decide +kernel
theorem dX12_move_7 : decode cX12_move 7 = .ok (.invokevirtual 140, 3) := by decide +kernel
theorem dX12_move_10 : decode cX12_move 10 = .ok (.ifCond .eq 11, 3) := by decide +kernel
theorem dX12_move_13 : decode cX12_move 13 = .ok (.aload_n 0, 1) := by decide +kernel
theorem dX12_move_14 : decode cX12_move 14 = .ok (.iload_n 2, 1) := by decide +kernel
theorem dX12_move_15 : decode cX12_move 15 = .ok (.invokevirtual 133, 3) := by decide +kernel
theorem dX12_move_18 : decode cX12_move 18 = .ok (.ifCond .ne 5, 3) := by decide +kernel
theorem dX12_move_21 : decode cX12_move 21 = .ok (.iconst 0, 1) := by decide +kernel
theorem dX12_move_22 : decode cX12_move 22 = .ok (.ireturn, 1) := by decide +kernel
theorem dX12_move_23 : decode cX12_move 23 = .ok (.aload_n 0, 1) := by decide +kernel
theorem dX12_move_24 : decode cX12_move 24 = .ok (.getfield 25, 3) := by decide +kernel
theorem dX12_move_27 : decode cX12_move 27 = .ok (.iload_n 1, 1) := by decide +kernel
theorem dX12_move_28 : decode cX12_move 28 = .ok (.iload_n 2, 1) := by decide +kernel
theorem dX12_move_29 : decode cX12_move 29 = .ok (.iastore, 1) := by decide +kernel
theorem dX12_move_30 : decode cX12_move 30 = .ok (.aload_n 0, 1) := by decide +kernel
theorem dX12_move_31 : decode cX12_move 31 = .ok (.iconst 0, 1) := by decide +kernel
theorem dX12_move_32 : decode cX12_move 32 = .ok (.putfield 120, 3) := by decide +kernel
theorem dX12_move_35 : decode cX12_move 35 = .ok (.iconst 1, 1) := by decide +kernel
theorem dX12_move_36 : decode cX12_move 36 = .ok (.ireturn, 1) := by decide +kernel
theorem dX12_swap_0 : decode cX12_swap 0 = .ok (.aload_n 0, 1) := by decide +kernel
theorem dX12_swap_1 : decode cX12_swap 1 = .ok (.iconst 0, 1) := by decide +kernel
theorem dX12_swap_2 : decode cX12_swap 2 = .ok (.putfield 104, 3) := by decide +kernel
theorem dX12_swap_5 : decode cX12_swap 5 = .ok (.aload_n 0, 1) := by decide +kernel
theorem dX12_swap_6 : decode cX12_swap 6 = .ok (.iload_n 1, 1) := by decide +kernel
theorem dX12_swap_7 : decode cX12_swap 7 = .ok (.invokevirtual 133, 3) := by decide +kernel
theorem dX12_swap_10 : decode cX12_swap 10 = .ok (.ifCond .eq 16, 3) := by decide +kernel
theorem dX12_swap_13 : decode cX12_swap 13 = .ok (.aload_n 0, 1) := by decide +kernel
theorem dX12_swap_14 : decode cX12_swap 14 = .ok (.iload_n 2, 1) := by decide +kernel
theorem dX12_swap_15 : decode cX12_swap 15 = .ok (.invokevirtual 133, 3) := by decide +kernel
theorem dX12_swap_18 : decode cX12_swap 18 = .ok (.ifCond .eq 8, 3) := by decide +kernel
theorem dX12_swap_21 : decode cX12_swap 21 = .ok (.iload_n 1, 1) := by decide +kernel
theorem dX12_swap_22 : decode cX12_swap 22 = .ok (.iload_n 2, 1) := by decide +kernel
theorem dX12_swap_23 : decode cX12_swap 23 = .ok (.if_icmp .ne 5, 3) := by decide +kernel
theorem dX12_swap_26 : decode cX12_swap 26 = .ok (.iconst 0, 1) := by decide +kernel
theorem dX12_swap_27 : decode cX12_swap 27 = .ok (.ireturn, 1) := by decide +kernel
theorem dX12_swap_28 : decode cX12_swap 28 = .ok (.iconst 0, 1) := by decide +kernel
theorem dX12_swap_29 : decode cX12_swap 29 = .ok (.istore_n 3, 1) := by decide +kernel
theorem dX12_swap_30 : decode cX12_swap 30 = .ok (.iload_n 3, 1) := by decide +kernel
theorem dX12_swap_31 : decode cX12_swap 31 = .ok (.aload_n 0, 1) := by decide +kernel
theorem dX12_swap_32 : decode cX12_swap 32 = .ok (.getfield 130, 3) := by decide +kernel
theorem dX12_swap_35 : decode cX12_swap 35 = .ok (.if_icmp .ge 45, 3) := by decide +kernel
theorem dX12_swap_38 : decode cX12_swap 38 = .ok (.aload_n 0, 1) := by decide +kernel
theorem dX12_swap_39 : decode cX12_swap 39 = .ok (.getfield 25, 3) := by decide +kernel
theorem dX12_swap_42 : decode cX12_swap 42 = .ok (.iload_n 3, 1) := by decide +kernel
theorem dX12_swap_43 : decode cX12_swap 43 = .ok (.iaload, 1) := by decide +kernel
theorem dX12_swap_44 : decode cX12_swap 44 = .ok (.istore 4, 2) := by decide +kernel
theorem dX12_swap_46 : decode cX12_swap 46 = .ok (.aload_n 0, 1) := by decide +kernel
theorem dX12_swap_47 : decode cX12_swap 47 = .ok (.getfield 25, 3) := by decide +kernel
theorem dX12_swap_50 : decode cX12_swap 50 = .ok (.iload_n 3, 1) := by decide +kernel
theorem dX12_swap_51 : decode cX12_swap 51 = .ok (.iload 4, 2) := by decide +kernel
theorem dX12_swap_53 : decode cX12_swap 53 = .ok (.iload_n 1, 1) := by decide +kernel
theorem dX12_swap_54 : decode cX12_swap 54 = .ok (.if_icmp .ne 7, 3) := by decide +kernel
theorem dX12_swap_57 : decode cX12_swap 57 = .ok (.iload_n 2, 1) := by decide +kernel
theorem dX12_swap_58 : decode cX12_swap 58 = .ok (.goto 15, 3) := by decide +kernel
theorem dX12_swap_61 : decode cX12_swap 61 = .ok (.iload 4, 2) := by decide +kernel
theorem dX12_swap_63 : decode cX12_swap 63 = .ok (.iload_n 2, 1) := by decide +kernel
theorem dX12_swap_64 : decode cX12_swap 64 = .ok (.if_icmp .ne 7, 3) := by decide +kernel
theorem dX12_swap_67 : decode cX12_swap 67 = .ok (.iload_n 1, 1) := by decide +kernel
theorem dX12_swap_68 : decode cX12_swap 68 = .ok (.goto 5, 3) := by decide +kernel
theorem dX12_swap_71 : decode cX12_swap 71 = .ok (.iload 4, 2) := by decide +kernel
theorem dX12_swap_73 : decode cX12_swap 73 = .ok (.iastore, 1) := by decide +kernel
theorem dX12_swap_74 : decode cX12_swap 74 = .ok (.iinc 3 1, 3) := by decide +kernel
theorem dX12_swap_77 : decode cX12_swap 77 = .ok (.goto (-47), 3) := by decide +kernel
theorem dX12_swap_80 : decode cX12_swap 80 = .ok (.aload_n 0, 1) := by decide +kernel
theorem dX12_swap_81 : decode cX12_swap 81 = .ok (.iconst 0, 1) := by decide +kernel
theorem dX12_swap_82 : decode cX12_swap 82 = .ok (.putfield 120, 3) := by decide +kernel
theorem dX12_swap_85 : decode cX12_swap 85 = .ok (.iconst 1, 1) := by decide +kernel
theorem dX12_swap_86 : decode cX12_swap 86 = .ok (.ireturn, 1) := by decide +kernel
theorem dX12_fire_0 : decode cX12_fire 0 = .ok (.aload_n 0, 1) := by decide +kernel
theorem dX12_fire_1 : decode cX12_fire 1 = .ok (.iconst 0, 1) := by decide +kernel
theorem dX12_fire_2 : decode cX12_fire 2 = .ok (.putfield 104, 3) := by decide +kernel
theorem dX12_fire_5 : decode cX12_fire 5 = .ok (.aload_n 0, 1) := by decide +kernel
theorem dX12_fire_6 : decode cX12_fire 6 = .ok (.iload_n 1, 1) := by decide +kernel
theorem dX12_fire_7 : decode cX12_fire 7 = .ok (.invokevirtual 133, 3) := by decide +kernel
theorem dX12_fire_10 : decode cX12_fire 10 = .ok (.ifCond .ne 5, 3) := by decide +kernel
theorem dX12_fire_13 : decode cX12_fire 13 = .ok (.iconst (-1), 1) := by decide +kernel
theorem dX12_fire_14 : decode cX12_fire 14 = .ok (.ireturn, 1) := by decide +kernel
theorem dX12_fire_15 : decode cX12_fire 15 = .ok (.iconst 0, 1) := by decide +kernel
theorem dX12_fire_16 : decode cX12_fire 16 = .ok (.istore_n 2, 1) := by decide +kernel
theorem dX12_fire_17 : decode cX12_fire 17 = .ok (.iconst 0, 1) := by decide +kernel
theorem dX12_fire_18 : decode cX12_fire 18 = .ok (.istore_n 3, 1) := by decide +kernel
theorem dX12_fire_19 : decode cX12_fire 19 = .ok (.iload_n 3, 1) := by decide +kernel
theorem dX12_fire_20 : decode cX12_fire 20 = .ok (.aload_n 0, 1) := by decide +kernel
theorem dX12_fire_21 : decode cX12_fire 21 = .ok (.getfield 130, 3) := by decide +kernel
theorem dX12_fire_24 : decode cX12_fire 24 = .ok (.if_icmp .ge 31, 3) := by decide +kernel
theorem dX12_fire_27 : decode cX12_fire 27 = .ok (.aload_n 0, 1) := by decide +kernel
theorem dX12_fire_28 : decode cX12_fire 28 = .ok (.getfield 25, 3) := by decide +kernel
theorem dX12_fire_31 : decode cX12_fire 31 = .ok (.iload_n 3, 1) := by decide +kernel
theorem dX12_fire_32 : decode cX12_fire 32 = .ok (.iaload, 1) := by decide +kernel
theorem dX12_fire_33 : decode cX12_fire 33 = .ok (.iload_n 1, 1) := by decide +kernel
theorem dX12_fire_34 : decode cX12_fire 34 = .ok (.if_icmp .eq 6, 3) := by decide +kernel
theorem dX12_fire_37 : decode cX12_fire 37 = .ok (.goto 12, 3) := by decide +kernel
theorem dX12_fire_40 : decode cX12_fire 40 = .ok (.aload_n 0, 1) := by decide +kernel
theorem dX12_fire_41 : decode cX12_fire 41 = .ok (.iload_n 3, 1) := by decide +kernel
theorem dX12_fire_42 : decode cX12_fire 42 = .ok (.invokevirtual 136, 3) := by decide +kernel
theorem dX12_fire_45 : decode cX12_fire 45 = .ok (.iload_n 2, 1) := by decide +kernel
theorem dX12_fire_46 : decode cX12_fire 46 = .ok (.iconst 1, 1) := by decide +kernel
theorem dX12_fire_47 : decode cX12_fire 47 = .ok (.iadd, 1) := by decide +kernel
theorem dX12_fire_48 : decode cX12_fire 48 = .ok (.istore_n 2, 1) := by decide +kernel
theorem dX12_fire_49 : decode cX12_fire 49 = .ok (.iinc 3 1, 3) := by decide +kernel
theorem dX12_fire_52 : decode cX12_fire 52 = .ok (.goto (-33), 3) := by decide +kernel
theorem dX12_fire_55 : decode cX12_fire 55 = .ok (.aload_n 0, 1) := by decide +kernel
theorem dX12_fire_56 : decode cX12_fire 56 = .ok (.iconst 0, 1) := by decide +kernel
theorem dX12_fire_57 : decode cX12_fire 57 = .ok (.putfield 120, 3) := by decide +kernel
theorem dX12_fire_60 : decode cX12_fire 60 = .ok (.iload_n 2, 1) := by decide +kernel
theorem dX12_fire_61 : decode cX12_fire 61 = .ok (.ireturn, 1) := by decide +kernel
theorem dX12_doesLive_0 : decode cX12_doesLive 0 = .ok (.iload_n 2, 1) := by decide +kernel
theorem dX12_doesLive_1 : decode cX12_doesLive 1 = .ok (.aload_n 0, 1) := by decide +kernel
theorem dX12_doesLive_2 : decode cX12_doesLive 2 = .ok (.getfield 7, 3) := by decide +kernel
theorem dX12_doesLive_5 : decode cX12_doesLive 5 = .ok (.iload_n 1, 1) := by decide +kernel
theorem dX12_doesLive_6 : decode cX12_doesLive 6 = .ok (.iaload, 1) := by decide +kernel
theorem dX12_doesLive_7 : decode cX12_doesLive 7 = .ok (.if_icmp .lt 27, 3) := by decide +kernel
theorem dX12_doesLive_10 : decode cX12_doesLive 10 = .ok (.aload_n 0, 1) := by decide +kernel
theorem dX12_doesLive_11 : decode cX12_doesLive 11 = .ok (.getfield 13, 3) := by decide +kernel
theorem dX12_doesLive_14 : decode cX12_doesLive 14 = .ok (.iload_n 1, 1) := by decide +kernel
theorem dX12_doesLive_15 : decode cX12_doesLive 15 = .ok (.iaload, 1) := by decide +kernel
theorem dX12_doesLive_16 : decode cX12_doesLive 16 = .ok (.iconst (-1), 1) := by decide +kernel
theorem dX12_doesLive_17 : decode cX12_doesLive 17 = .ok (.if_icmp .eq 13, 3) := by decide +kernel
theorem dX12_doesLive_20 : decode cX12_doesLive 20 = .ok (.iload_n 2, 1) := by decide +kernel
theorem dX12_doesLive_21 : decode cX12_doesLive 21 = .ok (.aload_n 0, 1) := by decide +kernel
theorem dX12_doesLive_22 : decode cX12_doesLive 22 = .ok (.getfield 13, 3) := by decide +kernel
theorem dX12_doesLive_25 : decode cX12_doesLive 25 = .ok (.iload_n 1, 1) := by decide +kernel
theorem dX12_doesLive_26 : decode cX12_doesLive 26 = .ok (.iaload, 1) := by decide +kernel
theorem dX12_doesLive_27 : decode cX12_doesLive 27 = .ok (.if_icmp .ge 7, 3) := by decide +kernel
theorem dX12_doesLive_30 : decode cX12_doesLive 30 = .ok (.iconst 1, 1) := by decide +kernel
theorem dX12_doesLive_31 : decode cX12_doesLive 31 = .ok (.goto 4, 3) := by decide +kernel
theorem dX12_doesLive_34 : decode cX12_doesLive 34 = .ok (.iconst 0, 1) := by decide +kernel
theorem dX12_doesLive_35 : decode cX12_doesLive 35 = .ok (.ireturn, 1) := by decide +kernel
theorem dX12_keepsAhead_0 : decode cX12_keepsAhead 0 = .ok (.aload_n 0, 1) := by decide +kernel
theorem dX12_keepsAhead_1 : decode cX12_keepsAhead 1 = .ok (.getfield 120, 3) := by decide +kernel
theorem dX12_keepsAhead_4 : decode cX12_keepsAhead 4 = .ok (.bipush 10, 2) := by decide +kernel
theorem dX12_keepsAhead_6 : decode cX12_keepsAhead 6 = .ok (.if_icmp .ne 47, 3) := by decide +kernel
theorem dX12_keepsAhead_9 : decode cX12_keepsAhead 9 = .ok (.aload_n 0, 1) := by decide +kernel
theorem dX12_keepsAhead_10 : decode cX12_keepsAhead 10 = .ok (.aload_n 0, 1) := by decide +kernel
theorem dX12_keepsAhead_11 : decode cX12_keepsAhead 11 = .ok (.getfield 120, 3) := by decide +kernel
theorem dX12_keepsAhead_14 : decode cX12_keepsAhead 14 = .ok (.iconst 1, 1) := by decide +kernel
theorem dX12_keepsAhead_15 : decode cX12_keepsAhead 15 = .ok (.isub, 1) := by decide +kernel
theorem dX12_keepsAhead_16 : decode cX12_keepsAhead 16 = .ok (.putfield 120, 3) := by decide +kernel
theorem dX12_keepsAhead_19 : decode cX12_keepsAhead 19 = .ok (.iconst 0, 1) := by decide +kernel
theorem dX12_keepsAhead_20 : decode cX12_keepsAhead 20 = .ok (.istore_n 2, 1) := by decide +kernel
theorem dX12_keepsAhead_21 : decode cX12_keepsAhead 21 = .ok (.iload_n 2, 1) := by decide +kernel
theorem dX12_keepsAhead_22 : decode cX12_keepsAhead 22 = .ok (.bipush 6, 2) := by decide +kernel
theorem dX12_keepsAhead_24 : decode cX12_keepsAhead 24 = .ok (.aload_n 0, 1) := by decide +kernel
theorem dX12_keepsAhead_25 : decode cX12_keepsAhead 25 = .ok (.getfield 120, 3) := by decide +kernel
theorem dX12_keepsAhead_28 : decode cX12_keepsAhead 28 = .ok (.imul, 1) := by decide +kernel
theorem dX12_keepsAhead_29 : decode cX12_keepsAhead 29 = .ok (.if_icmp .ge 24, 3) := by decide +kernel
theorem dX12_keepsAhead_32 : decode cX12_keepsAhead 32 = .ok (.aload_n 0, 1) := by decide +kernel
theorem dX12_keepsAhead_33 : decode cX12_keepsAhead 33 = .ok (.getfield 83, 3) := by decide +kernel
theorem dX12_keepsAhead_36 : decode cX12_keepsAhead 36 = .ok (.iload_n 2, 1) := by decide +kernel
theorem dX12_keepsAhead_37 : decode cX12_keepsAhead 37 = .ok (.aload_n 0, 1) := by decide +kernel
theorem dX12_keepsAhead_38 : decode cX12_keepsAhead 38 = .ok (.getfield 83, 3) := by decide +kernel
theorem dX12_keepsAhead_41 : decode cX12_keepsAhead 41 = .ok (.iload_n 2, 1) := by decide +kernel
theorem dX12_keepsAhead_42 : decode cX12_keepsAhead 42 = .ok (.bipush 6, 2) := by decide +kernel
theorem dX12_keepsAhead_44 : decode cX12_keepsAhead 44 = .ok (.iadd, 1) := by decide +kernel
theorem dX12_keepsAhead_45 : decode cX12_keepsAhead 45 = .ok (.iaload, 1) := by decide +kernel
theorem dX12_keepsAhead_46 : decode cX12_keepsAhead 46 = .ok (.iastore, 1) := by decide +kernel
theorem dX12_keepsAhead_47 : decode cX12_keepsAhead 47 = .ok (.iinc 2 1, 3) := by decide +kernel
theorem dX12_keepsAhead_50 : decode cX12_keepsAhead 50 = .ok (.goto (-29), 3) := by decide +kernel
theorem dX12_keepsAhead_53 : decode cX12_keepsAhead 53 = .ok (.bipush 6, 2) := by decide +kernel
theorem dX12_keepsAhead_55 : decode cX12_keepsAhead 55 = .ok (.aload_n 0, 1) := by decide +kernel
theorem dX12_keepsAhead_56 : decode cX12_keepsAhead 56 = .ok (.getfield 120, 3) := by decide +kernel
theorem dX12_keepsAhead_59 : decode cX12_keepsAhead 59 = .ok (.imul, 1) := by decide +kernel
theorem dX12_keepsAhead_60 : decode cX12_keepsAhead 60 = .ok (.istore_n 2, 1) := by decide +kernel
theorem dX12_keepsAhead_61 : decode cX12_keepsAhead 61 = .ok (.aload_n 0, 1) := by decide +kernel
theorem dX12_keepsAhead_62 : decode cX12_keepsAhead 62 = .ok (.getfield 83, 3) := by decide +kernel
theorem dX12_keepsAhead_65 : decode cX12_keepsAhead 65 = .ok (.iload_n 2, 1) := by decide +kernel
theorem dX12_keepsAhead_66 : decode cX12_keepsAhead 66 = .ok (.iload_n 1, 1) := by decide +kernel
theorem dX12_keepsAhead_67 : decode cX12_keepsAhead 67 = .ok (.iastore, 1) := by decide +kernel
theorem dX12_keepsAhead_68 : decode cX12_keepsAhead 68 = .ok (.aload_n 0, 1) := by decide +kernel
theorem dX12_keepsAhead_69 : decode cX12_keepsAhead 69 = .ok (.getfield 83, 3) := by decide +kernel
theorem dX12_keepsAhead_72 : decode cX12_keepsAhead 72 = .ok (.iload_n 2, 1) := by decide +kernel
theorem dX12_keepsAhead_73 : decode cX12_keepsAhead 73 = .ok (.iconst 1, 1) := by decide +kernel
theorem dX12_keepsAhead_74 : decode cX12_keepsAhead 74 = .ok (.iadd, 1) := by decide +kernel
theorem dX12_keepsAhead_75 : decode cX12_keepsAhead 75 = .ok (.aload_n 0, 1) := by decide +kernel
theorem dX12_keepsAhead_76 : decode cX12_keepsAhead 76 = .ok (.getfield 31, 3) := by decide +kernel
theorem dX12_keepsAhead_79 : decode cX12_keepsAhead 79 = .ok (.iload_n 1, 1) := by decide +kernel
theorem dX12_keepsAhead_80 : decode cX12_keepsAhead 80 = .ok (.iaload, 1) := by decide +kernel
theorem dX12_keepsAhead_81 : decode cX12_keepsAhead 81 = .ok (.iastore, 1) := by decide +kernel
theorem dX12_keepsAhead_82 : decode cX12_keepsAhead 82 = .ok (.aload_n 0, 1) := by decide +kernel
theorem dX12_keepsAhead_83 : decode cX12_keepsAhead 83 = .ok (.getfield 83, 3) := by decide +kernel
theorem dX12_keepsAhead_86 : decode cX12_keepsAhead 86 = .ok (.iload_n 2, 1) := by decide +kernel
theorem dX12_keepsAhead_87 : decode cX12_keepsAhead 87 = .ok (.iconst 2, 1) := by decide +kernel
theorem dX12_keepsAhead_88 : decode cX12_keepsAhead 88 = .ok (.iadd, 1) := by decide +kernel
theorem dX12_keepsAhead_89 : decode cX12_keepsAhead 89 = .ok (.aload_n 0, 1) := by decide +kernel
theorem dX12_keepsAhead_90 : decode cX12_keepsAhead 90 = .ok (.getfield 34, 3) := by decide +kernel
theorem dX12_keepsAhead_93 : decode cX12_keepsAhead 93 = .ok (.iload_n 1, 1) := by decide +kernel
theorem dX12_keepsAhead_94 : decode cX12_keepsAhead 94 = .ok (.iaload, 1) := by decide +kernel
theorem dX12_keepsAhead_95 : decode cX12_keepsAhead 95 = .ok (.iastore, 1) := by decide +kernel
theorem dX12_keepsAhead_96 : decode cX12_keepsAhead 96 = .ok (.aload_n 0, 1) := by decide +kernel
theorem dX12_keepsAhead_97 : decode cX12_keepsAhead 97 = .ok (.getfield 83, 3) := by decide +kernel
theorem dX12_keepsAhead_100 : decode cX12_keepsAhead 100 = .ok (.iload_n 2, 1) := by decide +kernel
theorem dX12_keepsAhead_101 : decode cX12_keepsAhead 101 = .ok (.iconst 3, 1) := by decide +kernel
theorem dX12_keepsAhead_102 : decode cX12_keepsAhead 102 = .ok (.iadd, 1) := by decide +kernel
theorem dX12_keepsAhead_103 : decode cX12_keepsAhead 103 = .ok (.aload_n 0, 1) := by decide +kernel
theorem dX12_keepsAhead_104 : decode cX12_keepsAhead 104 = .ok (.getfield 37, 3) := by decide +kernel
theorem dX12_keepsAhead_107 : decode cX12_keepsAhead 107 = .ok (.iload_n 1, 1) := by decide +kernel
theorem dX12_keepsAhead_108 : decode cX12_keepsAhead 108 = .ok (.iaload, 1) := by decide +kernel
theorem dX12_keepsAhead_109 : decode cX12_keepsAhead 109 = .ok (.iastore, 1) := by decide +kernel
theorem dX12_keepsAhead_110 : decode cX12_keepsAhead 110 = .ok (.aload_n 0, 1) := by decide +kernel
theorem dX12_keepsAhead_111 : decode cX12_keepsAhead 111 = .ok (.getfield 83, 3) := by decide +kernel
theorem dX12_keepsAhead_114 : decode cX12_keepsAhead 114 = .ok (.iload_n 2, 1) := by decide +kernel
theorem dX12_keepsAhead_115 : decode cX12_keepsAhead 115 = .ok (.iconst 4, 1) := by decide +kernel
theorem dX12_keepsAhead_116 : decode cX12_keepsAhead 116 = .ok (.iadd, 1) := by decide +kernel
theorem dX12_keepsAhead_117 : decode cX12_keepsAhead 117 = .ok (.aload_n 0, 1) := by decide +kernel
theorem dX12_keepsAhead_118 : decode cX12_keepsAhead 118 = .ok (.getfield 40, 3) := by decide +kernel
theorem dX12_keepsAhead_121 : decode cX12_keepsAhead 121 = .ok (.iload_n 1, 1) := by decide +kernel
theorem dX12_keepsAhead_122 : decode cX12_keepsAhead 122 = .ok (.iaload, 1) := by decide +kernel
theorem dX12_keepsAhead_123 : decode cX12_keepsAhead 123 = .ok (.iastore, 1) := by decide +kernel
theorem dX12_keepsAhead_124 : decode cX12_keepsAhead 124 = .ok (.aload_n 0, 1) := by decide +kernel
theorem dX12_keepsAhead_125 : decode cX12_keepsAhead 125 = .ok (.getfield 83, 3) := by decide +kernel
theorem dX12_keepsAhead_128 : decode cX12_keepsAhead 128 = .ok (.iload_n 2, 1) := by decide +kernel
theorem dX12_keepsAhead_129 : decode cX12_keepsAhead 129 = .ok (.iconst 5, 1) := by decide +kernel
theorem dX12_keepsAhead_130 : decode cX12_keepsAhead 130 = .ok (.iadd, 1) := by decide +kernel
theorem dX12_keepsAhead_131 : decode cX12_keepsAhead 131 = .ok (.aload_n 0, 1) := by decide +kernel
theorem dX12_keepsAhead_132 : decode cX12_keepsAhead 132 = .ok (.getfield 260, 3) := by decide +kernel
theorem dX12_keepsAhead_135 : decode cX12_keepsAhead 135 = .ok (.iastore, 1) := by decide +kernel
theorem dX12_keepsAhead_136 : decode cX12_keepsAhead 136 = .ok (.aload_n 0, 1) := by decide +kernel
theorem dX12_keepsAhead_137 : decode cX12_keepsAhead 137 = .ok (.aload_n 0, 1) := by decide +kernel
theorem dX12_keepsAhead_138 : decode cX12_keepsAhead 138 = .ok (.getfield 120, 3) := by decide +kernel
theorem dX12_keepsAhead_141 : decode cX12_keepsAhead 141 = .ok (.iconst 1, 1) := by decide +kernel
theorem dX12_keepsAhead_142 : decode cX12_keepsAhead 142 = .ok (.iadd, 1) := by decide +kernel
theorem dX12_keepsAhead_143 : decode cX12_keepsAhead 143 = .ok (.putfield 120, 3) := by decide +kernel
theorem dX12_keepsAhead_146 : decode cX12_keepsAhead 146 = .ok (.return_, 1) := by decide +kernel
theorem dX12_twoOf_0 : decode cX12_twoOf 0 = .ok (.iload_n 1, 1) := by decide +kernel
theorem dX12_twoOf_1 : decode cX12_twoOf 1 = .ok (.iconst 2, 1) := by decide +kernel
theorem dX12_twoOf_2 : decode cX12_twoOf 2 = .ok (.if_icmp .ne 7, 3) := by decide +kernel
theorem dX12_twoOf_5 : decode cX12_twoOf 5 = .ok (.iload_n 2, 1) := by decide +kernel
theorem dX12_twoOf_6 : decode cX12_twoOf 6 = .ok (.iload_n 3, 1) := by decide +kernel
theorem dX12_twoOf_7 : decode cX12_twoOf 7 = .ok (.iadd, 1) := by decide +kernel
theorem dX12_twoOf_8 : decode cX12_twoOf 8 = .ok (.ireturn, 1) := by decide +kernel
theorem dX12_twoOf_9 : decode cX12_twoOf 9 = .ok (.iload_n 1, 1) := by decide +kernel
theorem dX12_twoOf_10 : decode cX12_twoOf 10 = .ok (.iconst 3, 1) := by decide +kernel
theorem dX12_twoOf_11 : decode cX12_twoOf 11 = .ok (.if_icmp .ne 7, 3) := by decide +kernel
theorem dX12_twoOf_14 : decode cX12_twoOf 14 = .ok (.iload_n 2, 1) := by decide +kernel
theorem dX12_twoOf_15 : decode cX12_twoOf 15 = .ok (.iload_n 3, 1) := by decide +kernel
theorem dX12_twoOf_16 : decode cX12_twoOf 16 = .ok (.isub, 1) := by decide +kernel
theorem dX12_twoOf_17 : decode cX12_twoOf 17 = .ok (.ireturn, 1) := by decide +kernel
theorem dX12_twoOf_18 : decode cX12_twoOf 18 = .ok (.iload_n 1, 1) := by decide +kernel
theorem dX12_twoOf_19 : decode cX12_twoOf 19 = .ok (.iconst 4, 1) := by decide +kernel
theorem dX12_twoOf_20 : decode cX12_twoOf 20 = .ok (.if_icmp .ne 7, 3) := by decide +kernel
theorem dX12_twoOf_23 : decode cX12_twoOf 23 = .ok (.iload_n 2, 1) := by decide +kernel
theorem dX12_twoOf_24 : decode cX12_twoOf 24 = .ok (.iload_n 3, 1) := by decide +kernel
theorem dX12_twoOf_25 : decode cX12_twoOf 25 = .ok (.imul, 1) := by decide +kernel
theorem dX12_twoOf_26 : decode cX12_twoOf 26 = .ok (.ireturn, 1) := by decide +kernel
theorem dX12_twoOf_27 : decode cX12_twoOf 27 = .ok (.iload_n 1, 1) := by decide +kernel
theorem dX12_twoOf_28 : decode cX12_twoOf 28 = .ok (.iconst 5, 1) := by decide +kernel
theorem dX12_twoOf_29 : decode cX12_twoOf 29 = .ok (.if_icmp .ne 7, 3) := by decide +kernel
theorem dX12_twoOf_32 : decode cX12_twoOf 32 = .ok (.iload_n 2, 1) := by decide +kernel
theorem dX12_twoOf_33 : decode cX12_twoOf 33 = .ok (.iload_n 3, 1) := by decide +kernel
theorem dX12_twoOf_34 : decode cX12_twoOf 34 = .ok (.idiv, 1) := by decide +kernel
theorem dX12_twoOf_35 : decode cX12_twoOf 35 = .ok (.ireturn, 1) := by decide +kernel
theorem dX12_twoOf_36 : decode cX12_twoOf 36 = .ok (.iload_n 1, 1) := by decide +kernel
theorem dX12_twoOf_37 : decode cX12_twoOf 37 = .ok (.bipush 6, 2) := by decide +kernel
theorem dX12_twoOf_39 : decode cX12_twoOf 39 = .ok (.if_icmp .ne 14, 3) := by decide +kernel
theorem dX12_twoOf_42 : decode cX12_twoOf 42 = .ok (.iload_n 2, 1) := by decide +kernel
theorem dX12_twoOf_43 : decode cX12_twoOf 43 = .ok (.iload_n 3, 1) := by decide +kernel
theorem dX12_twoOf_44 : decode cX12_twoOf 44 = .ok (.if_icmp .ge 7, 3) := by decide +kernel
theorem dX12_twoOf_47 : decode cX12_twoOf 47 = .ok (.iconst 1, 1) := by decide +kernel
theorem dX12_twoOf_48 : decode cX12_twoOf 48 = .ok (.goto 4, 3) := by decide +kernel
theorem dX12_twoOf_51 : decode cX12_twoOf 51 = .ok (.iconst 0, 1) := by decide +kernel
theorem dX12_twoOf_52 : decode cX12_twoOf 52 = .ok (.ireturn, 1) := by decide +kernel
theorem dX12_twoOf_53 : decode cX12_twoOf 53 = .ok (.iload_n 1, 1) := by decide +kernel
theorem dX12_twoOf_54 : decode cX12_twoOf 54 = .ok (.bipush 7, 2) := by decide +kernel
theorem dX12_twoOf_56 : decode cX12_twoOf 56 = .ok (.if_icmp .ne 14, 3) := by decide +kernel
theorem dX12_twoOf_59 : decode cX12_twoOf 59 = .ok (.iload_n 2, 1) := by decide +kernel
theorem dX12_twoOf_60 : decode cX12_twoOf 60 = .ok (.iload_n 3, 1) := by decide +kernel
theorem dX12_twoOf_61 : decode cX12_twoOf 61 = .ok (.if_icmp .ne 7, 3) := by decide +kernel
theorem dX12_twoOf_64 : decode cX12_twoOf 64 = .ok (.iconst 1, 1) := by decide +kernel
theorem dX12_twoOf_65 : decode cX12_twoOf 65 = .ok (.goto 4, 3) := by decide +kernel
theorem dX12_twoOf_68 : decode cX12_twoOf 68 = .ok (.iconst 0, 1) := by decide +kernel
theorem dX12_twoOf_69 : decode cX12_twoOf 69 = .ok (.ireturn, 1) := by decide +kernel
theorem dX12_twoOf_70 : decode cX12_twoOf 70 = .ok (.iload_n 1, 1) := by decide +kernel
theorem dX12_twoOf_71 : decode cX12_twoOf 71 = .ok (.bipush 8, 2) := by decide +kernel
theorem dX12_twoOf_73 : decode cX12_twoOf 73 = .ok (.if_icmp .ne 14, 3) := by decide +kernel
theorem dX12_twoOf_76 : decode cX12_twoOf 76 = .ok (.iload_n 2, 1) := by decide +kernel
theorem dX12_twoOf_77 : decode cX12_twoOf 77 = .ok (.iload_n 3, 1) := by decide +kernel
theorem dX12_twoOf_78 : decode cX12_twoOf 78 = .ok (.if_icmp .le 7, 3) := by decide +kernel
theorem dX12_twoOf_81 : decode cX12_twoOf 81 = .ok (.iconst 1, 1) := by decide +kernel
theorem dX12_twoOf_82 : decode cX12_twoOf 82 = .ok (.goto 4, 3) := by decide +kernel
theorem dX12_twoOf_85 : decode cX12_twoOf 85 = .ok (.iconst 0, 1) := by decide +kernel
theorem dX12_twoOf_86 : decode cX12_twoOf 86 = .ok (.ireturn, 1) := by decide +kernel
theorem dX12_twoOf_87 : decode cX12_twoOf 87 = .ok (.iload_n 1, 1) := by decide +kernel
theorem dX12_twoOf_88 : decode cX12_twoOf 88 = .ok (.bipush 10, 2) := by decide +kernel
theorem dX12_twoOf_90 : decode cX12_twoOf 90 = .ok (.if_icmp .ne 9, 3) := by decide +kernel
theorem dX12_twoOf_93 : decode cX12_twoOf 93 = .ok (.iload_n 2, 1) := by decide +kernel
theorem dX12_twoOf_94 : decode cX12_twoOf 94 = .ok (.iload_n 3, 1) := by decide +kernel
theorem dX12_twoOf_95 : decode cX12_twoOf 95 = .ok (.imul, 1) := by decide +kernel
theorem dX12_twoOf_96 : decode cX12_twoOf 96 = .ok (.goto 14, 3) := by decide +kernel
theorem dX12_twoOf_99 : decode cX12_twoOf 99 = .ok (.iload_n 2, 1) := by decide +kernel
theorem dX12_twoOf_100 : decode cX12_twoOf 100 = .ok (.iload_n 3, 1) := by decide +kernel
theorem dX12_twoOf_101 : decode cX12_twoOf 101 = .ok (.iadd, 1) := by decide +kernel
theorem dX12_twoOf_102 : decode cX12_twoOf 102 = .ok (.ifCond .le 7, 3) := by decide +kernel
theorem dX12_twoOf_105 : decode cX12_twoOf 105 = .ok (.iconst 1, 1) := by decide +kernel
theorem dX12_twoOf_106 : decode cX12_twoOf 106 = .ok (.goto 4, 3) := by decide +kernel
theorem dX12_twoOf_109 : decode cX12_twoOf 109 = .ok (.iconst 0, 1) := by decide +kernel
theorem dX12_twoOf_110 : decode cX12_twoOf 110 = .ok (.ireturn, 1) := by decide +kernel
theorem dX12_runs_0 : decode cX12_runs 0 = .ok (.iconst 0, 1) := by decide +kernel
theorem dX12_runs_1 : decode cX12_runs 1 = .ok (.istore_n 3, 1) := by decide +kernel
theorem dX12_runs_2 : decode cX12_runs 2 = .ok (.iload_n 1, 1) := by decide +kernel
theorem dX12_runs_3 : decode cX12_runs 3 = .ok (.istore 4, 2) := by decide +kernel
theorem dX12_runs_5 : decode cX12_runs 5 = .ok (.iload 4, 2) := by decide +kernel
theorem dX12_runs_7 : decode cX12_runs 7 = .ok (.iload_n 2, 1) := by decide +kernel
theorem dX12_runs_8 : decode cX12_runs 8 = .ok (.if_icmp .ge 145, 3) := by decide +kernel
theorem dX12_runs_11 : decode cX12_runs 11 = .ok (.aload_n 0, 1) := by decide +kernel
theorem dX12_runs_12 : decode cX12_runs 12 = .ok (.getfield 64, 3) := by decide +kernel
theorem dX12_runs_15 : decode cX12_runs 15 = .ok (.iload 4, 2) := by decide +kernel
theorem dX12_runs_17 : decode cX12_runs 17 = .ok (.iaload, 1) := by decide +kernel
theorem dX12_runs_18 : decode cX12_runs 18 = .ok (.ifCond .eq 14, 3) := by decide +kernel
theorem dX12_runs_21 : decode cX12_runs 21 = .ok (.aload_n 0, 1) := by decide +kernel
theorem dX12_runs_22 : decode cX12_runs 22 = .ok (.getfield 64, 3) := by decide +kernel
theorem dX12_runs_25 : decode cX12_runs 25 = .ok (.iload 4, 2) := by decide +kernel
theorem dX12_runs_27 : decode cX12_runs 27 = .ok (.iaload, 1) := by decide +kernel
theorem dX12_runs_28 : decode cX12_runs 28 = .ok (.iconst 1, 1) := by decide +kernel
theorem dX12_runs_29 : decode cX12_runs 29 = .ok (.if_icmp .ne 48, 3) := by decide +kernel
theorem dX12_runs_32 : decode cX12_runs 32 = .ok (.aload_n 0, 1) := by decide +kernel
theorem dX12_runs_33 : decode cX12_runs 33 = .ok (.getfield 80, 3) := by decide +kernel
theorem dX12_runs_36 : decode cX12_runs 36 = .ok (.iload_n 3, 1) := by decide +kernel
theorem dX12_runs_37 : decode cX12_runs 37 = .ok (.aload_n 0, 1) := by decide +kernel
theorem dX12_runs_38 : decode cX12_runs 38 = .ok (.getfield 64, 3) := by decide +kernel
theorem dX12_runs_41 : decode cX12_runs 41 = .ok (.iload 4, 2) := by decide +kernel
theorem dX12_runs_43 : decode cX12_runs 43 = .ok (.iaload, 1) := by decide +kernel
theorem dX12_runs_44 : decode cX12_runs 44 = .ok (.ifCond .ne 13, 3) := by decide +kernel
theorem dX12_runs_47 : decode cX12_runs 47 = .ok (.aload_n 0, 1) := by decide +kernel
theorem dX12_runs_48 : decode cX12_runs 48 = .ok (.getfield 67, 3) := by decide +kernel
theorem dX12_runs_51 : decode cX12_runs 51 = .ok (.iload 4, 2) := by decide +kernel
theorem dX12_runs_53 : decode cX12_runs 53 = .ok (.iaload, 1) := by decide +kernel
theorem dX12_runs_54 : decode cX12_runs 54 = .ok (.goto 15, 3) := by decide +kernel
theorem dX12_runs_57 : decode cX12_runs 57 = .ok (.aload_n 0, 1) := by decide +kernel
theorem dX12_runs_58 : decode cX12_runs 58 = .ok (.getfield 77, 3) := by decide +kernel
theorem dX12_runs_61 : decode cX12_runs 61 = .ok (.aload_n 0, 1) := by decide +kernel
theorem dX12_runs_62 : decode cX12_runs 62 = .ok (.getfield 67, 3) := by decide +kernel
theorem dX12_runs_65 : decode cX12_runs 65 = .ok (.iload 4, 2) := by decide +kernel
theorem dX12_runs_67 : decode cX12_runs 67 = .ok (.iaload, 1) := by decide +kernel
theorem dX12_runs_68 : decode cX12_runs 68 = .ok (.iaload, 1) := by decide +kernel
theorem dX12_runs_69 : decode cX12_runs 69 = .ok (.iastore, 1) := by decide +kernel
theorem dX12_runs_70 : decode cX12_runs 70 = .ok (.iload_n 3, 1) := by decide +kernel
theorem dX12_runs_71 : decode cX12_runs 71 = .ok (.iconst 1, 1) := by decide +kernel
theorem dX12_runs_72 : decode cX12_runs 72 = .ok (.iadd, 1) := by decide +kernel
theorem dX12_runs_73 : decode cX12_runs 73 = .ok (.istore_n 3, 1) := by decide +kernel
theorem dX12_runs_74 : decode cX12_runs 74 = .ok (.goto 73, 3) := by decide +kernel
theorem dX12_runs_77 : decode cX12_runs 77 = .ok (.aload_n 0, 1) := by decide +kernel
theorem dX12_runs_78 : decode cX12_runs 78 = .ok (.getfield 64, 3) := by decide +kernel
theorem dX12_runs_81 : decode cX12_runs 81 = .ok (.iload 4, 2) := by decide +kernel
theorem dX12_runs_83 : decode cX12_runs 83 = .ok (.iaload, 1) := by decide +kernel
theorem dX12_runs_84 : decode cX12_runs 84 = .ok (.bipush 9, 2) := by decide +kernel
theorem dX12_runs_86 : decode cX12_runs 86 = .ok (.if_icmp .ne 24, 3) := by decide +kernel
theorem dX12_runs_89 : decode cX12_runs 89 = .ok (.aload_n 0, 1) := by decide +kernel
theorem dX12_runs_90 : decode cX12_runs 90 = .ok (.getfield 80, 3) := by decide +kernel
theorem dX12_runs_93 : decode cX12_runs 93 = .ok (.iload_n 3, 1) := by decide +kernel
theorem dX12_runs_94 : decode cX12_runs 94 = .ok (.iconst 1, 1) := by decide +kernel
theorem dX12_runs_95 : decode cX12_runs 95 = .ok (.isub, 1) := by decide +kernel
theorem dX12_runs_96 : decode cX12_runs 96 = .ok (.iconst 1, 1) := by decide +kernel
theorem dX12_runs_97 : decode cX12_runs 97 = .ok (.aload_n 0, 1) := by decide +kernel
theorem dX12_runs_98 : decode cX12_runs 98 = .ok (.getfield 80, 3) := by decide +kernel
theorem dX12_runs_101 : decode cX12_runs 101 = .ok (.iload_n 3, 1) := by decide +kernel
theorem dX12_runs_102 : decode cX12_runs 102 = .ok (.iconst 1, 1) := by decide +kernel
theorem dX12_runs_103 : decode cX12_runs 103 = .ok (.isub, 1) := by decide +kernel
theorem dX12_runs_104 : decode cX12_runs 104 = .ok (.iaload, 1) := by decide +kernel
theorem dX12_runs_105 : decode cX12_runs 105 = .ok (.isub, 1) := by decide +kernel
theorem dX12_runs_106 : decode cX12_runs 106 = .ok (.iastore, 1) := by decide +kernel
theorem dX12_runs_107 : decode cX12_runs 107 = .ok (.goto 40, 3) := by decide +kernel
theorem dX12_runs_110 : decode cX12_runs 110 = .ok (.iload_n 3, 1) := by decide +kernel
theorem dX12_runs_111 : decode cX12_runs 111 = .ok (.iconst 1, 1) := by decide +kernel
theorem dX12_runs_112 : decode cX12_runs 112 = .ok (.isub, 1) := by decide +kernel
theorem dX12_runs_113 : decode cX12_runs 113 = .ok (.istore_n 3, 1) := by decide +kernel
theorem dX12_runs_114 : decode cX12_runs 114 = .ok (.aload_n 0, 1) := by decide +kernel
theorem dX12_runs_115 : decode cX12_runs 115 = .ok (.getfield 80, 3) := by decide +kernel
theorem dX12_runs_118 : decode cX12_runs 118 = .ok (.iload_n 3, 1) := by decide +kernel
theorem dX12_runs_119 : decode cX12_runs 119 = .ok (.iconst 1, 1) := by decide +kernel
theorem dX12_runs_120 : decode cX12_runs 120 = .ok (.isub, 1) := by decide +kernel
theorem dX12_runs_121 : decode cX12_runs 121 = .ok (.aload_n 0, 1) := by decide +kernel
theorem dX12_runs_122 : decode cX12_runs 122 = .ok (.aload_n 0, 1) := by decide +kernel
theorem dX12_runs_123 : decode cX12_runs 123 = .ok (.getfield 64, 3) := by decide +kernel
theorem dX12_runs_126 : decode cX12_runs 126 = .ok (.iload 4, 2) := by decide +kernel
theorem dX12_runs_128 : decode cX12_runs 128 = .ok (.iaload, 1) := by decide +kernel
theorem dX12_runs_129 : decode cX12_runs 129 = .ok (.aload_n 0, 1) := by decide +kernel
theorem dX12_runs_130 : decode cX12_runs 130 = .ok (.getfield 80, 3) := by decide +kernel
theorem dX12_runs_133 : decode cX12_runs 133 = .ok (.iload_n 3, 1) := by decide +kernel
theorem dX12_runs_134 : decode cX12_runs 134 = .ok (.iconst 1, 1) := by decide +kernel
theorem dX12_runs_135 : decode cX12_runs 135 = .ok (.isub, 1) := by decide +kernel
theorem dX12_runs_136 : decode cX12_runs 136 = .ok (.iaload, 1) := by decide +kernel
theorem dX12_runs_137 : decode cX12_runs 137 = .ok (.aload_n 0, 1) := by decide +kernel
theorem dX12_runs_138 : decode cX12_runs 138 = .ok (.getfield 80, 3) := by decide +kernel
theorem dX12_runs_141 : decode cX12_runs 141 = .ok (.iload_n 3, 1) := by decide +kernel
theorem dX12_runs_142 : decode cX12_runs 142 = .ok (.iaload, 1) := by decide +kernel
theorem dX12_runs_143 : decode cX12_runs 143 = .ok (.invokevirtual 244, 3) := by decide +kernel
theorem dX12_runs_146 : decode cX12_runs 146 = .ok (.iastore, 1) := by decide +kernel
theorem dX12_runs_147 : decode cX12_runs 147 = .ok (.iinc 4 1, 3) := by decide +kernel
theorem dX12_runs_150 : decode cX12_runs 150 = .ok (.goto (-145), 3) := by decide +kernel
theorem dX12_runs_153 : decode cX12_runs 153 = .ok (.aload_n 0, 1) := by decide +kernel
theorem dX12_runs_154 : decode cX12_runs 154 = .ok (.getfield 80, 3) := by decide +kernel
theorem dX12_runs_157 : decode cX12_runs 157 = .ok (.iconst 0, 1) := by decide +kernel
theorem dX12_runs_158 : decode cX12_runs 158 = .ok (.iaload, 1) := by decide +kernel
theorem dX12_runs_159 : decode cX12_runs 159 = .ok (.ireturn, 1) := by decide +kernel
theorem dX12_isSo_0 : decode cX12_isSo 0 = .ok (.aload_n 0, 1) := by decide +kernel
theorem dX12_isSo_1 : decode cX12_isSo 1 = .ok (.getfield 55, 3) := by decide +kernel
theorem dX12_isSo_4 : decode cX12_isSo 4 = .ok (.iload_n 1, 1) := by decide +kernel
theorem dX12_isSo_5 : decode cX12_isSo 5 = .ok (.iaload, 1) := by decide +kernel
theorem dX12_isSo_6 : decode cX12_isSo 6 = .ok (.aload_n 0, 1) := by decide +kernel
theorem dX12_isSo_7 : decode cX12_isSo 7 = .ok (.getfield 61, 3) := by decide +kernel
theorem dX12_isSo_10 : decode cX12_isSo 10 = .ok (.iload_n 1, 1) := by decide +kernel
theorem dX12_isSo_11 : decode cX12_isSo 11 = .ok (.iaload, 1) := by decide +kernel
theorem dX12_isSo_12 : decode cX12_isSo 12 = .ok (.if_icmp .eq 22, 3) := by decide +kernel
theorem dX12_isSo_15 : decode cX12_isSo 15 = .ok (.aload_n 0, 1) := by decide +kernel
theorem dX12_isSo_16 : decode cX12_isSo 16 = .ok (.aload_n 0, 1) := by decide +kernel
theorem dX12_isSo_17 : decode cX12_isSo 17 = .ok (.getfield 55, 3) := by decide +kernel
theorem dX12_isSo_20 : decode cX12_isSo 20 = .ok (.iload_n 1, 1) := by decide +kernel
theorem dX12_isSo_21 : decode cX12_isSo 21 = .ok (.iaload, 1) := by decide +kernel
theorem dX12_isSo_22 : decode cX12_isSo 22 = .ok (.aload_n 0, 1) := by decide +kernel
theorem dX12_isSo_23 : decode cX12_isSo 23 = .ok (.getfield 61, 3) := by decide +kernel
theorem dX12_isSo_26 : decode cX12_isSo 26 = .ok (.iload_n 1, 1) := by decide +kernel
theorem dX12_isSo_27 : decode cX12_isSo 27 = .ok (.iaload, 1) := by decide +kernel
theorem dX12_isSo_28 : decode cX12_isSo 28 = .ok (.invokevirtual 248, 3) := by decide +kernel
theorem dX12_isSo_31 : decode cX12_isSo 31 = .ok (.ifCond .eq 7, 3) := by decide +kernel
theorem dX12_isSo_34 : decode cX12_isSo 34 = .ok (.iconst 1, 1) := by decide +kernel
theorem dX12_isSo_35 : decode cX12_isSo 35 = .ok (.goto 4, 3) := by decide +kernel
theorem dX12_isSo_38 : decode cX12_isSo 38 = .ok (.iconst 0, 1) := by decide +kernel
theorem dX12_isSo_39 : decode cX12_isSo 39 = .ok (.ireturn, 1) := by decide +kernel
theorem dX12_yearsOf_0 : decode cX12_yearsOf 0 = .ok (.iload_n 2, 1) := by decide +kernel
theorem dX12_yearsOf_1 : decode cX12_yearsOf 1 = .ok (.aload_n 0, 1) := by decide +kernel
theorem dX12_yearsOf_2 : decode cX12_yearsOf 2 = .ok (.getfield 7, 3) := by decide +kernel
theorem dX12_yearsOf_5 : decode cX12_yearsOf 5 = .ok (.iload_n 1, 1) := by decide +kernel
theorem dX12_yearsOf_6 : decode cX12_yearsOf 6 = .ok (.iaload, 1) := by decide +kernel
theorem dX12_yearsOf_7 : decode cX12_yearsOf 7 = .ok (.if_icmp .le 18, 3) := by decide +kernel
theorem dX12_yearsOf_10 : decode cX12_yearsOf 10 = .ok (.iload_n 2, 1) := by decide +kernel
theorem dX12_yearsOf_11 : decode cX12_yearsOf 11 = .ok (.aload_n 0, 1) := by decide +kernel
theorem dX12_yearsOf_12 : decode cX12_yearsOf 12 = .ok (.getfield 7, 3) := by decide +kernel
theorem dX12_yearsOf_15 : decode cX12_yearsOf 15 = .ok (.iload_n 1, 1) := by decide +kernel
theorem dX12_yearsOf_16 : decode cX12_yearsOf 16 = .ok (.iaload, 1) := by decide +kernel
theorem dX12_yearsOf_17 : decode cX12_yearsOf 17 = .ok (.isub, 1) := by decide +kernel
theorem dX12_yearsOf_18 : decode cX12_yearsOf 18 = .ok (.sipush 365, 3) := by decide +kernel
theorem dX12_yearsOf_21 : decode cX12_yearsOf 21 = .ok (.idiv, 1) := by decide +kernel
theorem dX12_yearsOf_22 : decode cX12_yearsOf 22 = .ok (.goto 4, 3) := by decide +kernel
theorem dX12_yearsOf_25 : decode cX12_yearsOf 25 = .ok (.iconst 0, 1) := by decide +kernel
theorem dX12_yearsOf_26 : decode cX12_yearsOf 26 = .ok (.bipush 10, 2) := by decide +kernel
theorem dX12_yearsOf_28 : decode cX12_yearsOf 28 = .ok (.aload_n 0, 1) := by decide +kernel
theorem dX12_yearsOf_29 : decode cX12_yearsOf 29 = .ok (.getfield 16, 3) := by decide +kernel
theorem dX12_yearsOf_32 : decode cX12_yearsOf 32 = .ok (.iload_n 1, 1) := by decide +kernel
theorem dX12_yearsOf_33 : decode cX12_yearsOf 33 = .ok (.iaload, 1) := by decide +kernel
theorem dX12_yearsOf_34 : decode cX12_yearsOf 34 = .ok (.imul, 1) := by decide +kernel
theorem dX12_yearsOf_35 : decode cX12_yearsOf 35 = .ok (.iadd, 1) := by decide +kernel
theorem dX12_yearsOf_36 : decode cX12_yearsOf 36 = .ok (.ireturn, 1) := by decide +kernel
theorem dX12_ageOf_0 : decode cX12_ageOf 0 = .ok (.aload_n 0, 1) := by decide +kernel
theorem dX12_ageOf_1 : decode cX12_ageOf 1 = .ok (.getfield 31, 3) := by decide +kernel
theorem dX12_ageOf_4 : decode cX12_ageOf 4 = .ok (.iload_n 1, 1) := by decide +kernel
theorem dX12_ageOf_5 : decode cX12_ageOf 5 = .ok (.iaload, 1) := by decide +kernel
theorem dX12_ageOf_6 : decode cX12_ageOf 6 = .ok (.iconst 1, 1) := by decide +kernel
theorem dX12_ageOf_7 : decode cX12_ageOf 7 = .ok (.isub, 1) := by decide +kernel
theorem dX12_ageOf_8 : decode cX12_ageOf 8 = .ok (.istore 4, 2) := by decide +kernel
theorem dX12_ageOf_10 : decode cX12_ageOf 10 = .ok (.aload_n 0, 1) := by decide +kernel
theorem dX12_ageOf_11 : decode cX12_ageOf 11 = .ok (.getfield 77, 3) := by decide +kernel
theorem dX12_ageOf_14 : decode cX12_ageOf 14 = .ok (.iconst 0, 1) := by decide +kernel
theorem dX12_ageOf_15 : decode cX12_ageOf 15 = .ok (.aload_n 0, 1) := by decide +kernel
theorem dX12_ageOf_16 : decode cX12_ageOf 16 = .ok (.getfield 34, 3) := by decide +kernel
theorem dX12_ageOf_19 : decode cX12_ageOf 19 = .ok (.iload_n 1, 1) := by decide +kernel
theorem dX12_ageOf_20 : decode cX12_ageOf 20 = .ok (.iaload, 1) := by decide +kernel
theorem dX12_ageOf_21 : decode cX12_ageOf 21 = .ok (.iastore, 1) := by decide +kernel
theorem dX12_ageOf_22 : decode cX12_ageOf 22 = .ok (.aload_n 0, 1) := by decide +kernel
theorem dX12_ageOf_23 : decode cX12_ageOf 23 = .ok (.getfield 77, 3) := by decide +kernel
theorem dX12_ageOf_26 : decode cX12_ageOf 26 = .ok (.iconst 1, 1) := by decide +kernel
theorem dX12_ageOf_27 : decode cX12_ageOf 27 = .ok (.iload 4, 2) := by decide +kernel
theorem dX12_ageOf_29 : decode cX12_ageOf 29 = .ok (.iconst (-1), 1) := by decide +kernel
theorem dX12_ageOf_30 : decode cX12_ageOf 30 = .ok (.if_icmp .ne 7, 3) := by decide +kernel
theorem dX12_ageOf_33 : decode cX12_ageOf 33 = .ok (.iconst 0, 1) := by decide +kernel
theorem dX12_ageOf_34 : decode cX12_ageOf 34 = .ok (.goto 10, 3) := by decide +kernel
theorem dX12_ageOf_37 : decode cX12_ageOf 37 = .ok (.aload_n 0, 1) := by decide +kernel
theorem dX12_ageOf_38 : decode cX12_ageOf 38 = .ok (.iload 4, 2) := by decide +kernel
theorem dX12_ageOf_40 : decode cX12_ageOf 40 = .ok (.iload_n 3, 1) := by decide +kernel
theorem dX12_ageOf_41 : decode cX12_ageOf 41 = .ok (.invokevirtual 251, 3) := by decide +kernel
theorem dX12_ageOf_44 : decode cX12_ageOf 44 = .ok (.iastore, 1) := by decide +kernel
theorem dX12_ageOf_45 : decode cX12_ageOf 45 = .ok (.aload_n 0, 1) := by decide +kernel
theorem dX12_ageOf_46 : decode cX12_ageOf 46 = .ok (.getfield 77, 3) := by decide +kernel
theorem dX12_ageOf_49 : decode cX12_ageOf 49 = .ok (.iconst 2, 1) := by decide +kernel
theorem dX12_ageOf_50 : decode cX12_ageOf 50 = .ok (.iload_n 3, 1) := by decide +kernel
theorem dX12_ageOf_51 : decode cX12_ageOf 51 = .ok (.aload_n 0, 1) := by decide +kernel
theorem dX12_ageOf_52 : decode cX12_ageOf 52 = .ok (.getfield 40, 3) := by decide +kernel
theorem dX12_ageOf_55 : decode cX12_ageOf 55 = .ok (.iload_n 1, 1) := by decide +kernel
theorem dX12_ageOf_56 : decode cX12_ageOf 56 = .ok (.iaload, 1) := by decide +kernel
theorem dX12_ageOf_57 : decode cX12_ageOf 57 = .ok (.isub, 1) := by decide +kernel
theorem dX12_ageOf_58 : decode cX12_ageOf 58 = .ok (.iastore, 1) := by decide +kernel
theorem dX12_ageOf_59 : decode cX12_ageOf 59 = .ok (.aload_n 0, 1) := by decide +kernel
theorem dX12_ageOf_60 : decode cX12_ageOf 60 = .ok (.getfield 77, 3) := by decide +kernel
theorem dX12_ageOf_63 : decode cX12_ageOf 63 = .ok (.iconst 3, 1) := by decide +kernel
theorem dX12_ageOf_64 : decode cX12_ageOf 64 = .ok (.iload_n 3, 1) := by decide +kernel
theorem dX12_ageOf_65 : decode cX12_ageOf 65 = .ok (.aload_n 0, 1) := by decide +kernel
theorem dX12_ageOf_66 : decode cX12_ageOf 66 = .ok (.getfield 28, 3) := by decide +kernel
theorem dX12_ageOf_69 : decode cX12_ageOf 69 = .ok (.iload_n 1, 1) := by decide +kernel
theorem dX12_ageOf_70 : decode cX12_ageOf 70 = .ok (.iaload, 1) := by decide +kernel
theorem dX12_ageOf_71 : decode cX12_ageOf 71 = .ok (.isub, 1) := by decide +kernel
theorem dX12_ageOf_72 : decode cX12_ageOf 72 = .ok (.sipush 365, 3) := by decide +kernel
theorem dX12_ageOf_75 : decode cX12_ageOf 75 = .ok (.idiv, 1) := by decide +kernel
theorem dX12_ageOf_76 : decode cX12_ageOf 76 = .ok (.iastore, 1) := by decide +kernel
theorem dX12_ageOf_77 : decode cX12_ageOf 77 = .ok (.aload_n 0, 1) := by decide +kernel
theorem dX12_ageOf_78 : decode cX12_ageOf 78 = .ok (.getfield 77, 3) := by decide +kernel
theorem dX12_ageOf_81 : decode cX12_ageOf 81 = .ok (.iconst 4, 1) := by decide +kernel
theorem dX12_ageOf_82 : decode cX12_ageOf 82 = .ok (.aload_n 0, 1) := by decide +kernel
theorem dX12_ageOf_83 : decode cX12_ageOf 83 = .ok (.getfield 37, 3) := by decide +kernel
theorem dX12_ageOf_86 : decode cX12_ageOf 86 = .ok (.iload_n 1, 1) := by decide +kernel
theorem dX12_ageOf_87 : decode cX12_ageOf 87 = .ok (.iaload, 1) := by decide +kernel
theorem dX12_ageOf_88 : decode cX12_ageOf 88 = .ok (.iastore, 1) := by decide +kernel
theorem dX12_ageOf_89 : decode cX12_ageOf 89 = .ok (.aload_n 0, 1) := by decide +kernel
theorem dX12_ageOf_90 : decode cX12_ageOf 90 = .ok (.getfield 77, 3) := by decide +kernel
theorem dX12_ageOf_93 : decode cX12_ageOf 93 = .ok (.iconst 5, 1) := by decide +kernel
theorem dX12_ageOf_94 : decode cX12_ageOf 94 = .ok (.aload_n 0, 1) := by decide +kernel
theorem dX12_ageOf_95 : decode cX12_ageOf 95 = .ok (.getfield 25, 3) := by decide +kernel
theorem dX12_ageOf_98 : decode cX12_ageOf 98 = .ok (.iload_n 1, 1) := by decide +kernel
theorem dX12_ageOf_99 : decode cX12_ageOf 99 = .ok (.iaload, 1) := by decide +kernel
theorem dX12_ageOf_100 : decode cX12_ageOf 100 = .ok (.iastore, 1) := by decide +kernel
theorem dX12_ageOf_101 : decode cX12_ageOf 101 = .ok (.aload_n 0, 1) := by decide +kernel
theorem dX12_ageOf_102 : decode cX12_ageOf 102 = .ok (.getfield 77, 3) := by decide +kernel
theorem dX12_ageOf_105 : decode cX12_ageOf 105 = .ok (.bipush 6, 2) := by decide +kernel
theorem dX12_ageOf_107 : decode cX12_ageOf 107 = .ok (.iload 4, 2) := by decide +kernel
theorem dX12_ageOf_109 : decode cX12_ageOf 109 = .ok (.iconst (-1), 1) := by decide +kernel
theorem dX12_ageOf_110 : decode cX12_ageOf 110 = .ok (.if_icmp .ne 8, 3) := by decide +kernel
theorem dX12_ageOf_113 : decode cX12_ageOf 113 = .ok (.bipush 9, 2) := by decide +kernel
theorem dX12_ageOf_115 : decode cX12_ageOf 115 = .ok (.goto 10, 3) := by decide +kernel
theorem dX12_ageOf_118 : decode cX12_ageOf 118 = .ok (.aload_n 0, 1) := by decide +kernel
theorem dX12_ageOf_119 : decode cX12_ageOf 119 = .ok (.getfield 19, 3) := by decide +kernel
theorem dX12_ageOf_122 : decode cX12_ageOf 122 = .ok (.iload 4, 2) := by decide +kernel
theorem dX12_ageOf_124 : decode cX12_ageOf 124 = .ok (.iaload, 1) := by decide +kernel
theorem dX12_ageOf_125 : decode cX12_ageOf 125 = .ok (.iastore, 1) := by decide +kernel
theorem dX12_ageOf_126 : decode cX12_ageOf 126 = .ok (.aload_n 0, 1) := by decide +kernel
theorem dX12_ageOf_127 : decode cX12_ageOf 127 = .ok (.getfield 77, 3) := by decide +kernel
theorem dX12_ageOf_130 : decode cX12_ageOf 130 = .ok (.bipush 7, 2) := by decide +kernel
theorem dX12_ageOf_132 : decode cX12_ageOf 132 = .ok (.iload 4, 2) := by decide +kernel
theorem dX12_ageOf_134 : decode cX12_ageOf 134 = .ok (.iconst (-1), 1) := by decide +kernel
theorem dX12_ageOf_135 : decode cX12_ageOf 135 = .ok (.if_icmp .eq 17, 3) := by decide +kernel
theorem dX12_ageOf_138 : decode cX12_ageOf 138 = .ok (.aload_n 0, 1) := by decide +kernel
theorem dX12_ageOf_139 : decode cX12_ageOf 139 = .ok (.iload 4, 2) := by decide +kernel
theorem dX12_ageOf_141 : decode cX12_ageOf 141 = .ok (.iload_n 3, 1) := by decide +kernel
theorem dX12_ageOf_142 : decode cX12_ageOf 142 = .ok (.invokevirtual 143, 3) := by decide +kernel
theorem dX12_ageOf_145 : decode cX12_ageOf 145 = .ok (.ifCond .eq 7, 3) := by decide +kernel
theorem dX12_ageOf_148 : decode cX12_ageOf 148 = .ok (.iconst 1, 1) := by decide +kernel
theorem dX12_ageOf_149 : decode cX12_ageOf 149 = .ok (.goto 4, 3) := by decide +kernel
theorem dX12_ageOf_152 : decode cX12_ageOf 152 = .ok (.iconst 0, 1) := by decide +kernel
theorem dX12_ageOf_153 : decode cX12_ageOf 153 = .ok (.iastore, 1) := by decide +kernel
theorem dX12_ageOf_154 : decode cX12_ageOf 154 = .ok (.aload_n 0, 1) := by decide +kernel
theorem dX12_ageOf_155 : decode cX12_ageOf 155 = .ok (.getfield 77, 3) := by decide +kernel
theorem dX12_ageOf_158 : decode cX12_ageOf 158 = .ok (.bipush 8, 2) := by decide +kernel
theorem dX12_ageOf_160 : decode cX12_ageOf 160 = .ok (.iload_n 2, 1) := by decide +kernel
theorem dX12_ageOf_161 : decode cX12_ageOf 161 = .ok (.iastore, 1) := by decide +kernel
theorem dX12_ageOf_162 : decode cX12_ageOf 162 = .ok (.aload_n 0, 1) := by decide +kernel
theorem dX12_ageOf_163 : decode cX12_ageOf 163 = .ok (.getfield 34, 3) := by decide +kernel
theorem dX12_ageOf_166 : decode cX12_ageOf 166 = .ok (.iload_n 1, 1) := by decide +kernel
theorem dX12_ageOf_167 : decode cX12_ageOf 167 = .ok (.iaload, 1) := by decide +kernel
theorem dX12_ageOf_168 : decode cX12_ageOf 168 = .ok (.istore 5, 2) := by decide +kernel
theorem dX12_ageOf_170 : decode cX12_ageOf 170 = .ok (.aload_n 0, 1) := by decide +kernel
theorem dX12_ageOf_171 : decode cX12_ageOf 171 = .ok (.getfield 241, 3) := by decide +kernel
theorem dX12_ageOf_174 : decode cX12_ageOf 174 = .ok (.iconst 1, 1) := by decide +kernel
theorem dX12_ageOf_175 : decode cX12_ageOf 175 = .ok (.isub, 1) := by decide +kernel
theorem dX12_ageOf_176 : decode cX12_ageOf 176 = .ok (.istore 6, 2) := by decide +kernel
theorem dX12_ageOf_178 : decode cX12_ageOf 178 = .ok (.iload 6, 2) := by decide +kernel
theorem dX12_ageOf_180 : decode cX12_ageOf 180 = .ok (.ifCond .lt 38, 3) := by decide +kernel
theorem dX12_ageOf_183 : decode cX12_ageOf 183 = .ok (.aload_n 0, 1) := by decide +kernel
theorem dX12_ageOf_184 : decode cX12_ageOf 184 = .ok (.iload 6, 2) := by decide +kernel
theorem dX12_ageOf_186 : decode cX12_ageOf 186 = .ok (.invokevirtual 254, 3) := by decide +kernel
theorem dX12_ageOf_189 : decode cX12_ageOf 189 = .ok (.ifCond .eq 23, 3) := by decide +kernel
theorem dX12_ageOf_192 : decode cX12_ageOf 192 = .ok (.aload_n 0, 1) := by decide +kernel
theorem dX12_ageOf_193 : decode cX12_ageOf 193 = .ok (.aload_n 0, 1) := by decide +kernel
theorem dX12_ageOf_194 : decode cX12_ageOf 194 = .ok (.getfield 58, 3) := by decide +kernel
theorem dX12_ageOf_197 : decode cX12_ageOf 197 = .ok (.iload 6, 2) := by decide +kernel
theorem dX12_ageOf_199 : decode cX12_ageOf 199 = .ok (.iaload, 1) := by decide +kernel
theorem dX12_ageOf_200 : decode cX12_ageOf 200 = .ok (.aload_n 0, 1) := by decide +kernel
theorem dX12_ageOf_201 : decode cX12_ageOf 201 = .ok (.getfield 55, 3) := by decide +kernel
theorem dX12_ageOf_204 : decode cX12_ageOf 204 = .ok (.iload 6, 2) := by decide +kernel
theorem dX12_ageOf_206 : decode cX12_ageOf 206 = .ok (.iaload, 1) := by decide +kernel
theorem dX12_ageOf_207 : decode cX12_ageOf 207 = .ok (.invokevirtual 248, 3) := by decide +kernel
theorem dX12_ageOf_210 : decode cX12_ageOf 210 = .ok (.istore 5, 2) := by decide +kernel
theorem dX12_ageOf_212 : decode cX12_ageOf 212 = .ok (.iinc 6 (-1), 3) := by decide +kernel
theorem dX12_ageOf_215 : decode cX12_ageOf 215 = .ok (.goto (-37), 3) := by decide +kernel
theorem dX12_ageOf_218 : decode cX12_ageOf 218 = .ok (.iload 5, 2) := by decide +kernel
theorem dX12_ageOf_220 : decode cX12_ageOf 220 = .ok (.ifCond .ge 7, 3) := by decide +kernel
theorem dX12_ageOf_223 : decode cX12_ageOf 223 = .ok (.iconst 0, 1) := by decide +kernel
theorem dX12_ageOf_224 : decode cX12_ageOf 224 = .ok (.goto 19, 3) := by decide +kernel
theorem dX12_ageOf_227 : decode cX12_ageOf 227 = .ok (.iload 5, 2) := by decide +kernel
theorem dX12_ageOf_229 : decode cX12_ageOf 229 = .ok (.sipush 999, 3) := by decide +kernel
theorem dX12_ageOf_232 : decode cX12_ageOf 232 = .ok (.if_icmp .le 9, 3) := by decide +kernel
theorem dX12_ageOf_235 : decode cX12_ageOf 235 = .ok (.sipush 999, 3) := by decide +kernel
theorem dX12_ageOf_238 : decode cX12_ageOf 238 = .ok (.goto 5, 3) := by decide +kernel
theorem dX12_ageOf_241 : decode cX12_ageOf 241 = .ok (.iload 5, 2) := by decide +kernel
theorem dX12_ageOf_243 : decode cX12_ageOf 243 = .ok (.ireturn, 1) := by decide +kernel
theorem dX12_isRead_0 : decode cX12_isRead 0 = .ok (.aload_n 0, 1) := by decide +kernel
theorem dX12_isRead_1 : decode cX12_isRead 1 = .ok (.getfield 31, 3) := by decide +kernel
theorem dX12_isRead_4 : decode cX12_isRead 4 = .ok (.iload_n 1, 1) := by decide +kernel
theorem dX12_isRead_5 : decode cX12_isRead 5 = .ok (.iload_n 2, 1) := by decide +kernel
theorem dX12_isRead_6 : decode cX12_isRead 6 = .ok (.iconst 1, 1) := by decide +kernel
theorem dX12_isRead_7 : decode cX12_isRead 7 = .ok (.iadd, 1) := by decide +kernel
theorem dX12_isRead_8 : decode cX12_isRead 8 = .ok (.iastore, 1) := by decide +kernel
theorem dX12_isRead_9 : decode cX12_isRead 9 = .ok (.aload_n 0, 1) := by decide +kernel
theorem dX12_isRead_10 : decode cX12_isRead 10 = .ok (.getfield 34, 3) := by decide +kernel
theorem dX12_isRead_13 : decode cX12_isRead 13 = .ok (.iload_n 1, 1) := by decide +kernel
theorem dX12_isRead_14 : decode cX12_isRead 14 = .ok (.aload_n 0, 1) := by decide +kernel
theorem dX12_isRead_15 : decode cX12_isRead 15 = .ok (.iload_n 2, 1) := by decide +kernel
theorem dX12_isRead_16 : decode cX12_isRead 16 = .ok (.iload_n 3, 1) := by decide +kernel
theorem dX12_isRead_17 : decode cX12_isRead 17 = .ok (.invokevirtual 251, 3) := by decide +kernel
theorem dX12_isRead_20 : decode cX12_isRead 20 = .ok (.iastore, 1) := by decide +kernel
theorem dX12_isRead_21 : decode cX12_isRead 21 = .ok (.aload_n 0, 1) := by decide +kernel
theorem dX12_isRead_22 : decode cX12_isRead 22 = .ok (.getfield 37, 3) := by decide +kernel
theorem dX12_isRead_25 : decode cX12_isRead 25 = .ok (.iload_n 1, 1) := by decide +kernel
theorem dX12_isRead_26 : decode cX12_isRead 26 = .ok (.aload_n 0, 1) := by decide +kernel
theorem dX12_isRead_27 : decode cX12_isRead 27 = .ok (.getfield 37, 3) := by decide +kernel
theorem dX12_isRead_30 : decode cX12_isRead 30 = .ok (.iload_n 1, 1) := by decide +kernel
theorem dX12_isRead_31 : decode cX12_isRead 31 = .ok (.iaload, 1) := by decide +kernel
theorem dX12_isRead_32 : decode cX12_isRead 32 = .ok (.iconst 1, 1) := by decide +kernel
theorem dX12_isRead_33 : decode cX12_isRead 33 = .ok (.iadd, 1) := by decide +kernel
theorem dX12_isRead_34 : decode cX12_isRead 34 = .ok (.iastore, 1) := by decide +kernel
theorem dX12_isRead_35 : decode cX12_isRead 35 = .ok (.aload_n 0, 1) := by decide +kernel
theorem dX12_isRead_36 : decode cX12_isRead 36 = .ok (.getfield 40, 3) := by decide +kernel
theorem dX12_isRead_39 : decode cX12_isRead 39 = .ok (.iload_n 1, 1) := by decide +kernel
theorem dX12_isRead_40 : decode cX12_isRead 40 = .ok (.iload_n 3, 1) := by decide +kernel
theorem dX12_isRead_41 : decode cX12_isRead 41 = .ok (.iastore, 1) := by decide +kernel
theorem dX12_isRead_42 : decode cX12_isRead 42 = .ok (.return_, 1) := by decide +kernel
theorem dX12_read_0 : decode cX12_read 0 = .ok (.aload_n 0, 1) := by decide +kernel
theorem dX12_read_1 : decode cX12_read 1 = .ok (.iconst 0, 1) := by decide +kernel
theorem dX12_read_2 : decode cX12_read 2 = .ok (.putfield 104, 3) := by decide +kernel
theorem dX12_read_5 : decode cX12_read 5 = .ok (.aload_n 0, 1) := by decide +kernel
theorem dX12_read_6 : decode cX12_read 6 = .ok (.iload_n 1, 1) := by decide +kernel
theorem dX12_read_7 : decode cX12_read 7 = .ok (.invokevirtual 140, 3) := by decide +kernel
theorem dX12_read_10 : decode cX12_read 10 = .ok (.ifCond .eq 23, 3) := by decide +kernel
theorem dX12_read_13 : decode cX12_read 13 = .ok (.aload_n 0, 1) := by decide +kernel
theorem dX12_read_14 : decode cX12_read 14 = .ok (.iload_n 2, 1) := by decide +kernel
theorem dX12_read_15 : decode cX12_read 15 = .ok (.invokevirtual 123, 3) := by decide +kernel
theorem dX12_read_18 : decode cX12_read 18 = .ok (.ifCond .eq 15, 3) := by decide +kernel
theorem dX12_read_21 : decode cX12_read 21 = .ok (.aload_n 0, 1) := by decide +kernel
theorem dX12_read_22 : decode cX12_read 22 = .ok (.iload_n 2, 1) := by decide +kernel
theorem dX12_read_23 : decode cX12_read 23 = .ok (.aload_n 0, 1) := by decide +kernel
theorem dX12_read_24 : decode cX12_read 24 = .ok (.getfield 127, 3) := by decide +kernel
theorem dX12_read_27 : decode cX12_read 27 = .ok (.invokevirtual 143, 3) := by decide +kernel
theorem dX12_read_30 : decode cX12_read 30 = .ok (.ifCond .ne 5, 3) := by decide +kernel
theorem dX12_read_33 : decode cX12_read 33 = .ok (.iconst (-1), 1) := by decide +kernel
theorem dX12_read_34 : decode cX12_read 34 = .ok (.ireturn, 1) := by decide +kernel
theorem dX12_read_35 : decode cX12_read 35 = .ok (.aload_n 0, 1) := by decide +kernel
theorem dX12_read_36 : decode cX12_read 36 = .ok (.iload_n 1, 1) := by decide +kernel
theorem dX12_read_37 : decode cX12_read 37 = .ok (.invokevirtual 263, 3) := by decide +kernel
theorem dX12_read_40 : decode cX12_read 40 = .ok (.aload_n 0, 1) := by decide +kernel
theorem dX12_read_41 : decode cX12_read 41 = .ok (.iload_n 1, 1) := by decide +kernel
theorem dX12_read_42 : decode cX12_read 42 = .ok (.iload_n 1, 1) := by decide +kernel
theorem dX12_read_43 : decode cX12_read 43 = .ok (.aload_n 0, 1) := by decide +kernel
theorem dX12_read_44 : decode cX12_read 44 = .ok (.getfield 127, 3) := by decide +kernel
theorem dX12_read_47 : decode cX12_read 47 = .ok (.invokevirtual 257, 3) := by decide +kernel
theorem dX12_read_50 : decode cX12_read 50 = .ok (.istore_n 3, 1) := by decide +kernel
theorem dX12_read_51 : decode cX12_read 51 = .ok (.aload_n 0, 1) := by decide +kernel
theorem dX12_read_52 : decode cX12_read 52 = .ok (.iload_n 1, 1) := by decide +kernel
theorem dX12_read_53 : decode cX12_read 53 = .ok (.iload_n 2, 1) := by decide +kernel
theorem dX12_read_54 : decode cX12_read 54 = .ok (.aload_n 0, 1) := by decide +kernel
theorem dX12_read_55 : decode cX12_read 55 = .ok (.getfield 127, 3) := by decide +kernel
theorem dX12_read_58 : decode cX12_read 58 = .ok (.invokevirtual 266, 3) := by decide +kernel
theorem dX12_read_61 : decode cX12_read 61 = .ok (.aload_n 0, 1) := by decide +kernel
theorem dX12_read_62 : decode cX12_read 62 = .ok (.iload_n 1, 1) := by decide +kernel
theorem dX12_read_63 : decode cX12_read 63 = .ok (.iload_n 1, 1) := by decide +kernel
theorem dX12_read_64 : decode cX12_read 64 = .ok (.aload_n 0, 1) := by decide +kernel
theorem dX12_read_65 : decode cX12_read 65 = .ok (.getfield 127, 3) := by decide +kernel
theorem dX12_read_68 : decode cX12_read 68 = .ok (.invokevirtual 257, 3) := by decide +kernel
theorem dX12_read_71 : decode cX12_read 71 = .ok (.istore 4, 2) := by decide +kernel
theorem dX12_read_73 : decode cX12_read 73 = .ok (.aload_n 0, 1) := by decide +kernel
theorem dX12_read_74 : decode cX12_read 74 = .ok (.getfield 260, 3) := by decide +kernel
theorem dX12_read_77 : decode cX12_read 77 = .ok (.bipush 120, 2) := by decide +kernel
theorem dX12_read_79 : decode cX12_read 79 = .ok (.if_icmp .ge 85, 3) := by decide +kernel
theorem dX12_read_82 : decode cX12_read 82 = .ok (.aload_n 0, 1) := by decide +kernel
theorem dX12_read_83 : decode cX12_read 83 = .ok (.getfield 46, 3) := by decide +kernel
theorem dX12_read_86 : decode cX12_read 86 = .ok (.iconst 5, 1) := by decide +kernel
theorem dX12_read_87 : decode cX12_read 87 = .ok (.aload_n 0, 1) := by decide +kernel
theorem dX12_read_88 : decode cX12_read 88 = .ok (.getfield 260, 3) := by decide +kernel
theorem dX12_read_91 : decode cX12_read 91 = .ok (.imul, 1) := by decide +kernel
theorem dX12_read_92 : decode cX12_read 92 = .ok (.iload_n 1, 1) := by decide +kernel
theorem dX12_read_93 : decode cX12_read 93 = .ok (.iastore, 1) := by decide +kernel
theorem dX12_read_94 : decode cX12_read 94 = .ok (.aload_n 0, 1) := by decide +kernel
theorem dX12_read_95 : decode cX12_read 95 = .ok (.getfield 46, 3) := by decide +kernel
theorem dX12_read_98 : decode cX12_read 98 = .ok (.iconst 5, 1) := by decide +kernel
theorem dX12_read_99 : decode cX12_read 99 = .ok (.aload_n 0, 1) := by decide +kernel
theorem dX12_read_100 : decode cX12_read 100 = .ok (.getfield 260, 3) := by decide +kernel
theorem dX12_read_103 : decode cX12_read 103 = .ok (.imul, 1) := by decide +kernel
theorem dX12_read_104 : decode cX12_read 104 = .ok (.iconst 1, 1) := by decide +kernel
theorem dX12_read_105 : decode cX12_read 105 = .ok (.iadd, 1) := by decide +kernel
theorem dX12_read_106 : decode cX12_read 106 = .ok (.iload_n 2, 1) := by decide +kernel
theorem dX12_read_107 : decode cX12_read 107 = .ok (.iastore, 1) := by decide +kernel
theorem dX12_read_108 : decode cX12_read 108 = .ok (.aload_n 0, 1) := by decide +kernel
theorem dX12_read_109 : decode cX12_read 109 = .ok (.getfield 46, 3) := by decide +kernel
theorem dX12_read_112 : decode cX12_read 112 = .ok (.iconst 5, 1) := by decide +kernel
theorem dX12_read_113 : decode cX12_read 113 = .ok (.aload_n 0, 1) := by decide +kernel
theorem dX12_read_114 : decode cX12_read 114 = .ok (.getfield 260, 3) := by decide +kernel
theorem dX12_read_117 : decode cX12_read 117 = .ok (.imul, 1) := by decide +kernel
theorem dX12_read_118 : decode cX12_read 118 = .ok (.iconst 2, 1) := by decide +kernel
theorem dX12_read_119 : decode cX12_read 119 = .ok (.iadd, 1) := by decide +kernel
theorem dX12_read_120 : decode cX12_read 120 = .ok (.aload_n 0, 1) := by decide +kernel
theorem dX12_read_121 : decode cX12_read 121 = .ok (.getfield 127, 3) := by decide +kernel
theorem dX12_read_124 : decode cX12_read 124 = .ok (.iastore, 1) := by decide +kernel
theorem dX12_read_125 : decode cX12_read 125 = .ok (.aload_n 0, 1) := by decide +kernel
theorem dX12_read_126 : decode cX12_read 126 = .ok (.getfield 46, 3) := by decide +kernel
theorem dX12_read_129 : decode cX12_read 129 = .ok (.iconst 5, 1) := by decide +kernel
theorem dX12_read_130 : decode cX12_read 130 = .ok (.aload_n 0, 1) := by decide +kernel
theorem dX12_read_131 : decode cX12_read 131 = .ok (.getfield 260, 3) := by decide +kernel
theorem dX12_read_134 : decode cX12_read 134 = .ok (.imul, 1) := by decide +kernel
theorem dX12_read_135 : decode cX12_read 135 = .ok (.iconst 3, 1) := by decide +kernel
theorem dX12_read_136 : decode cX12_read 136 = .ok (.iadd, 1) := by decide +kernel
theorem dX12_read_137 : decode cX12_read 137 = .ok (.iload_n 3, 1) := by decide +kernel
theorem dX12_read_138 : decode cX12_read 138 = .ok (.iastore, 1) := by decide +kernel
theorem dX12_read_139 : decode cX12_read 139 = .ok (.aload_n 0, 1) := by decide +kernel
theorem dX12_read_140 : decode cX12_read 140 = .ok (.getfield 46, 3) := by decide +kernel
theorem dX12_read_143 : decode cX12_read 143 = .ok (.iconst 5, 1) := by decide +kernel
theorem dX12_read_144 : decode cX12_read 144 = .ok (.aload_n 0, 1) := by decide +kernel
theorem dX12_read_145 : decode cX12_read 145 = .ok (.getfield 260, 3) := by decide +kernel
theorem dX12_read_148 : decode cX12_read 148 = .ok (.imul, 1) := by decide +kernel
theorem dX12_read_149 : decode cX12_read 149 = .ok (.iconst 4, 1) := by decide +kernel
theorem dX12_read_150 : decode cX12_read 150 = .ok (.iadd, 1) := by decide +kernel
theorem dX12_read_151 : decode cX12_read 151 = .ok (.iload 4, 2) := by decide +kernel
theorem dX12_read_153 : decode cX12_read 153 = .ok (.iastore, 1) := by decide +kernel
theorem dX12_read_154 : decode cX12_read 154 = .ok (.aload_n 0, 1) := by decide +kernel
theorem dX12_read_155 : decode cX12_read 155 = .ok (.aload_n 0, 1) := by decide +kernel
theorem dX12_read_156 : decode cX12_read 156 = .ok (.getfield 260, 3) := by decide +kernel
theorem dX12_read_159 : decode cX12_read 159 = .ok (.iconst 1, 1) := by decide +kernel
theorem dX12_read_160 : decode cX12_read 160 = .ok (.iadd, 1) := by decide +kernel
theorem dX12_read_161 : decode cX12_read 161 = .ok (.putfield 260, 3) := by decide +kernel
theorem dX12_read_164 : decode cX12_read 164 = .ok (.iload 4, 2) := by decide +kernel
theorem dX12_read_166 : decode cX12_read 166 = .ok (.ireturn, 1) := by decide +kernel
theorem dX12_lease_0 : decode cX12_lease 0 = .ok (.aload_n 0, 1) := by decide +kernel
theorem dX12_lease_1 : decode cX12_lease 1 = .ok (.iconst 0, 1) := by decide +kernel
theorem dX12_lease_2 : decode cX12_lease 2 = .ok (.putfield 104, 3) := by decide +kernel
theorem dX12_lease_5 : decode cX12_lease 5 = .ok (.aload_n 0, 1) := by decide +kernel
theorem dX12_lease_6 : decode cX12_lease 6 = .ok (.iload_n 1, 1) := by decide +kernel
theorem dX12_lease_7 : decode cX12_lease 7 = .ok (.invokevirtual 140, 3) := by decide +kernel
theorem dX12_lease_10 : decode cX12_lease 10 = .ok (.ifCond .eq 28, 3) := by decide +kernel
theorem dX12_lease_13 : decode cX12_lease 13 = .ok (.iload_n 2, 1) := by decide +kernel
theorem dX12_lease_14 : decode cX12_lease 14 = .ok (.iconst (-1), 1) := by decide +kernel
theorem dX12_lease_15 : decode cX12_lease 15 = .ok (.if_icmp .eq 25, 3) := by decide +kernel
theorem dX12_lease_18 : decode cX12_lease 18 = .ok (.aload_n 0, 1) := by decide +kernel
theorem dX12_lease_19 : decode cX12_lease 19 = .ok (.iload_n 2, 1) := by decide +kernel
theorem dX12_lease_20 : decode cX12_lease 20 = .ok (.invokevirtual 123, 3) := by decide +kernel
theorem dX12_lease_23 : decode cX12_lease 23 = .ok (.ifCond .eq 15, 3) := by decide +kernel
theorem dX12_lease_26 : decode cX12_lease 26 = .ok (.aload_n 0, 1) := by decide +kernel
theorem dX12_lease_27 : decode cX12_lease 27 = .ok (.iload_n 2, 1) := by decide +kernel
theorem dX12_lease_28 : decode cX12_lease 28 = .ok (.aload_n 0, 1) := by decide +kernel
theorem dX12_lease_29 : decode cX12_lease 29 = .ok (.getfield 127, 3) := by decide +kernel
theorem dX12_lease_32 : decode cX12_lease 32 = .ok (.invokevirtual 143, 3) := by decide +kernel
theorem dX12_lease_35 : decode cX12_lease 35 = .ok (.ifCond .ne 5, 3) := by decide +kernel
theorem dX12_lease_38 : decode cX12_lease 38 = .ok (.iconst 0, 1) := by decide +kernel
theorem dX12_lease_39 : decode cX12_lease 39 = .ok (.ireturn, 1) := by decide +kernel
theorem dX12_lease_40 : decode cX12_lease 40 = .ok (.aload_n 0, 1) := by decide +kernel
theorem dX12_lease_41 : decode cX12_lease 41 = .ok (.getfield 43, 3) := by decide +kernel
theorem dX12_lease_44 : decode cX12_lease 44 = .ok (.iload_n 1, 1) := by decide +kernel
theorem dX12_lease_45 : decode cX12_lease 45 = .ok (.iload_n 2, 1) := by decide +kernel
theorem dX12_lease_46 : decode cX12_lease 46 = .ok (.iastore, 1) := by decide +kernel
theorem dX12_lease_47 : decode cX12_lease 47 = .ok (.aload_n 0, 1) := by decide +kernel
theorem dX12_lease_48 : decode cX12_lease 48 = .ok (.iconst 0, 1) := by decide +kernel
theorem dX12_lease_49 : decode cX12_lease 49 = .ok (.putfield 120, 3) := by decide +kernel
theorem dX12_lease_52 : decode cX12_lease 52 = .ok (.iconst 1, 1) := by decide +kernel
theorem dX12_lease_53 : decode cX12_lease 53 = .ok (.ireturn, 1) := by decide +kernel
theorem dX12_leasesOf_0 : decode cX12_leasesOf 0 = .ok (.iconst 0, 1) := by decide +kernel
theorem dX12_leasesOf_1 : decode cX12_leasesOf 1 = .ok (.istore_n 2, 1) := by decide +kernel
theorem dX12_leasesOf_2 : decode cX12_leasesOf 2 = .ok (.iconst 0, 1) := by decide +kernel
theorem dX12_leasesOf_3 : decode cX12_leasesOf 3 = .ok (.istore_n 3, 1) := by decide +kernel
theorem dX12_leasesOf_4 : decode cX12_leasesOf 4 = .ok (.iload_n 3, 1) := by decide +kernel
theorem dX12_leasesOf_5 : decode cX12_leasesOf 5 = .ok (.aload_n 0, 1) := by decide +kernel
theorem dX12_leasesOf_6 : decode cX12_leasesOf 6 = .ok (.getfield 130, 3) := by decide +kernel
theorem dX12_leasesOf_9 : decode cX12_leasesOf 9 = .ok (.if_icmp .ge 23, 3) := by decide +kernel
theorem dX12_leasesOf_12 : decode cX12_leasesOf 12 = .ok (.aload_n 0, 1) := by decide +kernel
theorem dX12_leasesOf_13 : decode cX12_leasesOf 13 = .ok (.getfield 43, 3) := by decide +kernel
theorem dX12_leasesOf_16 : decode cX12_leasesOf 16 = .ok (.iload_n 3, 1) := by decide +kernel
theorem dX12_leasesOf_17 : decode cX12_leasesOf 17 = .ok (.iaload, 1) := by decide +kernel
theorem dX12_leasesOf_18 : decode cX12_leasesOf 18 = .ok (.iload_n 1, 1) := by decide +kernel
theorem dX12_leasesOf_19 : decode cX12_leasesOf 19 = .ok (.if_icmp .ne 7, 3) := by decide +kernel
theorem dX12_leasesOf_22 : decode cX12_leasesOf 22 = .ok (.iload_n 2, 1) := by decide +kernel
theorem dX12_leasesOf_23 : decode cX12_leasesOf 23 = .ok (.iconst 1, 1) := by decide +kernel
theorem dX12_leasesOf_24 : decode cX12_leasesOf 24 = .ok (.iadd, 1) := by decide +kernel
theorem dX12_leasesOf_25 : decode cX12_leasesOf 25 = .ok (.istore_n 2, 1) := by decide +kernel
theorem dX12_leasesOf_26 : decode cX12_leasesOf 26 = .ok (.iinc 3 1, 3) := by decide +kernel
theorem dX12_leasesOf_29 : decode cX12_leasesOf 29 = .ok (.goto (-25), 3) := by decide +kernel
theorem dX12_leasesOf_32 : decode cX12_leasesOf 32 = .ok (.iload_n 2, 1) := by decide +kernel
theorem dX12_leasesOf_33 : decode cX12_leasesOf 33 = .ok (.ireturn, 1) := by decide +kernel
theorem dX12_nextOne_0 : decode cX12_nextOne 0 = .ok (.iconst (-1), 1) := by decide +kernel
theorem dX12_nextOne_1 : decode cX12_nextOne 1 = .ok (.istore_n 1, 1) := by decide +kernel
theorem dX12_nextOne_2 : decode cX12_nextOne 2 = .ok (.iconst 0, 1) := by decide +kernel
theorem dX12_nextOne_3 : decode cX12_nextOne 3 = .ok (.istore_n 2, 1) := by decide +kernel
theorem dX12_nextOne_4 : decode cX12_nextOne 4 = .ok (.iload_n 2, 1) := by decide +kernel
theorem dX12_nextOne_5 : decode cX12_nextOne 5 = .ok (.aload_n 0, 1) := by decide +kernel
theorem dX12_nextOne_6 : decode cX12_nextOne 6 = .ok (.getfield 112, 3) := by decide +kernel
theorem dX12_nextOne_9 : decode cX12_nextOne 9 = .ok (.if_icmp .ge 57, 3) := by decide +kernel
theorem dX12_nextOne_12 : decode cX12_nextOne 12 = .ok (.aload_n 0, 1) := by decide +kernel
theorem dX12_nextOne_13 : decode cX12_nextOne 13 = .ok (.iload_n 2, 1) := by decide +kernel
theorem dX12_nextOne_14 : decode cX12_nextOne 14 = .ok (.aload_n 0, 1) := by decide +kernel
theorem dX12_nextOne_15 : decode cX12_nextOne 15 = .ok (.getfield 127, 3) := by decide +kernel
theorem dX12_nextOne_18 : decode cX12_nextOne 18 = .ok (.invokevirtual 143, 3) := by decide +kernel
theorem dX12_nextOne_21 : decode cX12_nextOne 21 = .ok (.ifCond .eq 39, 3) := by decide +kernel
theorem dX12_nextOne_24 : decode cX12_nextOne 24 = .ok (.aload_n 0, 1) := by decide +kernel
theorem dX12_nextOne_25 : decode cX12_nextOne 25 = .ok (.iload_n 2, 1) := by decide +kernel
theorem dX12_nextOne_26 : decode cX12_nextOne 26 = .ok (.invokevirtual 270, 3) := by decide +kernel
theorem dX12_nextOne_29 : decode cX12_nextOne 29 = .ok (.ifCond .ne 31, 3) := by decide +kernel
theorem dX12_nextOne_32 : decode cX12_nextOne 32 = .ok (.iload_n 1, 1) := by decide +kernel
theorem dX12_nextOne_33 : decode cX12_nextOne 33 = .ok (.iconst (-1), 1) := by decide +kernel
theorem dX12_nextOne_34 : decode cX12_nextOne 34 = .ok (.if_icmp .eq 24, 3) := by decide +kernel
theorem dX12_nextOne_37 : decode cX12_nextOne 37 = .ok (.aload_n 0, 1) := by decide +kernel
theorem dX12_nextOne_38 : decode cX12_nextOne 38 = .ok (.iload_n 2, 1) := by decide +kernel
theorem dX12_nextOne_39 : decode cX12_nextOne 39 = .ok (.aload_n 0, 1) := by decide +kernel
theorem dX12_nextOne_40 : decode cX12_nextOne 40 = .ok (.getfield 127, 3) := by decide +kernel
theorem dX12_nextOne_43 : decode cX12_nextOne 43 = .ok (.invokevirtual 251, 3) := by decide +kernel
theorem dX12_nextOne_46 : decode cX12_nextOne 46 = .ok (.aload_n 0, 1) := by decide +kernel
theorem dX12_nextOne_47 : decode cX12_nextOne 47 = .ok (.iload_n 1, 1) := by decide +kernel
theorem dX12_nextOne_48 : decode cX12_nextOne 48 = .ok (.aload_n 0, 1) := by decide +kernel
theorem dX12_nextOne_49 : decode cX12_nextOne 49 = .ok (.getfield 127, 3) := by decide +kernel
theorem dX12_nextOne_52 : decode cX12_nextOne 52 = .ok (.invokevirtual 251, 3) := by decide +kernel
theorem dX12_nextOne_55 : decode cX12_nextOne 55 = .ok (.if_icmp .le 5, 3) := by decide +kernel
theorem dX12_nextOne_58 : decode cX12_nextOne 58 = .ok (.iload_n 2, 1) := by decide +kernel
theorem dX12_nextOne_59 : decode cX12_nextOne 59 = .ok (.istore_n 1, 1) := by decide +kernel
theorem dX12_nextOne_60 : decode cX12_nextOne 60 = .ok (.iinc 2 1, 3) := by decide +kernel
theorem dX12_nextOne_63 : decode cX12_nextOne 63 = .ok (.goto (-59), 3) := by decide +kernel
theorem dX12_nextOne_66 : decode cX12_nextOne 66 = .ok (.iload_n 1, 1) := by decide +kernel
theorem dX12_nextOne_67 : decode cX12_nextOne 67 = .ok (.ireturn, 1) := by decide +kernel
theorem dX12_draw_0 : decode cX12_draw 0 = .ok (.aload_n 0, 1) := by decide +kernel
theorem dX12_draw_1 : decode cX12_draw 1 = .ok (.ldc 110, 2) := by decide +kernel
theorem dX12_draw_3 : decode cX12_draw 3 = .ok (.aload_n 0, 1) := by decide +kernel
theorem dX12_draw_4 : decode cX12_draw 4 = .ok (.getfield 107, 3) := by decide +kernel
theorem dX12_draw_7 : decode cX12_draw 7 = .ok (.imul, 1) := by decide +kernel
theorem dX12_draw_8 : decode cX12_draw 8 = .ok (.ldc 111, 2) := by decide +kernel
theorem dX12_draw_10 : decode cX12_draw 10 = .ok (.iadd, 1) := by decide +kernel
theorem dX12_draw_11 : decode cX12_draw 11 = .ok (.putfield 107, 3) := by decide +kernel
theorem dX12_draw_14 : decode cX12_draw 14 = .ok (.aload_n 0, 1) := by decide +kernel
theorem dX12_draw_15 : decode cX12_draw 15 = .ok (.getfield 107, 3) := by decide +kernel
theorem dX12_draw_18 : decode cX12_draw 18 = .ok (.bipush 8, 2) := by decide +kernel
theorem dX12_draw_20 : decode cX12_draw 20 = .ok (.iushr, 1) := by decide +kernel
theorem dX12_draw_21 : decode cX12_draw 21 = .ok (.iload_n 1, 1) := by decide +kernel
theorem dX12_draw_22 : decode cX12_draw 22 = .ok (.irem, 1) := by decide +kernel
theorem dX12_draw_23 : decode cX12_draw 23 = .ok (.ireturn, 1) := by decide +kernel
theorem dX12_ends_0 : decode cX12_ends 0 = .ok (.aload_n 0, 1) := by decide +kernel
theorem dX12_ends_1 : decode cX12_ends 1 = .ok (.aload_n 0, 1) := by decide +kernel
theorem dX12_ends_2 : decode cX12_ends 2 = .ok (.getfield 127, 3) := by decide +kernel
theorem dX12_ends_5 : decode cX12_ends 5 = .ok (.iconst 1, 1) := by decide +kernel
theorem dX12_ends_6 : decode cX12_ends 6 = .ok (.iadd, 1) := by decide +kernel
theorem dX12_ends_7 : decode cX12_ends 7 = .ok (.putfield 127, 3) := by decide +kernel
theorem dX12_ends_10 : decode cX12_ends 10 = .ok (.iconst 0, 1) := by decide +kernel
theorem dX12_ends_11 : decode cX12_ends 11 = .ok (.istore_n 1, 1) := by decide +kernel
theorem dX12_ends_12 : decode cX12_ends 12 = .ok (.iload_n 1, 1) := by decide +kernel
theorem dX12_ends_13 : decode cX12_ends 13 = .ok (.aload_n 0, 1) := by decide +kernel
theorem dX12_ends_14 : decode cX12_ends 14 = .ok (.getfield 112, 3) := by decide +kernel
theorem dX12_ends_17 : decode cX12_ends 17 = .ok (.if_icmp .ge 69, 3) := by decide +kernel
theorem dX12_ends_20 : decode cX12_ends 20 = .ok (.aload_n 0, 1) := by decide +kernel
theorem dX12_ends_21 : decode cX12_ends 21 = .ok (.getfield 22, 3) := by decide +kernel
theorem dX12_ends_24 : decode cX12_ends 24 = .ok (.iload_n 1, 1) := by decide +kernel
theorem dX12_ends_25 : decode cX12_ends 25 = .ok (.iaload, 1) := by decide +kernel
theorem dX12_ends_26 : decode cX12_ends 26 = .ok (.ifCond .eq 54, 3) := by decide +kernel
theorem dX12_ends_29 : decode cX12_ends 29 = .ok (.aload_n 0, 1) := by decide +kernel
theorem dX12_ends_30 : decode cX12_ends 30 = .ok (.iload_n 1, 1) := by decide +kernel
theorem dX12_ends_31 : decode cX12_ends 31 = .ok (.aload_n 0, 1) := by decide +kernel
theorem dX12_ends_32 : decode cX12_ends 32 = .ok (.getfield 127, 3) := by decide +kernel
theorem dX12_ends_35 : decode cX12_ends 35 = .ok (.invokevirtual 143, 3) := by decide +kernel
theorem dX12_ends_38 : decode cX12_ends 38 = .ok (.ifCond .eq 42, 3) := by decide +kernel
theorem dX12_ends_41 : decode cX12_ends 41 = .ok (.aload_n 0, 1) := by decide +kernel
theorem dX12_ends_42 : decode cX12_ends 42 = .ok (.sipush 10000, 3) := by decide +kernel
theorem dX12_ends_45 : decode cX12_ends 45 = .ok (.invokevirtual 273, 3) := by decide +kernel
theorem dX12_ends_48 : decode cX12_ends 48 = .ok (.aload_n 0, 1) := by decide +kernel
theorem dX12_ends_49 : decode cX12_ends 49 = .ok (.getfield 22, 3) := by decide +kernel
theorem dX12_ends_52 : decode cX12_ends 52 = .ok (.iload_n 1, 1) := by decide +kernel
theorem dX12_ends_53 : decode cX12_ends 53 = .ok (.iaload, 1) := by decide +kernel
theorem dX12_ends_54 : decode cX12_ends 54 = .ok (.if_icmp .lt 6, 3) := by decide +kernel
theorem dX12_ends_57 : decode cX12_ends 57 = .ok (.goto 23, 3) := by decide +kernel
theorem dX12_ends_60 : decode cX12_ends 60 = .ok (.aload_n 0, 1) := by decide +kernel
theorem dX12_ends_61 : decode cX12_ends 61 = .ok (.getfield 13, 3) := by decide +kernel
theorem dX12_ends_64 : decode cX12_ends 64 = .ok (.iload_n 1, 1) := by decide +kernel
theorem dX12_ends_65 : decode cX12_ends 65 = .ok (.aload_n 0, 1) := by decide +kernel
theorem dX12_ends_66 : decode cX12_ends 66 = .ok (.getfield 127, 3) := by decide +kernel
theorem dX12_ends_69 : decode cX12_ends 69 = .ok (.iastore, 1) := by decide +kernel
theorem dX12_ends_70 : decode cX12_ends 70 = .ok (.aload_n 0, 1) := by decide +kernel
theorem dX12_ends_71 : decode cX12_ends 71 = .ok (.aload_n 0, 1) := by decide +kernel
theorem dX12_ends_72 : decode cX12_ends 72 = .ok (.getfield 276, 3) := by decide +kernel
theorem dX12_ends_75 : decode cX12_ends 75 = .ok (.iconst 1, 1) := by decide +kernel
theorem dX12_ends_76 : decode cX12_ends 76 = .ok (.iadd, 1) := by decide +kernel
theorem dX12_ends_77 : decode cX12_ends 77 = .ok (.putfield 276, 3) := by decide +kernel
theorem dX12_ends_80 : decode cX12_ends 80 = .ok (.iinc 1 1, 3) := by decide +kernel
theorem dX12_ends_83 : decode cX12_ends 83 = .ok (.goto (-71), 3) := by decide +kernel
theorem dX12_ends_86 : decode cX12_ends 86 = .ok (.iconst 0, 1) := by decide +kernel
theorem dX12_ends_87 : decode cX12_ends 87 = .ok (.istore_n 1, 1) := by decide +kernel
theorem dX12_ends_88 : decode cX12_ends 88 = .ok (.iload_n 1, 1) := by decide +kernel
theorem dX12_ends_89 : decode cX12_ends 89 = .ok (.aload_n 0, 1) := by decide +kernel
theorem dX12_ends_90 : decode cX12_ends 90 = .ok (.getfield 130, 3) := by decide +kernel
theorem dX12_ends_93 : decode cX12_ends 93 = .ok (.if_icmp .ge 46, 3) := by decide +kernel
theorem dX12_ends_96 : decode cX12_ends 96 = .ok (.aload_n 0, 1) := by decide +kernel
theorem dX12_ends_97 : decode cX12_ends 97 = .ok (.getfield 43, 3) := by decide +kernel
theorem dX12_ends_100 : decode cX12_ends 100 = .ok (.iload_n 1, 1) := by decide +kernel
theorem dX12_ends_101 : decode cX12_ends 101 = .ok (.iaload, 1) := by decide +kernel
theorem dX12_ends_102 : decode cX12_ends 102 = .ok (.iconst (-1), 1) := by decide +kernel
theorem dX12_ends_103 : decode cX12_ends 103 = .ok (.if_icmp .eq 30, 3) := by decide +kernel
theorem dX12_ends_106 : decode cX12_ends 106 = .ok (.aload_n 0, 1) := by decide +kernel
theorem dX12_ends_107 : decode cX12_ends 107 = .ok (.aload_n 0, 1) := by decide +kernel
theorem dX12_ends_108 : decode cX12_ends 108 = .ok (.getfield 43, 3) := by decide +kernel
theorem dX12_ends_111 : decode cX12_ends 111 = .ok (.iload_n 1, 1) := by decide +kernel
theorem dX12_ends_112 : decode cX12_ends 112 = .ok (.iaload, 1) := by decide +kernel
theorem dX12_ends_113 : decode cX12_ends 113 = .ok (.aload_n 0, 1) := by decide +kernel
theorem dX12_ends_114 : decode cX12_ends 114 = .ok (.getfield 127, 3) := by decide +kernel
theorem dX12_ends_117 : decode cX12_ends 117 = .ok (.invokevirtual 143, 3) := by decide +kernel
theorem dX12_ends_120 : decode cX12_ends 120 = .ok (.ifCond .ne 13, 3) := by decide +kernel
theorem dX12_ends_123 : decode cX12_ends 123 = .ok (.aload_n 0, 1) := by decide +kernel
theorem dX12_ends_124 : decode cX12_ends 124 = .ok (.getfield 43, 3) := by decide +kernel
theorem dX12_ends_127 : decode cX12_ends 127 = .ok (.iload_n 1, 1) := by decide +kernel
theorem dX12_ends_128 : decode cX12_ends 128 = .ok (.aload_n 0, 1) := by decide +kernel
theorem dX12_ends_129 : decode cX12_ends 129 = .ok (.invokevirtual 279, 3) := by decide +kernel
theorem dX12_ends_132 : decode cX12_ends 132 = .ok (.iastore, 1) := by decide +kernel
theorem dX12_ends_133 : decode cX12_ends 133 = .ok (.iinc 1 1, 3) := by decide +kernel
theorem dX12_ends_136 : decode cX12_ends 136 = .ok (.goto (-48), 3) := by decide +kernel
theorem dX12_ends_139 : decode cX12_ends 139 = .ok (.return_, 1) := by decide +kernel
theorem dX12_days_0 : decode cX12_days 0 = .ok (.aload_n 0, 1) := by decide +kernel
theorem dX12_days_1 : decode cX12_days 1 = .ok (.iconst 0, 1) := by decide +kernel
theorem dX12_days_2 : decode cX12_days 2 = .ok (.putfield 104, 3) := by decide +kernel
theorem dX12_days_5 : decode cX12_days 5 = .ok (.aload_n 0, 1) := by decide +kernel
theorem dX12_days_6 : decode cX12_days 6 = .ok (.iload_n 1, 1) := by decide +kernel
theorem dX12_days_7 : decode cX12_days 7 = .ok (.iconst 1, 1) := by decide +kernel
theorem dX12_days_8 : decode cX12_days 8 = .ok (.sipush 400, 3) := by decide +kernel
theorem dX12_days_11 : decode cX12_days 11 = .ok (.invokevirtual 116, 3) := by decide +kernel
theorem dX12_days_14 : decode cX12_days 14 = .ok (.ifCond .eq 15, 3) := by decide +kernel
theorem dX12_days_17 : decode cX12_days 17 = .ok (.aload_n 0, 1) := by decide +kernel
theorem dX12_days_18 : decode cX12_days 18 = .ok (.getfield 127, 3) := by decide +kernel
theorem dX12_days_21 : decode cX12_days 21 = .ok (.iload_n 1, 1) := by decide +kernel
theorem dX12_days_22 : decode cX12_days 22 = .ok (.iadd, 1) := by decide +kernel
theorem dX12_days_23 : decode cX12_days 23 = .ok (.sipush 9999, 3) := by decide +kernel
theorem dX12_days_26 : decode cX12_days 26 = .ok (.if_icmp .le 5, 3) := by decide +kernel
theorem dX12_days_29 : decode cX12_days 29 = .ok (.iconst (-1), 1) := by decide +kernel
theorem dX12_days_30 : decode cX12_days 30 = .ok (.ireturn, 1) := by decide +kernel
theorem dX12_days_31 : decode cX12_days 31 = .ok (.aload_n 0, 1) := by decide +kernel
theorem dX12_days_32 : decode cX12_days 32 = .ok (.getfield 276, 3) := by decide +kernel
theorem dX12_days_35 : decode cX12_days 35 = .ok (.istore_n 2, 1) := by decide +kernel
theorem dX12_days_36 : decode cX12_days 36 = .ok (.iconst 0, 1) := by decide +kernel
theorem dX12_days_37 : decode cX12_days 37 = .ok (.istore_n 3, 1) := by decide +kernel
theorem dX12_days_38 : decode cX12_days 38 = .ok (.iload_n 3, 1) := by decide +kernel
theorem dX12_days_39 : decode cX12_days 39 = .ok (.iload_n 1, 1) := by decide +kernel
theorem dX12_days_40 : decode cX12_days 40 = .ok (.if_icmp .ge 13, 3) := by decide +kernel
theorem dX12_days_43 : decode cX12_days 43 = .ok (.aload_n 0, 1) := by decide +kernel
theorem dX12_days_44 : decode cX12_days 44 = .ok (.invokevirtual 282, 3) := by decide +kernel
theorem dX12_days_47 : decode cX12_days 47 = .ok (.iinc 3 1, 3) := by decide +kernel
theorem dX12_days_50 : decode cX12_days 50 = .ok (.goto (-12), 3) := by decide +kernel
theorem dX12_days_53 : decode cX12_days 53 = .ok (.aload_n 0, 1) := by decide +kernel
theorem dX12_days_54 : decode cX12_days 54 = .ok (.iconst 0, 1) := by decide +kernel
theorem dX12_days_55 : decode cX12_days 55 = .ok (.putfield 120, 3) := by decide +kernel
theorem dX12_days_58 : decode cX12_days 58 = .ok (.aload_n 0, 1) := by decide +kernel
theorem dX12_days_59 : decode cX12_days 59 = .ok (.getfield 276, 3) := by decide +kernel
theorem dX12_days_62 : decode cX12_days 62 = .ok (.iload_n 2, 1) := by decide +kernel
theorem dX12_days_63 : decode cX12_days 63 = .ok (.isub, 1) := by decide +kernel
theorem dX12_days_64 : decode cX12_days 64 = .ok (.ireturn, 1) := by decide +kernel
theorem dX12_types_0 : decode cX12_types 0 = .ok (.bipush 24, 2) := by decide +kernel
theorem dX12_types_2 : decode cX12_types 2 = .ok (.istore_n 2, 1) := by decide +kernel
theorem dX12_types_3 : decode cX12_types 3 = .ok (.iload_n 2, 1) := by decide +kernel
theorem dX12_types_4 : decode cX12_types 4 = .ok (.ifCond .lt 35, 3) := by decide +kernel
theorem dX12_types_7 : decode cX12_types 7 = .ok (.aload_n 0, 1) := by decide +kernel
theorem dX12_types_8 : decode cX12_types 8 = .ok (.getfield 49, 3) := by decide +kernel
theorem dX12_types_11 : decode cX12_types 11 = .ok (.aload_n 0, 1) := by decide +kernel
theorem dX12_types_12 : decode cX12_types 12 = .ok (.getfield 147, 3) := by decide +kernel
theorem dX12_types_15 : decode cX12_types 15 = .ok (.iload_n 1, 1) := by decide +kernel
theorem dX12_types_16 : decode cX12_types 16 = .ok (.iload_n 2, 1) := by decide +kernel
theorem dX12_types_17 : decode cX12_types 17 = .ok (.ishr, 1) := by decide +kernel
theorem dX12_types_18 : decode cX12_types 18 = .ok (.sipush 255, 3) := by decide +kernel
theorem dX12_types_21 : decode cX12_types 21 = .ok (.iand, 1) := by decide +kernel
theorem dX12_types_22 : decode cX12_types 22 = .ok (.iastore, 1) := by decide +kernel
theorem dX12_types_23 : decode cX12_types 23 = .ok (.aload_n 0, 1) := by decide +kernel
theorem dX12_types_24 : decode cX12_types 24 = .ok (.aload_n 0, 1) := by decide +kernel
theorem dX12_types_25 : decode cX12_types 25 = .ok (.getfield 147, 3) := by decide +kernel
theorem dX12_types_28 : decode cX12_types 28 = .ok (.iconst 1, 1) := by decide +kernel
theorem dX12_types_29 : decode cX12_types 29 = .ok (.iadd, 1) := by decide +kernel
theorem dX12_types_30 : decode cX12_types 30 = .ok (.putfield 147, 3) := by decide +kernel
theorem dX12_types_33 : decode cX12_types 33 = .ok (.iinc 2 (-8), 3) := by decide +kernel
theorem dX12_types_36 : decode cX12_types 36 = .ok (.goto (-33), 3) := by decide +kernel
theorem dX12_types_39 : decode cX12_types 39 = .ok (.return_, 1) := by decide +kernel
theorem dX12_feed_0 : decode cX12_feed 0 = .ok (.aload_n 0, 1) := by decide +kernel
theorem dX12_feed_1 : decode cX12_feed 1 = .ok (.iconst 0, 1) := by decide +kernel
theorem dX12_feed_2 : decode cX12_feed 2 = .ok (.putfield 104, 3) := by decide +kernel
theorem dX12_feed_5 : decode cX12_feed 5 = .ok (.aload_n 0, 1) := by decide +kernel
theorem dX12_feed_6 : decode cX12_feed 6 = .ok (.getfield 147, 3) := by decide +kernel
theorem dX12_feed_9 : decode cX12_feed 9 = .ok (.sipush 380, 3) := by decide +kernel
theorem dX12_feed_12 : decode cX12_feed 12 = .ok (.if_icmp .le 5, 3) := by decide +kernel
theorem dX12_feed_15 : decode cX12_feed 15 = .ok (.iconst (-1), 1) := by decide +kernel
theorem dX12_feed_16 : decode cX12_feed 16 = .ok (.ireturn, 1) := by decide +kernel
theorem dX12_feed_17 : decode cX12_feed 17 = .ok (.aload_n 0, 1) := by decide +kernel
theorem dX12_feed_18 : decode cX12_feed 18 = .ok (.iload_n 1, 1) := by decide +kernel
theorem dX12_feed_19 : decode cX12_feed 19 = .ok (.invokevirtual 150, 3) := by decide +kernel
theorem dX12_feed_22 : decode cX12_feed 22 = .ok (.aload_n 0, 1) := by decide +kernel
theorem dX12_feed_23 : decode cX12_feed 23 = .ok (.iload_n 2, 1) := by decide +kernel
theorem dX12_feed_24 : decode cX12_feed 24 = .ok (.invokevirtual 150, 3) := by decide +kernel
theorem dX12_feed_27 : decode cX12_feed 27 = .ok (.aload_n 0, 1) := by decide +kernel
theorem dX12_feed_28 : decode cX12_feed 28 = .ok (.iload_n 3, 1) := by decide +kernel
theorem dX12_feed_29 : decode cX12_feed 29 = .ok (.invokevirtual 150, 3) := by decide +kernel
theorem dX12_feed_32 : decode cX12_feed 32 = .ok (.aload_n 0, 1) := by decide +kernel
theorem dX12_feed_33 : decode cX12_feed 33 = .ok (.iload 4, 2) := by decide +kernel
theorem dX12_feed_35 : decode cX12_feed 35 = .ok (.invokevirtual 150, 3) := by decide +kernel
theorem dX12_feed_38 : decode cX12_feed 38 = .ok (.aload_n 0, 1) := by decide +kernel
theorem dX12_feed_39 : decode cX12_feed 39 = .ok (.iload 5, 2) := by decide +kernel
theorem dX12_feed_41 : decode cX12_feed 41 = .ok (.invokevirtual 150, 3) := by decide +kernel
theorem dX12_feed_44 : decode cX12_feed 44 = .ok (.aload_n 0, 1) := by decide +kernel
theorem dX12_feed_45 : decode cX12_feed 45 = .ok (.getfield 147, 3) := by decide +kernel
theorem dX12_feed_48 : decode cX12_feed 48 = .ok (.ireturn, 1) := by decide +kernel
theorem dX12_end_0 : decode cX12_end 0 = .ok (.aload_n 0, 1) := by decide +kernel
theorem dX12_end_1 : decode cX12_end 1 = .ok (.iconst 0, 1) := by decide +kernel
theorem dX12_end_2 : decode cX12_end 2 = .ok (.putfield 104, 3) := by decide +kernel
theorem dX12_end_5 : decode cX12_end 5 = .ok (.aload_n 0, 1) := by decide +kernel
theorem dX12_end_6 : decode cX12_end 6 = .ok (.iload_n 1, 1) := by decide +kernel
theorem dX12_end_7 : decode cX12_end 7 = .ok (.iconst 0, 1) := by decide +kernel
theorem dX12_end_8 : decode cX12_end 8 = .ok (.aload_n 0, 1) := by decide +kernel
theorem dX12_end_9 : decode cX12_end 9 = .ok (.getfield 147, 3) := by decide +kernel
theorem dX12_end_12 : decode cX12_end 12 = .ok (.invokevirtual 116, 3) := by decide +kernel
theorem dX12_end_15 : decode cX12_end 15 = .ok (.ifCond .ne 5, 3) := by decide +kernel
theorem dX12_end_18 : decode cX12_end 18 = .ok (.iconst 0, 1) := by decide +kernel
theorem dX12_end_19 : decode cX12_end 19 = .ok (.ireturn, 1) := by decide +kernel
theorem dX12_end_20 : decode cX12_end 20 = .ok (.aload_n 0, 1) := by decide +kernel
theorem dX12_end_21 : decode cX12_end 21 = .ok (.iload_n 1, 1) := by decide +kernel
theorem dX12_end_22 : decode cX12_end 22 = .ok (.putfield 147, 3) := by decide +kernel
theorem dX12_end_25 : decode cX12_end 25 = .ok (.iconst 1, 1) := by decide +kernel
theorem dX12_end_26 : decode cX12_end 26 = .ok (.ireturn, 1) := by decide +kernel
theorem dX12_raw_0 : decode cX12_raw 0 = .ok (.iload_n 1, 1) := by decide +kernel
theorem dX12_raw_1 : decode cX12_raw 1 = .ok (.aload_n 0, 1) := by decide +kernel
theorem dX12_raw_2 : decode cX12_raw 2 = .ok (.getfield 147, 3) := by decide +kernel
theorem dX12_raw_5 : decode cX12_raw 5 = .ok (.if_icmp .ge 12, 3) := by decide +kernel
theorem dX12_raw_8 : decode cX12_raw 8 = .ok (.aload_n 0, 1) := by decide +kernel
theorem dX12_raw_9 : decode cX12_raw 9 = .ok (.getfield 49, 3) := by decide +kernel
theorem dX12_raw_12 : decode cX12_raw 12 = .ok (.iload_n 1, 1) := by decide +kernel
theorem dX12_raw_13 : decode cX12_raw 13 = .ok (.iaload, 1) := by decide +kernel
theorem dX12_raw_14 : decode cX12_raw 14 = .ok (.goto 4, 3) := by decide +kernel
theorem dX12_raw_17 : decode cX12_raw 17 = .ok (.iconst (-1), 1) := by decide +kernel
theorem dX12_raw_18 : decode cX12_raw 18 = .ok (.ireturn, 1) := by decide +kernel
theorem dX12_isLetter_0 : decode cX12_isLetter 0 = .ok (.aload_n 0, 1) := by decide +kernel
theorem dX12_isLetter_1 : decode cX12_isLetter 1 = .ok (.iload_n 1, 1) := by decide +kernel
theorem dX12_isLetter_2 : decode cX12_isLetter 2 = .ok (.bipush 97, 2) := by decide +kernel
theorem dX12_isLetter_4 : decode cX12_isLetter 4 = .ok (.bipush 122, 2) := by decide +kernel
theorem dX12_isLetter_6 : decode cX12_isLetter 6 = .ok (.invokevirtual 116, 3) := by decide +kernel
theorem dX12_isLetter_9 : decode cX12_isLetter 9 = .ok (.ifCond .ne 15, 3) := by decide +kernel
theorem dX12_isLetter_12 : decode cX12_isLetter 12 = .ok (.aload_n 0, 1) := by decide +kernel
theorem dX12_isLetter_13 : decode cX12_isLetter 13 = .ok (.iload_n 1, 1) := by decide +kernel
theorem dX12_isLetter_14 : decode cX12_isLetter 14 = .ok (.bipush 65, 2) := by decide +kernel
theorem dX12_isLetter_16 : decode cX12_isLetter 16 = .ok (.bipush 90, 2) := by decide +kernel
theorem dX12_isLetter_18 : decode cX12_isLetter 18 = .ok (.invokevirtual 116, 3) := by decide +kernel
theorem dX12_isLetter_21 : decode cX12_isLetter 21 = .ok (.ifCond .eq 7, 3) := by decide +kernel
theorem dX12_isLetter_24 : decode cX12_isLetter 24 = .ok (.iconst 1, 1) := by decide +kernel
theorem dX12_isLetter_25 : decode cX12_isLetter 25 = .ok (.goto 4, 3) := by decide +kernel
theorem dX12_isLetter_28 : decode cX12_isLetter 28 = .ok (.iconst 0, 1) := by decide +kernel
theorem dX12_isLetter_29 : decode cX12_isLetter 29 = .ok (.ireturn, 1) := by decide +kernel
theorem dX12_isDigit_0 : decode cX12_isDigit 0 = .ok (.aload_n 0, 1) := by decide +kernel
theorem dX12_isDigit_1 : decode cX12_isDigit 1 = .ok (.iload_n 1, 1) := by decide +kernel
theorem dX12_isDigit_2 : decode cX12_isDigit 2 = .ok (.bipush 48, 2) := by decide +kernel
theorem dX12_isDigit_4 : decode cX12_isDigit 4 = .ok (.bipush 57, 2) := by decide +kernel
theorem dX12_isDigit_6 : decode cX12_isDigit 6 = .ok (.invokevirtual 116, 3) := by decide +kernel
theorem dX12_isDigit_9 : decode cX12_isDigit 9 = .ok (.ireturn, 1) := by decide +kernel
theorem dX12_isMarkSign_0 : decode cX12_isMarkSign 0 = .ok (.iload_n 1, 1) := by decide +kernel
theorem dX12_isMarkSign_1 : decode cX12_isMarkSign 1 = .ok (.bipush 59, 2) := by decide +kernel
theorem dX12_isMarkSign_3 : decode cX12_isMarkSign 3 = .ok (.if_icmp .eq 57, 3) := by decide +kernel
theorem dX12_isMarkSign_6 : decode cX12_isMarkSign 6 = .ok (.iload_n 1, 1) := by decide +kernel
