theorem dX9_walksNow_1 : decode cX9_walksNow 1 = .ok (.getfield 13, 3) := by decide +kernel
theorem dX9_walksNow_4 : decode cX9_walksNow 4 = .ok (.sipush 326, 3) := by decide +kernel
theorem dX9_walksNow_7 : decode cX9_walksNow 7 = .ok (.iload_n 1, 1) := by decide +kernel
theorem dX9_walksNow_8 : decode cX9_walksNow 8 = .ok (.iadd, 1) := by decide +kernel
theorem dX9_walksNow_9 : decode cX9_walksNow 9 = .ok (.iaload, 1) := by decide +kernel
theorem dX9_walksNow_10 : decode cX9_walksNow 10 = .ok (.istore 4, 2) := by decide +kernel
theorem dX9_walksNow_12 : decode cX9_walksNow 12 = .ok (.aload_n 0, 1) := by decide +kernel
theorem dX9_walksNow_13 : decode cX9_walksNow 13 = .ok (.bipush 7, 2) := by decide +kernel
theorem dX9_walksNow_15 : decode cX9_walksNow 15 = .ok (.putfield 184, 3) := by decide +kernel
theorem dX9_walksNow_18 : decode cX9_walksNow 18 = .ok (.aload_n 0, 1) := by decide +kernel
theorem dX9_walksNow_19 : decode cX9_walksNow 19 = .ok (.iconst 2, 1) := by decide +kernel
theorem dX9_walksNow_20 : decode cX9_walksNow 20 = .ok (.putfield 187, 3) := by decide +kernel
theorem dX9_walksNow_23 : decode cX9_walksNow 23 = .ok (.iload 4, 2) := by decide +kernel
theorem dX9_walksNow_25 : decode cX9_walksNow 25 = .ok (.ifCond .ge 5, 3) := by decide +kernel
theorem dX9_walksNow_28 : decode cX9_walksNow 28 = .ok (.iconst 1, 1) := by decide +kernel
theorem dX9_walksNow_29 : decode cX9_walksNow 29 = .ok (.ireturn, 1) := by decide +kernel
theorem dX9_walksNow_30 : decode cX9_walksNow 30 = .ok (.iconst 2, 1) := by decide +kernel
theorem dX9_walksNow_31 : decode cX9_walksNow 31 = .ok (.istore 5, 2) := by decide +kernel
theorem dX9_walksNow_33 : decode cX9_walksNow 33 = .ok (.iload 5, 2) := by decide +kernel
theorem dX9_walksNow_35 : decode cX9_walksNow 35 = .ok (.iload_n 3, 1) := by decide +kernel
theorem dX9_walksNow_36 : decode cX9_walksNow 36 = .ok (.if_icmp .lt 84, 3) := by decide +kernel
theorem dX9_walksNow_39 : decode cX9_walksNow 39 = .ok (.aload_n 0, 1) := by decide +kernel
theorem dX9_walksNow_40 : decode cX9_walksNow 40 = .ok (.iload 5, 2) := by decide +kernel
theorem dX9_walksNow_42 : decode cX9_walksNow 42 = .ok (.putfield 187, 3) := by decide +kernel
theorem dX9_walksNow_45 : decode cX9_walksNow 45 = .ok (.aload_n 0, 1) := by decide +kernel
theorem dX9_walksNow_46 : decode cX9_walksNow 46 = .ok (.iload 4, 2) := by decide +kernel
theorem dX9_walksNow_48 : decode cX9_walksNow 48 = .ok (.iload_n 2, 1) := by decide +kernel
theorem dX9_walksNow_49 : decode cX9_walksNow 49 = .ok (.iload 5, 2) := by decide +kernel
theorem dX9_walksNow_51 : decode cX9_walksNow 51 = .ok (.invokestatic 126, 3) := by decide +kernel
theorem dX9_walksNow_54 : decode cX9_walksNow 54 = .ok (.putfield 190, 3) := by decide +kernel
theorem dX9_walksNow_57 : decode cX9_walksNow 57 = .ok (.aload_n 0, 1) := by decide +kernel
theorem dX9_walksNow_58 : decode cX9_walksNow 58 = .ok (.getfield 13, 3) := by decide +kernel
theorem dX9_walksNow_61 : decode cX9_walksNow 61 = .ok (.iconst 0, 1) := by decide +kernel
theorem dX9_walksNow_62 : decode cX9_walksNow 62 = .ok (.aload_n 0, 1) := by decide +kernel
theorem dX9_walksNow_63 : decode cX9_walksNow 63 = .ok (.getfield 190, 3) := by decide +kernel
theorem dX9_walksNow_66 : decode cX9_walksNow 66 = .ok (.iadd, 1) := by decide +kernel
theorem dX9_walksNow_67 : decode cX9_walksNow 67 = .ok (.iaload, 1) := by decide +kernel
theorem dX9_walksNow_68 : decode cX9_walksNow 68 = .ok (.istore 6, 2) := by decide +kernel
theorem dX9_walksNow_70 : decode cX9_walksNow 70 = .ok (.aload_n 0, 1) := by decide +kernel
theorem dX9_walksNow_71 : decode cX9_walksNow 71 = .ok (.dup, 1) := by decide +kernel
theorem dX9_walksNow_72 : decode cX9_walksNow 72 = .ok (.getfield 184, 3) := by decide +kernel
theorem dX9_walksNow_75 : decode cX9_walksNow 75 = .ok (.iload 6, 2) := by decide +kernel
theorem dX9_walksNow_77 : decode cX9_walksNow 77 = .ok (.invokestatic 133, 3) := by decide +kernel
theorem dX9_walksNow_80 : decode cX9_walksNow 80 = .ok (.iand, 1) := by decide +kernel
theorem dX9_walksNow_81 : decode cX9_walksNow 81 = .ok (.putfield 184, 3) := by decide +kernel
theorem dX9_walksNow_84 : decode cX9_walksNow 84 = .ok (.iload 6, 2) := by decide +kernel
theorem dX9_walksNow_86 : decode cX9_walksNow 86 = .ok (.invokestatic 73, 3) := by decide +kernel
theorem dX9_walksNow_89 : decode cX9_walksNow 89 = .ok (.iconst 1, 1) := by decide +kernel
theorem dX9_walksNow_90 : decode cX9_walksNow 90 = .ok (.if_icmp .eq 17, 3) := by decide +kernel
theorem dX9_walksNow_93 : decode cX9_walksNow 93 = .ok (.iload 6, 2) := by decide +kernel
theorem dX9_walksNow_95 : decode cX9_walksNow 95 = .ok (.invokestatic 73, 3) := by decide +kernel
theorem dX9_walksNow_98 : decode cX9_walksNow 98 = .ok (.ifCond .ne 7, 3) := by decide +kernel
theorem dX9_walksNow_101 : decode cX9_walksNow 101 = .ok (.iconst 2, 1) := by decide +kernel
theorem dX9_walksNow_102 : decode cX9_walksNow 102 = .ok (.goto 4, 3) := by decide +kernel
theorem dX9_walksNow_105 : decode cX9_walksNow 105 = .ok (.iconst 0, 1) := by decide +kernel
theorem dX9_walksNow_106 : decode cX9_walksNow 106 = .ok (.ireturn, 1) := by decide +kernel
theorem dX9_walksNow_107 : decode cX9_walksNow 107 = .ok (.iload 6, 2) := by decide +kernel
theorem dX9_walksNow_109 : decode cX9_walksNow 109 = .ok (.invokestatic 136, 3) := by decide +kernel
theorem dX9_walksNow_112 : decode cX9_walksNow 112 = .ok (.istore 4, 2) := by decide +kernel
theorem dX9_walksNow_114 : decode cX9_walksNow 114 = .ok (.iinc 5 (-1), 3) := by decide +kernel
theorem dX9_walksNow_117 : decode cX9_walksNow 117 = .ok (.goto (-84), 3) := by decide +kernel
theorem dX9_walksNow_120 : decode cX9_walksNow 120 = .ok (.iconst 3, 1) := by decide +kernel
theorem dX9_walksNow_121 : decode cX9_walksNow 121 = .ok (.ireturn, 1) := by decide +kernel
theorem dX9_frameNow_0 : decode cX9_frameNow 0 = .ok (.aload_n 0, 1) := by decide +kernel
theorem dX9_frameNow_1 : decode cX9_frameNow 1 = .ok (.iload_n 1, 1) := by decide +kernel
theorem dX9_frameNow_2 : decode cX9_frameNow 2 = .ok (.iload_n 2, 1) := by decide +kernel
theorem dX9_frameNow_3 : decode cX9_frameNow 3 = .ok (.iconst 0, 1) := by decide +kernel
theorem dX9_frameNow_4 : decode cX9_frameNow 4 = .ok (.invokevirtual 193, 3) := by decide +kernel
theorem dX9_frameNow_7 : decode cX9_frameNow 7 = .ok (.istore_n 3, 1) := by decide +kernel
theorem dX9_frameNow_8 : decode cX9_frameNow 8 = .ok (.iload_n 3, 1) := by decide +kernel
theorem dX9_frameNow_9 : decode cX9_frameNow 9 = .ok (.ifCond .le 10, 3) := by decide +kernel
theorem dX9_frameNow_12 : decode cX9_frameNow 12 = .ok (.bipush (-2), 2) := by decide +kernel
theorem dX9_frameNow_14 : decode cX9_frameNow 14 = .ok (.iload_n 3, 1) := by decide +kernel
theorem dX9_frameNow_15 : decode cX9_frameNow 15 = .ok (.isub, 1) := by decide +kernel
theorem dX9_frameNow_16 : decode cX9_frameNow 16 = .ok (.goto 27, 3) := by decide +kernel
theorem dX9_frameNow_19 : decode cX9_frameNow 19 = .ok (.aload_n 0, 1) := by decide +kernel
theorem dX9_frameNow_20 : decode cX9_frameNow 20 = .ok (.getfield 13, 3) := by decide +kernel
theorem dX9_frameNow_23 : decode cX9_frameNow 23 = .ok (.iconst 0, 1) := by decide +kernel
theorem dX9_frameNow_24 : decode cX9_frameNow 24 = .ok (.aload_n 0, 1) := by decide +kernel
theorem dX9_frameNow_25 : decode cX9_frameNow 25 = .ok (.getfield 190, 3) := by decide +kernel
theorem dX9_frameNow_28 : decode cX9_frameNow 28 = .ok (.iadd, 1) := by decide +kernel
theorem dX9_frameNow_29 : decode cX9_frameNow 29 = .ok (.iaload, 1) := by decide +kernel
theorem dX9_frameNow_30 : decode cX9_frameNow 30 = .ok (.invokestatic 136, 3) := by decide +kernel
theorem dX9_frameNow_33 : decode cX9_frameNow 33 = .ok (.iload_n 2, 1) := by decide +kernel
theorem dX9_frameNow_34 : decode cX9_frameNow 34 = .ok (.aload_n 0, 1) := by decide +kernel
theorem dX9_frameNow_35 : decode cX9_frameNow 35 = .ok (.getfield 187, 3) := by decide +kernel
theorem dX9_frameNow_38 : decode cX9_frameNow 38 = .ok (.invokestatic 55, 3) := by decide +kernel
theorem dX9_frameNow_41 : decode cX9_frameNow 41 = .ok (.irem, 1) := by decide +kernel
theorem dX9_frameNow_42 : decode cX9_frameNow 42 = .ok (.iadd, 1) := by decide +kernel
theorem dX9_frameNow_43 : decode cX9_frameNow 43 = .ok (.ireturn, 1) := by decide +kernel
theorem dX9_rightsNow_0 : decode cX9_rightsNow 0 = .ok (.aload_n 0, 1) := by decide +kernel
theorem dX9_rightsNow_1 : decode cX9_rightsNow 1 = .ok (.getfield 184, 3) := by decide +kernel
theorem dX9_rightsNow_4 : decode cX9_rightsNow 4 = .ok (.aload_n 0, 1) := by decide +kernel
theorem dX9_rightsNow_5 : decode cX9_rightsNow 5 = .ok (.getfield 13, 3) := by decide +kernel
theorem dX9_rightsNow_8 : decode cX9_rightsNow 8 = .ok (.iconst 0, 1) := by decide +kernel
theorem dX9_rightsNow_9 : decode cX9_rightsNow 9 = .ok (.aload_n 0, 1) := by decide +kernel
theorem dX9_rightsNow_10 : decode cX9_rightsNow 10 = .ok (.getfield 190, 3) := by decide +kernel
theorem dX9_rightsNow_13 : decode cX9_rightsNow 13 = .ok (.iadd, 1) := by decide +kernel
theorem dX9_rightsNow_14 : decode cX9_rightsNow 14 = .ok (.iaload, 1) := by decide +kernel
theorem dX9_rightsNow_15 : decode cX9_rightsNow 15 = .ok (.invokestatic 133, 3) := by decide +kernel
theorem dX9_rightsNow_18 : decode cX9_rightsNow 18 = .ok (.bipush 8, 2) := by decide +kernel
theorem dX9_rightsNow_20 : decode cX9_rightsNow 20 = .ok (.iand, 1) := by decide +kernel
theorem dX9_rightsNow_21 : decode cX9_rightsNow 21 = .ok (.ior, 1) := by decide +kernel
theorem dX9_rightsNow_22 : decode cX9_rightsNow 22 = .ok (.ireturn, 1) := by decide +kernel
theorem dX9_way_0 : decode cX9_way 0 = .ok (.aload_n 0, 1) := by decide +kernel
theorem dX9_way_1 : decode cX9_way 1 = .ok (.iconst 0, 1) := by decide +kernel
theorem dX9_way_2 : decode cX9_way 2 = .ok (.putfield 1, 3) := by decide +kernel
theorem dX9_way_5 : decode cX9_way 5 = .ok (.iload_n 1, 1) := by decide +kernel
theorem dX9_way_6 : decode cX9_way 6 = .ok (.invokestatic 76, 3) := by decide +kernel
theorem dX9_way_9 : decode cX9_way 9 = .ok (.ifCond .eq 19, 3) := by decide +kernel
theorem dX9_way_12 : decode cX9_way 12 = .ok (.iload_n 2, 1) := by decide +kernel
theorem dX9_way_13 : decode cX9_way 13 = .ok (.invokestatic 159, 3) := by decide +kernel
theorem dX9_way_16 : decode cX9_way 16 = .ok (.ifCond .eq 12, 3) := by decide +kernel
theorem dX9_way_19 : decode cX9_way 19 = .ok (.iload_n 3, 1) := by decide +kernel
theorem dX9_way_20 : decode cX9_way 20 = .ok (.iconst 0, 1) := by decide +kernel
theorem dX9_way_21 : decode cX9_way 21 = .ok (.iconst 3, 1) := by decide +kernel
theorem dX9_way_22 : decode cX9_way 22 = .ok (.invokestatic 51, 3) := by decide +kernel
theorem dX9_way_25 : decode cX9_way 25 = .ok (.ifCond .ne 5, 3) := by decide +kernel
theorem dX9_way_28 : decode cX9_way 28 = .ok (.iconst (-1), 1) := by decide +kernel
theorem dX9_way_29 : decode cX9_way 29 = .ok (.ireturn, 1) := by decide +kernel
theorem dX9_way_30 : decode cX9_way 30 = .ok (.aload_n 0, 1) := by decide +kernel
theorem dX9_way_31 : decode cX9_way 31 = .ok (.iload_n 1, 1) := by decide +kernel
theorem dX9_way_32 : decode cX9_way 32 = .ok (.iload_n 2, 1) := by decide +kernel
theorem dX9_way_33 : decode cX9_way 33 = .ok (.invokevirtual 196, 3) := by decide +kernel
theorem dX9_way_36 : decode cX9_way 36 = .ok (.istore 4, 2) := by decide +kernel
theorem dX9_way_38 : decode cX9_way 38 = .ok (.iload_n 3, 1) := by decide +kernel
theorem dX9_way_39 : decode cX9_way 39 = .ok (.ifCond .ne 6, 3) := by decide +kernel
theorem dX9_way_42 : decode cX9_way 42 = .ok (.iload 4, 2) := by decide +kernel
theorem dX9_way_44 : decode cX9_way 44 = .ok (.ireturn, 1) := by decide +kernel
theorem dX9_way_45 : decode cX9_way 45 = .ok (.iload 4, 2) := by decide +kernel
theorem dX9_way_47 : decode cX9_way 47 = .ok (.ifCond .ge 7, 3) := by decide +kernel
theorem dX9_way_50 : decode cX9_way 50 = .ok (.iconst (-1), 1) := by decide +kernel
theorem dX9_way_51 : decode cX9_way 51 = .ok (.goto 39, 3) := by decide +kernel
theorem dX9_way_54 : decode cX9_way 54 = .ok (.iload_n 3, 1) := by decide +kernel
theorem dX9_way_55 : decode cX9_way 55 = .ok (.iconst 1, 1) := by decide +kernel
theorem dX9_way_56 : decode cX9_way 56 = .ok (.if_icmp .ne 10, 3) := by decide +kernel
theorem dX9_way_59 : decode cX9_way 59 = .ok (.aload_n 0, 1) := by decide +kernel
theorem dX9_way_60 : decode cX9_way 60 = .ok (.getfield 187, 3) := by decide +kernel
theorem dX9_way_63 : decode cX9_way 63 = .ok (.goto 27, 3) := by decide +kernel
theorem dX9_way_66 : decode cX9_way 66 = .ok (.iload_n 3, 1) := by decide +kernel
theorem dX9_way_67 : decode cX9_way 67 = .ok (.iconst 2, 1) := by decide +kernel
theorem dX9_way_68 : decode cX9_way 68 = .ok (.if_icmp .ne 10, 3) := by decide +kernel
theorem dX9_way_71 : decode cX9_way 71 = .ok (.aload_n 0, 1) := by decide +kernel
theorem dX9_way_72 : decode cX9_way 72 = .ok (.invokevirtual 199, 3) := by decide +kernel
theorem dX9_way_75 : decode cX9_way 75 = .ok (.goto 15, 3) := by decide +kernel
theorem dX9_way_78 : decode cX9_way 78 = .ok (.aload_n 0, 1) := by decide +kernel
theorem dX9_way_79 : decode cX9_way 79 = .ok (.getfield 13, 3) := by decide +kernel
theorem dX9_way_82 : decode cX9_way 82 = .ok (.bipush 96, 2) := by decide +kernel
theorem dX9_way_84 : decode cX9_way 84 = .ok (.aload_n 0, 1) := by decide +kernel
theorem dX9_way_85 : decode cX9_way 85 = .ok (.getfield 190, 3) := by decide +kernel
theorem dX9_way_88 : decode cX9_way 88 = .ok (.iadd, 1) := by decide +kernel
theorem dX9_way_89 : decode cX9_way 89 = .ok (.iaload, 1) := by decide +kernel
theorem dX9_way_90 : decode cX9_way 90 = .ok (.ireturn, 1) := by decide +kernel
theorem dX9_of_0 : decode cX9_of 0 = .ok (.aload_n 0, 1) := by decide +kernel
theorem dX9_of_1 : decode cX9_of 1 = .ok (.iconst 0, 1) := by decide +kernel
theorem dX9_of_2 : decode cX9_of 2 = .ok (.putfield 1, 3) := by decide +kernel
theorem dX9_of_5 : decode cX9_of 5 = .ok (.iload_n 1, 1) := by decide +kernel
theorem dX9_of_6 : decode cX9_of 6 = .ok (.iload_n 2, 1) := by decide +kernel
theorem dX9_of_7 : decode cX9_of 7 = .ok (.invokestatic 65, 3) := by decide +kernel
theorem dX9_of_10 : decode cX9_of 10 = .ok (.ifCond .eq 12, 3) := by decide +kernel
theorem dX9_of_13 : decode cX9_of 13 = .ok (.iload_n 3, 1) := by decide +kernel
theorem dX9_of_14 : decode cX9_of 14 = .ok (.iconst 0, 1) := by decide +kernel
theorem dX9_of_15 : decode cX9_of 15 = .ok (.iconst 3, 1) := by decide +kernel
theorem dX9_of_16 : decode cX9_of 16 = .ok (.invokestatic 51, 3) := by decide +kernel
theorem dX9_of_19 : decode cX9_of 19 = .ok (.ifCond .ne 5, 3) := by decide +kernel
theorem dX9_of_22 : decode cX9_of 22 = .ok (.iconst (-1), 1) := by decide +kernel
theorem dX9_of_23 : decode cX9_of 23 = .ok (.ireturn, 1) := by decide +kernel
theorem dX9_of_24 : decode cX9_of 24 = .ok (.aload_n 0, 1) := by decide +kernel
theorem dX9_of_25 : decode cX9_of 25 = .ok (.getfield 13, 3) := by decide +kernel
theorem dX9_of_28 : decode cX9_of 28 = .ok (.iconst 0, 1) := by decide +kernel
theorem dX9_of_29 : decode cX9_of 29 = .ok (.bipush 8, 2) := by decide +kernel
theorem dX9_of_31 : decode cX9_of 31 = .ok (.iload_n 1, 1) := by decide +kernel
theorem dX9_of_32 : decode cX9_of 32 = .ok (.imul, 1) := by decide +kernel
theorem dX9_of_33 : decode cX9_of 33 = .ok (.iadd, 1) := by decide +kernel
theorem dX9_of_34 : decode cX9_of 34 = .ok (.iload_n 2, 1) := by decide +kernel
theorem dX9_of_35 : decode cX9_of 35 = .ok (.iadd, 1) := by decide +kernel
theorem dX9_of_36 : decode cX9_of 36 = .ok (.iaload, 1) := by decide +kernel
theorem dX9_of_37 : decode cX9_of 37 = .ok (.istore 4, 2) := by decide +kernel
theorem dX9_of_39 : decode cX9_of 39 = .ok (.iload_n 3, 1) := by decide +kernel
theorem dX9_of_40 : decode cX9_of 40 = .ok (.ifCond .ne 9, 3) := by decide +kernel
theorem dX9_of_43 : decode cX9_of 43 = .ok (.iload 4, 2) := by decide +kernel
theorem dX9_of_45 : decode cX9_of 45 = .ok (.invokestatic 73, 3) := by decide +kernel
theorem dX9_of_48 : decode cX9_of 48 = .ok (.ireturn, 1) := by decide +kernel
theorem dX9_of_49 : decode cX9_of 49 = .ok (.iload 4, 2) := by decide +kernel
theorem dX9_of_51 : decode cX9_of 51 = .ok (.invokestatic 73, 3) := by decide +kernel
theorem dX9_of_54 : decode cX9_of 54 = .ok (.ifCond .ne 5, 3) := by decide +kernel
theorem dX9_of_57 : decode cX9_of 57 = .ok (.iconst (-1), 1) := by decide +kernel
theorem dX9_of_58 : decode cX9_of 58 = .ok (.ireturn, 1) := by decide +kernel
theorem dX9_of_59 : decode cX9_of 59 = .ok (.iload_n 3, 1) := by decide +kernel
theorem dX9_of_60 : decode cX9_of 60 = .ok (.iconst 1, 1) := by decide +kernel
theorem dX9_of_61 : decode cX9_of 61 = .ok (.if_icmp .ne 11, 3) := by decide +kernel
theorem dX9_of_64 : decode cX9_of 64 = .ok (.iload 4, 2) := by decide +kernel
theorem dX9_of_66 : decode cX9_of 66 = .ok (.invokestatic 136, 3) := by decide +kernel
theorem dX9_of_69 : decode cX9_of 69 = .ok (.goto 30, 3) := by decide +kernel
theorem dX9_of_72 : decode cX9_of 72 = .ok (.iload_n 3, 1) := by decide +kernel
theorem dX9_of_73 : decode cX9_of 73 = .ok (.iconst 2, 1) := by decide +kernel
theorem dX9_of_74 : decode cX9_of 74 = .ok (.if_icmp .ne 11, 3) := by decide +kernel
theorem dX9_of_77 : decode cX9_of 77 = .ok (.iload 4, 2) := by decide +kernel
theorem dX9_of_79 : decode cX9_of 79 = .ok (.invokestatic 133, 3) := by decide +kernel
theorem dX9_of_82 : decode cX9_of 82 = .ok (.goto 17, 3) := by decide +kernel
theorem dX9_of_85 : decode cX9_of 85 = .ok (.aload_n 0, 1) := by decide +kernel
theorem dX9_of_86 : decode cX9_of 86 = .ok (.getfield 13, 3) := by decide +kernel
theorem dX9_of_89 : decode cX9_of 89 = .ok (.bipush 96, 2) := by decide +kernel
theorem dX9_of_91 : decode cX9_of 91 = .ok (.bipush 8, 2) := by decide +kernel
theorem dX9_of_93 : decode cX9_of 93 = .ok (.iload_n 1, 1) := by decide +kernel
theorem dX9_of_94 : decode cX9_of 94 = .ok (.imul, 1) := by decide +kernel
theorem dX9_of_95 : decode cX9_of 95 = .ok (.iadd, 1) := by decide +kernel
theorem dX9_of_96 : decode cX9_of 96 = .ok (.iload_n 2, 1) := by decide +kernel
theorem dX9_of_97 : decode cX9_of 97 = .ok (.iadd, 1) := by decide +kernel
theorem dX9_of_98 : decode cX9_of 98 = .ok (.iaload, 1) := by decide +kernel
theorem dX9_of_99 : decode cX9_of 99 = .ok (.ireturn, 1) := by decide +kernel
theorem dX9_isStale_0 : decode cX9_isStale 0 = .ok (.aload_n 0, 1) := by decide +kernel
theorem dX9_isStale_1 : decode cX9_isStale 1 = .ok (.aload_n 0, 1) := by decide +kernel
theorem dX9_isStale_2 : decode cX9_isStale 2 = .ok (.aload_n 0, 1) := by decide +kernel
theorem dX9_isStale_3 : decode cX9_isStale 3 = .ok (.getfield 13, 3) := by decide +kernel
theorem dX9_isStale_6 : decode cX9_isStale 6 = .ok (.iload_n 1, 1) := by decide +kernel
theorem dX9_isStale_7 : decode cX9_isStale 7 = .ok (.iaload, 1) := by decide +kernel
theorem dX9_isStale_8 : decode cX9_isStale 8 = .ok (.invokevirtual 91, 3) := by decide +kernel
theorem dX9_isStale_11 : decode cX9_isStale 11 = .ok (.aload_n 0, 1) := by decide +kernel
theorem dX9_isStale_12 : decode cX9_isStale 12 = .ok (.getfield 13, 3) := by decide +kernel
theorem dX9_isStale_15 : decode cX9_isStale 15 = .ok (.iload_n 1, 1) := by decide +kernel
theorem dX9_isStale_16 : decode cX9_isStale 16 = .ok (.iconst 2, 1) := by decide +kernel
theorem dX9_isStale_17 : decode cX9_isStale 17 = .ok (.iadd, 1) := by decide +kernel
theorem dX9_isStale_18 : decode cX9_isStale 18 = .ok (.iaload, 1) := by decide +kernel
theorem dX9_isStale_19 : decode cX9_isStale 19 = .ok (.iconst 0, 1) := by decide +kernel
theorem dX9_isStale_20 : decode cX9_isStale 20 = .ok (.invokevirtual 193, 3) := by decide +kernel
theorem dX9_isStale_23 : decode cX9_isStale 23 = .ok (.istore_n 2, 1) := by decide +kernel
theorem dX9_isStale_24 : decode cX9_isStale 24 = .ok (.iload_n 2, 1) := by decide +kernel
theorem dX9_isStale_25 : decode cX9_isStale 25 = .ok (.ifCond .gt 58, 3) := by decide +kernel
theorem dX9_isStale_28 : decode cX9_isStale 28 = .ok (.aload_n 0, 1) := by decide +kernel
theorem dX9_isStale_29 : decode cX9_isStale 29 = .ok (.getfield 187, 3) := by decide +kernel
theorem dX9_isStale_32 : decode cX9_isStale 32 = .ok (.aload_n 0, 1) := by decide +kernel
theorem dX9_isStale_33 : decode cX9_isStale 33 = .ok (.getfield 13, 3) := by decide +kernel
theorem dX9_isStale_36 : decode cX9_isStale 36 = .ok (.iload_n 1, 1) := by decide +kernel
theorem dX9_isStale_37 : decode cX9_isStale 37 = .ok (.iconst 1, 1) := by decide +kernel
theorem dX9_isStale_38 : decode cX9_isStale 38 = .ok (.iadd, 1) := by decide +kernel
theorem dX9_isStale_39 : decode cX9_isStale 39 = .ok (.iaload, 1) := by decide +kernel
theorem dX9_isStale_40 : decode cX9_isStale 40 = .ok (.if_icmp .ne 43, 3) := by decide +kernel
theorem dX9_isStale_43 : decode cX9_isStale 43 = .ok (.aload_n 0, 1) := by decide +kernel
theorem dX9_isStale_44 : decode cX9_isStale 44 = .ok (.getfield 13, 3) := by decide +kernel
theorem dX9_isStale_47 : decode cX9_isStale 47 = .ok (.iconst 0, 1) := by decide +kernel
theorem dX9_isStale_48 : decode cX9_isStale 48 = .ok (.aload_n 0, 1) := by decide +kernel
theorem dX9_isStale_49 : decode cX9_isStale 49 = .ok (.getfield 190, 3) := by decide +kernel
theorem dX9_isStale_52 : decode cX9_isStale 52 = .ok (.iadd, 1) := by decide +kernel
theorem dX9_isStale_53 : decode cX9_isStale 53 = .ok (.iaload, 1) := by decide +kernel
theorem dX9_isStale_54 : decode cX9_isStale 54 = .ok (.invokestatic 136, 3) := by decide +kernel
theorem dX9_isStale_57 : decode cX9_isStale 57 = .ok (.aload_n 0, 1) := by decide +kernel
theorem dX9_isStale_58 : decode cX9_isStale 58 = .ok (.getfield 13, 3) := by decide +kernel
theorem dX9_isStale_61 : decode cX9_isStale 61 = .ok (.iload_n 1, 1) := by decide +kernel
theorem dX9_isStale_62 : decode cX9_isStale 62 = .ok (.iconst 3, 1) := by decide +kernel
theorem dX9_isStale_63 : decode cX9_isStale 63 = .ok (.iadd, 1) := by decide +kernel
theorem dX9_isStale_64 : decode cX9_isStale 64 = .ok (.iaload, 1) := by decide +kernel
theorem dX9_isStale_65 : decode cX9_isStale 65 = .ok (.if_icmp .ne 18, 3) := by decide +kernel
theorem dX9_isStale_68 : decode cX9_isStale 68 = .ok (.aload_n 0, 1) := by decide +kernel
theorem dX9_isStale_69 : decode cX9_isStale 69 = .ok (.invokevirtual 199, 3) := by decide +kernel
theorem dX9_isStale_72 : decode cX9_isStale 72 = .ok (.aload_n 0, 1) := by decide +kernel
theorem dX9_isStale_73 : decode cX9_isStale 73 = .ok (.getfield 13, 3) := by decide +kernel
theorem dX9_isStale_76 : decode cX9_isStale 76 = .ok (.iload_n 1, 1) := by decide +kernel
theorem dX9_isStale_77 : decode cX9_isStale 77 = .ok (.iconst 4, 1) := by decide +kernel
theorem dX9_isStale_78 : decode cX9_isStale 78 = .ok (.iadd, 1) := by decide +kernel
theorem dX9_isStale_79 : decode cX9_isStale 79 = .ok (.iaload, 1) := by decide +kernel
theorem dX9_isStale_80 : decode cX9_isStale 80 = .ok (.if_icmp .eq 7, 3) := by decide +kernel
theorem dX9_isStale_83 : decode cX9_isStale 83 = .ok (.iconst 1, 1) := by decide +kernel
theorem dX9_isStale_84 : decode cX9_isStale 84 = .ok (.goto 4, 3) := by decide +kernel
theorem dX9_isStale_87 : decode cX9_isStale 87 = .ok (.iconst 0, 1) := by decide +kernel
theorem dX9_isStale_88 : decode cX9_isStale 88 = .ok (.ireturn, 1) := by decide +kernel
theorem dX9_isStaleAbove_0 : decode cX9_isStaleAbove 0 = .ok (.aload_n 0, 1) := by decide +kernel
theorem dX9_isStaleAbove_1 : decode cX9_isStaleAbove 1 = .ok (.aload_n 0, 1) := by decide +kernel
theorem dX9_isStaleAbove_2 : decode cX9_isStaleAbove 2 = .ok (.aload_n 0, 1) := by decide +kernel
theorem dX9_isStaleAbove_3 : decode cX9_isStaleAbove 3 = .ok (.getfield 13, 3) := by decide +kernel
theorem dX9_isStaleAbove_6 : decode cX9_isStaleAbove 6 = .ok (.iload_n 1, 1) := by decide +kernel
theorem dX9_isStaleAbove_7 : decode cX9_isStaleAbove 7 = .ok (.iaload, 1) := by decide +kernel
theorem dX9_isStaleAbove_8 : decode cX9_isStaleAbove 8 = .ok (.invokevirtual 91, 3) := by decide +kernel
theorem dX9_isStaleAbove_11 : decode cX9_isStaleAbove 11 = .ok (.aload_n 0, 1) := by decide +kernel
theorem dX9_isStaleAbove_12 : decode cX9_isStaleAbove 12 = .ok (.getfield 13, 3) := by decide +kernel
theorem dX9_isStaleAbove_15 : decode cX9_isStaleAbove 15 = .ok (.iload_n 1, 1) := by decide +kernel
theorem dX9_isStaleAbove_16 : decode cX9_isStaleAbove 16 = .ok (.iconst 2, 1) := by decide +kernel
theorem dX9_isStaleAbove_17 : decode cX9_isStaleAbove 17 = .ok (.iadd, 1) := by decide +kernel
theorem dX9_isStaleAbove_18 : decode cX9_isStaleAbove 18 = .ok (.iaload, 1) := by decide +kernel
theorem dX9_isStaleAbove_19 : decode cX9_isStaleAbove 19 = .ok (.aload_n 0, 1) := by decide +kernel
theorem dX9_isStaleAbove_20 : decode cX9_isStaleAbove 20 = .ok (.getfield 13, 3) := by decide +kernel
theorem dX9_isStaleAbove_23 : decode cX9_isStaleAbove 23 = .ok (.iload_n 1, 1) := by decide +kernel
theorem dX9_isStaleAbove_24 : decode cX9_isStaleAbove 24 = .ok (.iconst 1, 1) := by decide +kernel
theorem dX9_isStaleAbove_25 : decode cX9_isStaleAbove 25 = .ok (.iadd, 1) := by decide +kernel
theorem dX9_isStaleAbove_26 : decode cX9_isStaleAbove 26 = .ok (.iaload, 1) := by decide +kernel
theorem dX9_isStaleAbove_27 : decode cX9_isStaleAbove 27 = .ok (.invokevirtual 193, 3) := by decide +kernel
theorem dX9_isStaleAbove_30 : decode cX9_isStaleAbove 30 = .ok (.istore_n 2, 1) := by decide +kernel
theorem dX9_isStaleAbove_31 : decode cX9_isStaleAbove 31 = .ok (.iload_n 2, 1) := by decide +kernel
theorem dX9_isStaleAbove_32 : decode cX9_isStaleAbove 32 = .ok (.iconst 3, 1) := by decide +kernel
theorem dX9_isStaleAbove_33 : decode cX9_isStaleAbove 33 = .ok (.if_icmp .ne 43, 3) := by decide +kernel
theorem dX9_isStaleAbove_36 : decode cX9_isStaleAbove 36 = .ok (.aload_n 0, 1) := by decide +kernel
theorem dX9_isStaleAbove_37 : decode cX9_isStaleAbove 37 = .ok (.getfield 13, 3) := by decide +kernel
theorem dX9_isStaleAbove_40 : decode cX9_isStaleAbove 40 = .ok (.iconst 0, 1) := by decide +kernel
theorem dX9_isStaleAbove_41 : decode cX9_isStaleAbove 41 = .ok (.aload_n 0, 1) := by decide +kernel
theorem dX9_isStaleAbove_42 : decode cX9_isStaleAbove 42 = .ok (.getfield 190, 3) := by decide +kernel
theorem dX9_isStaleAbove_45 : decode cX9_isStaleAbove 45 = .ok (.iadd, 1) := by decide +kernel
theorem dX9_isStaleAbove_46 : decode cX9_isStaleAbove 46 = .ok (.iaload, 1) := by decide +kernel
theorem dX9_isStaleAbove_47 : decode cX9_isStaleAbove 47 = .ok (.invokestatic 136, 3) := by decide +kernel
theorem dX9_isStaleAbove_50 : decode cX9_isStaleAbove 50 = .ok (.aload_n 0, 1) := by decide +kernel
theorem dX9_isStaleAbove_51 : decode cX9_isStaleAbove 51 = .ok (.getfield 13, 3) := by decide +kernel
theorem dX9_isStaleAbove_54 : decode cX9_isStaleAbove 54 = .ok (.iload_n 1, 1) := by decide +kernel
theorem dX9_isStaleAbove_55 : decode cX9_isStaleAbove 55 = .ok (.iconst 3, 1) := by decide +kernel
theorem dX9_isStaleAbove_56 : decode cX9_isStaleAbove 56 = .ok (.iadd, 1) := by decide +kernel
theorem dX9_isStaleAbove_57 : decode cX9_isStaleAbove 57 = .ok (.iaload, 1) := by decide +kernel
theorem dX9_isStaleAbove_58 : decode cX9_isStaleAbove 58 = .ok (.if_icmp .ne 18, 3) := by decide +kernel
theorem dX9_isStaleAbove_61 : decode cX9_isStaleAbove 61 = .ok (.aload_n 0, 1) := by decide +kernel
theorem dX9_isStaleAbove_62 : decode cX9_isStaleAbove 62 = .ok (.getfield 184, 3) := by decide +kernel
theorem dX9_isStaleAbove_65 : decode cX9_isStaleAbove 65 = .ok (.aload_n 0, 1) := by decide +kernel
theorem dX9_isStaleAbove_66 : decode cX9_isStaleAbove 66 = .ok (.getfield 13, 3) := by decide +kernel
theorem dX9_isStaleAbove_69 : decode cX9_isStaleAbove 69 = .ok (.iload_n 1, 1) := by decide +kernel
theorem dX9_isStaleAbove_70 : decode cX9_isStaleAbove 70 = .ok (.iconst 4, 1) := by decide +kernel
theorem dX9_isStaleAbove_71 : decode cX9_isStaleAbove 71 = .ok (.iadd, 1) := by decide +kernel
theorem dX9_isStaleAbove_72 : decode cX9_isStaleAbove 72 = .ok (.iaload, 1) := by decide +kernel
theorem dX9_isStaleAbove_73 : decode cX9_isStaleAbove 73 = .ok (.if_icmp .eq 7, 3) := by decide +kernel
theorem dX9_isStaleAbove_76 : decode cX9_isStaleAbove 76 = .ok (.iconst 1, 1) := by decide +kernel
theorem dX9_isStaleAbove_77 : decode cX9_isStaleAbove 77 = .ok (.goto 4, 3) := by decide +kernel
theorem dX9_isStaleAbove_80 : decode cX9_isStaleAbove 80 = .ok (.iconst 0, 1) := by decide +kernel
theorem dX9_isStaleAbove_81 : decode cX9_isStaleAbove 81 = .ok (.ireturn, 1) := by decide +kernel
theorem dX9_usedLater_0 : decode cX9_usedLater 0 = .ok (.iconst 0, 1) := by decide +kernel
theorem dX9_usedLater_1 : decode cX9_usedLater 1 = .ok (.istore_n 3, 1) := by decide +kernel
theorem dX9_usedLater_2 : decode cX9_usedLater 2 = .ok (.iconst 0, 1) := by decide +kernel
theorem dX9_usedLater_3 : decode cX9_usedLater 3 = .ok (.istore 4, 2) := by decide +kernel
theorem dX9_usedLater_5 : decode cX9_usedLater 5 = .ok (.iload 4, 2) := by decide +kernel
theorem dX9_usedLater_7 : decode cX9_usedLater 7 = .ok (.bipush 6, 2) := by decide +kernel
theorem dX9_usedLater_9 : decode cX9_usedLater 9 = .ok (.if_icmp .ge 57, 3) := by decide +kernel
theorem dX9_usedLater_12 : decode cX9_usedLater 12 = .ok (.iload_n 1, 1) := by decide +kernel
theorem dX9_usedLater_13 : decode cX9_usedLater 13 = .ok (.bipush 7, 2) := by decide +kernel
theorem dX9_usedLater_15 : decode cX9_usedLater 15 = .ok (.iload 4, 2) := by decide +kernel
theorem dX9_usedLater_17 : decode cX9_usedLater 17 = .ok (.imul, 1) := by decide +kernel
theorem dX9_usedLater_18 : decode cX9_usedLater 18 = .ok (.iadd, 1) := by decide +kernel
theorem dX9_usedLater_19 : decode cX9_usedLater 19 = .ok (.istore 5, 2) := by decide +kernel
theorem dX9_usedLater_21 : decode cX9_usedLater 21 = .ok (.iload_n 3, 1) := by decide +kernel
theorem dX9_usedLater_22 : decode cX9_usedLater 22 = .ok (.aload_n 0, 1) := by decide +kernel
theorem dX9_usedLater_23 : decode cX9_usedLater 23 = .ok (.iload 5, 2) := by decide +kernel
theorem dX9_usedLater_25 : decode cX9_usedLater 25 = .ok (.invokevirtual 101, 3) := by decide +kernel
theorem dX9_usedLater_28 : decode cX9_usedLater 28 = .ok (.ifCond .ne 29, 3) := by decide +kernel
theorem dX9_usedLater_31 : decode cX9_usedLater 31 = .ok (.aload_n 0, 1) := by decide +kernel
theorem dX9_usedLater_32 : decode cX9_usedLater 32 = .ok (.getfield 13, 3) := by decide +kernel
theorem dX9_usedLater_35 : decode cX9_usedLater 35 = .ok (.iload 5, 2) := by decide +kernel
theorem dX9_usedLater_37 : decode cX9_usedLater 37 = .ok (.bipush 6, 2) := by decide +kernel
theorem dX9_usedLater_39 : decode cX9_usedLater 39 = .ok (.iadd, 1) := by decide +kernel
theorem dX9_usedLater_40 : decode cX9_usedLater 40 = .ok (.iaload, 1) := by decide +kernel
theorem dX9_usedLater_41 : decode cX9_usedLater 41 = .ok (.aload_n 0, 1) := by decide +kernel
theorem dX9_usedLater_42 : decode cX9_usedLater 42 = .ok (.getfield 13, 3) := by decide +kernel
theorem dX9_usedLater_45 : decode cX9_usedLater 45 = .ok (.iload_n 2, 1) := by decide +kernel
theorem dX9_usedLater_46 : decode cX9_usedLater 46 = .ok (.bipush 6, 2) := by decide +kernel
theorem dX9_usedLater_48 : decode cX9_usedLater 48 = .ok (.iadd, 1) := by decide +kernel
theorem dX9_usedLater_49 : decode cX9_usedLater 49 = .ok (.iaload, 1) := by decide +kernel
theorem dX9_usedLater_50 : decode cX9_usedLater 50 = .ok (.if_icmp .le 7, 3) := by decide +kernel
theorem dX9_usedLater_53 : decode cX9_usedLater 53 = .ok (.iconst 1, 1) := by decide +kernel
theorem dX9_usedLater_54 : decode cX9_usedLater 54 = .ok (.goto 4, 3) := by decide +kernel
theorem dX9_usedLater_57 : decode cX9_usedLater 57 = .ok (.iconst 0, 1) := by decide +kernel
theorem dX9_usedLater_58 : decode cX9_usedLater 58 = .ok (.iadd, 1) := by decide +kernel
theorem dX9_usedLater_59 : decode cX9_usedLater 59 = .ok (.istore_n 3, 1) := by decide +kernel
theorem dX9_usedLater_60 : decode cX9_usedLater 60 = .ok (.iinc 4 1, 3) := by decide +kernel
theorem dX9_usedLater_63 : decode cX9_usedLater 63 = .ok (.goto (-58), 3) := by decide +kernel
theorem dX9_usedLater_66 : decode cX9_usedLater 66 = .ok (.iload_n 3, 1) := by decide +kernel
theorem dX9_usedLater_67 : decode cX9_usedLater 67 = .ok (.ireturn, 1) := by decide +kernel
theorem dX9_cached_0 : decode cX9_cached 0 = .ok (.sipush 192, 3) := by decide +kernel
theorem dX9_cached_3 : decode cX9_cached 3 = .ok (.bipush 7, 2) := by decide +kernel
theorem dX9_cached_5 : decode cX9_cached 5 = .ok (.iload_n 1, 1) := by decide +kernel
theorem dX9_cached_6 : decode cX9_cached 6 = .ok (.imul, 1) := by decide +kernel
theorem dX9_cached_7 : decode cX9_cached 7 = .ok (.iadd, 1) := by decide +kernel
theorem dX9_cached_8 : decode cX9_cached 8 = .ok (.istore_n 3, 1) := by decide +kernel
theorem dX9_cached_9 : decode cX9_cached 9 = .ok (.aload_n 0, 1) := by decide +kernel
theorem dX9_cached_10 : decode cX9_cached 10 = .ok (.iload_n 1, 1) := by decide +kernel
theorem dX9_cached_11 : decode cX9_cached 11 = .ok (.iconst 0, 1) := by decide +kernel
theorem dX9_cached_12 : decode cX9_cached 12 = .ok (.iconst 5, 1) := by decide +kernel
theorem dX9_cached_13 : decode cX9_cached 13 = .ok (.invokestatic 51, 3) := by decide +kernel
theorem dX9_cached_16 : decode cX9_cached 16 = .ok (.ifCond .eq 25, 3) := by decide +kernel
theorem dX9_cached_19 : decode cX9_cached 19 = .ok (.iload_n 2, 1) := by decide +kernel
theorem dX9_cached_20 : decode cX9_cached 20 = .ok (.iconst 0, 1) := by decide +kernel
theorem dX9_cached_21 : decode cX9_cached 21 = .ok (.bipush 7, 2) := by decide +kernel
theorem dX9_cached_23 : decode cX9_cached 23 = .ok (.invokestatic 51, 3) := by decide +kernel
theorem dX9_cached_26 : decode cX9_cached 26 = .ok (.ifCond .eq 15, 3) := by decide +kernel
theorem dX9_cached_29 : decode cX9_cached 29 = .ok (.aload_n 0, 1) := by decide +kernel
theorem dX9_cached_30 : decode cX9_cached 30 = .ok (.iload_n 3, 1) := by decide +kernel
theorem dX9_cached_31 : decode cX9_cached 31 = .ok (.invokevirtual 101, 3) := by decide +kernel
theorem dX9_cached_34 : decode cX9_cached 34 = .ok (.ifCond .ne 7, 3) := by decide +kernel
theorem dX9_cached_37 : decode cX9_cached 37 = .ok (.iconst 0, 1) := by decide +kernel
theorem dX9_cached_38 : decode cX9_cached 38 = .ok (.goto 4, 3) := by decide +kernel
theorem dX9_cached_41 : decode cX9_cached 41 = .ok (.iconst 1, 1) := by decide +kernel
theorem dX9_cached_42 : decode cX9_cached 42 = .ok (.putfield 1, 3) := by decide +kernel
theorem dX9_cached_45 : decode cX9_cached 45 = .ok (.aload_n 0, 1) := by decide +kernel
theorem dX9_cached_46 : decode cX9_cached 46 = .ok (.getfield 1, 3) := by decide +kernel
theorem dX9_cached_49 : decode cX9_cached 49 = .ok (.ifCond .le 5, 3) := by decide +kernel
theorem dX9_cached_52 : decode cX9_cached 52 = .ok (.iconst 0, 1) := by decide +kernel
theorem dX9_cached_53 : decode cX9_cached 53 = .ok (.ireturn, 1) := by decide +kernel
theorem dX9_cached_54 : decode cX9_cached 54 = .ok (.iload_n 2, 1) := by decide +kernel
theorem dX9_cached_55 : decode cX9_cached 55 = .ok (.bipush 6, 2) := by decide +kernel
theorem dX9_cached_57 : decode cX9_cached 57 = .ok (.if_icmp .ge 14, 3) := by decide +kernel
theorem dX9_cached_60 : decode cX9_cached 60 = .ok (.aload_n 0, 1) := by decide +kernel
theorem dX9_cached_61 : decode cX9_cached 61 = .ok (.getfield 13, 3) := by decide +kernel
theorem dX9_cached_64 : decode cX9_cached 64 = .ok (.iload_n 3, 1) := by decide +kernel
theorem dX9_cached_65 : decode cX9_cached 65 = .ok (.iload_n 2, 1) := by decide +kernel
theorem dX9_cached_66 : decode cX9_cached 66 = .ok (.iadd, 1) := by decide +kernel
theorem dX9_cached_67 : decode cX9_cached 67 = .ok (.iaload, 1) := by decide +kernel
theorem dX9_cached_68 : decode cX9_cached 68 = .ok (.goto 33, 3) := by decide +kernel
theorem dX9_cached_71 : decode cX9_cached 71 = .ok (.iload_n 2, 1) := by decide +kernel
theorem dX9_cached_72 : decode cX9_cached 72 = .ok (.bipush 6, 2) := by decide +kernel
theorem dX9_cached_74 : decode cX9_cached 74 = .ok (.if_icmp .ne 14, 3) := by decide +kernel
theorem dX9_cached_77 : decode cX9_cached 77 = .ok (.aload_n 0, 1) := by decide +kernel
theorem dX9_cached_78 : decode cX9_cached 78 = .ok (.sipush 192, 3) := by decide +kernel
theorem dX9_cached_81 : decode cX9_cached 81 = .ok (.iload_n 3, 1) := by decide +kernel
theorem dX9_cached_82 : decode cX9_cached 82 = .ok (.invokevirtual 202, 3) := by decide +kernel
theorem dX9_cached_85 : decode cX9_cached 85 = .ok (.goto 16, 3) := by decide +kernel
theorem dX9_cached_88 : decode cX9_cached 88 = .ok (.aload_n 0, 1) := by decide +kernel
theorem dX9_cached_89 : decode cX9_cached 89 = .ok (.iload_n 3, 1) := by decide +kernel
theorem dX9_cached_90 : decode cX9_cached 90 = .ok (.invokevirtual 205, 3) := by decide +kernel
theorem dX9_cached_93 : decode cX9_cached 93 = .ok (.ifCond .eq 7, 3) := by decide +kernel
theorem dX9_cached_96 : decode cX9_cached 96 = .ok (.iconst 1, 1) := by decide +kernel
theorem dX9_cached_97 : decode cX9_cached 97 = .ok (.goto 4, 3) := by decide +kernel
theorem dX9_cached_100 : decode cX9_cached 100 = .ok (.iconst 0, 1) := by decide +kernel
theorem dX9_cached_101 : decode cX9_cached 101 = .ok (.ireturn, 1) := by decide +kernel
theorem dX9_upper_0 : decode cX9_upper 0 = .ok (.sipush 234, 3) := by decide +kernel
theorem dX9_upper_3 : decode cX9_upper 3 = .ok (.bipush 7, 2) := by decide +kernel
theorem dX9_upper_5 : decode cX9_upper 5 = .ok (.iload_n 1, 1) := by decide +kernel
theorem dX9_upper_6 : decode cX9_upper 6 = .ok (.imul, 1) := by decide +kernel
theorem dX9_upper_7 : decode cX9_upper 7 = .ok (.iadd, 1) := by decide +kernel
theorem dX9_upper_8 : decode cX9_upper 8 = .ok (.istore_n 3, 1) := by decide +kernel
theorem dX9_upper_9 : decode cX9_upper 9 = .ok (.aload_n 0, 1) := by decide +kernel
theorem dX9_upper_10 : decode cX9_upper 10 = .ok (.iload_n 1, 1) := by decide +kernel
theorem dX9_upper_11 : decode cX9_upper 11 = .ok (.iconst 0, 1) := by decide +kernel
theorem dX9_upper_12 : decode cX9_upper 12 = .ok (.iconst 5, 1) := by decide +kernel
theorem dX9_upper_13 : decode cX9_upper 13 = .ok (.invokestatic 51, 3) := by decide +kernel
theorem dX9_upper_16 : decode cX9_upper 16 = .ok (.ifCond .eq 25, 3) := by decide +kernel
theorem dX9_upper_19 : decode cX9_upper 19 = .ok (.iload_n 2, 1) := by decide +kernel
theorem dX9_upper_20 : decode cX9_upper 20 = .ok (.iconst 0, 1) := by decide +kernel
theorem dX9_upper_21 : decode cX9_upper 21 = .ok (.bipush 6, 2) := by decide +kernel
theorem dX9_upper_23 : decode cX9_upper 23 = .ok (.invokestatic 51, 3) := by decide +kernel
theorem dX9_upper_26 : decode cX9_upper 26 = .ok (.ifCond .eq 15, 3) := by decide +kernel
theorem dX9_upper_29 : decode cX9_upper 29 = .ok (.aload_n 0, 1) := by decide +kernel
theorem dX9_upper_30 : decode cX9_upper 30 = .ok (.iload_n 3, 1) := by decide +kernel
theorem dX9_upper_31 : decode cX9_upper 31 = .ok (.invokevirtual 101, 3) := by decide +kernel
theorem dX9_upper_34 : decode cX9_upper 34 = .ok (.ifCond .ne 7, 3) := by decide +kernel
theorem dX9_upper_37 : decode cX9_upper 37 = .ok (.iconst 0, 1) := by decide +kernel
theorem dX9_upper_38 : decode cX9_upper 38 = .ok (.goto 4, 3) := by decide +kernel
theorem dX9_upper_41 : decode cX9_upper 41 = .ok (.iconst 1, 1) := by decide +kernel
theorem dX9_upper_42 : decode cX9_upper 42 = .ok (.putfield 1, 3) := by decide +kernel
theorem dX9_upper_45 : decode cX9_upper 45 = .ok (.aload_n 0, 1) := by decide +kernel
theorem dX9_upper_46 : decode cX9_upper 46 = .ok (.getfield 1, 3) := by decide +kernel
theorem dX9_upper_49 : decode cX9_upper 49 = .ok (.ifCond .le 5, 3) := by decide +kernel
theorem dX9_upper_52 : decode cX9_upper 52 = .ok (.iconst 0, 1) := by decide +kernel
theorem dX9_upper_53 : decode cX9_upper 53 = .ok (.ireturn, 1) := by decide +kernel
theorem dX9_upper_54 : decode cX9_upper 54 = .ok (.iload_n 2, 1) := by decide +kernel
theorem dX9_upper_55 : decode cX9_upper 55 = .ok (.iconst 5, 1) := by decide +kernel
theorem dX9_upper_56 : decode cX9_upper 56 = .ok (.if_icmp .ge 14, 3) := by decide +kernel
theorem dX9_upper_59 : decode cX9_upper 59 = .ok (.aload_n 0, 1) := by decide +kernel
theorem dX9_upper_60 : decode cX9_upper 60 = .ok (.getfield 13, 3) := by decide +kernel
theorem dX9_upper_63 : decode cX9_upper 63 = .ok (.iload_n 3, 1) := by decide +kernel
theorem dX9_upper_64 : decode cX9_upper 64 = .ok (.iload_n 2, 1) := by decide +kernel
theorem dX9_upper_65 : decode cX9_upper 65 = .ok (.iadd, 1) := by decide +kernel
theorem dX9_upper_66 : decode cX9_upper 66 = .ok (.iaload, 1) := by decide +kernel
theorem dX9_upper_67 : decode cX9_upper 67 = .ok (.goto 32, 3) := by decide +kernel
theorem dX9_upper_70 : decode cX9_upper 70 = .ok (.iload_n 2, 1) := by decide +kernel
theorem dX9_upper_71 : decode cX9_upper 71 = .ok (.iconst 5, 1) := by decide +kernel
theorem dX9_upper_72 : decode cX9_upper 72 = .ok (.if_icmp .ne 14, 3) := by decide +kernel
theorem dX9_upper_75 : decode cX9_upper 75 = .ok (.aload_n 0, 1) := by decide +kernel
theorem dX9_upper_76 : decode cX9_upper 76 = .ok (.sipush 234, 3) := by decide +kernel
theorem dX9_upper_79 : decode cX9_upper 79 = .ok (.iload_n 3, 1) := by decide +kernel
theorem dX9_upper_80 : decode cX9_upper 80 = .ok (.invokevirtual 202, 3) := by decide +kernel
theorem dX9_upper_83 : decode cX9_upper 83 = .ok (.goto 16, 3) := by decide +kernel
theorem dX9_upper_86 : decode cX9_upper 86 = .ok (.aload_n 0, 1) := by decide +kernel
theorem dX9_upper_87 : decode cX9_upper 87 = .ok (.iload_n 3, 1) := by decide +kernel
theorem dX9_upper_88 : decode cX9_upper 88 = .ok (.invokevirtual 208, 3) := by decide +kernel
theorem dX9_upper_91 : decode cX9_upper 91 = .ok (.ifCond .eq 7, 3) := by decide +kernel
theorem dX9_upper_94 : decode cX9_upper 94 = .ok (.iconst 1, 1) := by decide +kernel
theorem dX9_upper_95 : decode cX9_upper 95 = .ok (.goto 4, 3) := by decide +kernel
theorem dX9_upper_98 : decode cX9_upper 98 = .ok (.iconst 0, 1) := by decide +kernel
theorem dX9_upper_99 : decode cX9_upper 99 = .ok (.ireturn, 1) := by decide +kernel
theorem dX9_valuesOf_0 : decode cX9_valuesOf 0 = .ok (.aload 4, 2) := by decide +kernel
theorem dX9_valuesOf_2 : decode cX9_valuesOf 2 = .ok (.iconst 0, 1) := by decide +kernel
theorem dX9_valuesOf_3 : decode cX9_valuesOf 3 = .ok (.iload_n 2, 1) := by decide +kernel
theorem dX9_valuesOf_4 : decode cX9_valuesOf 4 = .ok (.iastore, 1) := by decide +kernel
theorem dX9_valuesOf_5 : decode cX9_valuesOf 5 = .ok (.iconst 1, 1) := by decide +kernel
theorem dX9_valuesOf_6 : decode cX9_valuesOf 6 = .ok (.istore 5, 2) := by decide +kernel
theorem dX9_valuesOf_8 : decode cX9_valuesOf 8 = .ok (.iconst 0, 1) := by decide +kernel
theorem dX9_valuesOf_9 : decode cX9_valuesOf 9 = .ok (.istore 6, 2) := by decide +kernel
theorem dX9_valuesOf_11 : decode cX9_valuesOf 11 = .ok (.iload 6, 2) := by decide +kernel
theorem dX9_valuesOf_13 : decode cX9_valuesOf 13 = .ok (.aload_n 0, 1) := by decide +kernel
theorem dX9_valuesOf_14 : decode cX9_valuesOf 14 = .ok (.getfield 59, 3) := by decide +kernel
theorem dX9_valuesOf_17 : decode cX9_valuesOf 17 = .ok (.if_icmp .ge 46, 3) := by decide +kernel
theorem dX9_valuesOf_20 : decode cX9_valuesOf 20 = .ok (.aload_n 0, 1) := by decide +kernel
theorem dX9_valuesOf_21 : decode cX9_valuesOf 21 = .ok (.getfield 20, 3) := by decide +kernel
theorem dX9_valuesOf_24 : decode cX9_valuesOf 24 = .ok (.iload 6, 2) := by decide +kernel
theorem dX9_valuesOf_26 : decode cX9_valuesOf 26 = .ok (.iaload, 1) := by decide +kernel
theorem dX9_valuesOf_27 : decode cX9_valuesOf 27 = .ok (.iload_n 1, 1) := by decide +kernel
theorem dX9_valuesOf_28 : decode cX9_valuesOf 28 = .ok (.if_icmp .ne 29, 3) := by decide +kernel
theorem dX9_valuesOf_31 : decode cX9_valuesOf 31 = .ok (.aload_n 0, 1) := by decide +kernel
theorem dX9_valuesOf_32 : decode cX9_valuesOf 32 = .ok (.getfield 26, 3) := by decide +kernel
theorem dX9_valuesOf_35 : decode cX9_valuesOf 35 = .ok (.iload 6, 2) := by decide +kernel
theorem dX9_valuesOf_37 : decode cX9_valuesOf 37 = .ok (.iaload, 1) := by decide +kernel
theorem dX9_valuesOf_38 : decode cX9_valuesOf 38 = .ok (.iload_n 3, 1) := by decide +kernel
theorem dX9_valuesOf_39 : decode cX9_valuesOf 39 = .ok (.if_icmp .le 18, 3) := by decide +kernel
theorem dX9_valuesOf_42 : decode cX9_valuesOf 42 = .ok (.aload 4, 2) := by decide +kernel
theorem dX9_valuesOf_44 : decode cX9_valuesOf 44 = .ok (.iload 5, 2) := by decide +kernel
theorem dX9_valuesOf_46 : decode cX9_valuesOf 46 = .ok (.aload_n 0, 1) := by decide +kernel
theorem dX9_valuesOf_47 : decode cX9_valuesOf 47 = .ok (.getfield 23, 3) := by decide +kernel
theorem dX9_valuesOf_50 : decode cX9_valuesOf 50 = .ok (.iload 6, 2) := by decide +kernel
theorem dX9_valuesOf_52 : decode cX9_valuesOf 52 = .ok (.iaload, 1) := by decide +kernel
theorem dX9_valuesOf_53 : decode cX9_valuesOf 53 = .ok (.iastore, 1) := by decide +kernel
theorem dX9_valuesOf_54 : decode cX9_valuesOf 54 = .ok (.iinc 5 1, 3) := by decide +kernel
theorem dX9_valuesOf_57 : decode cX9_valuesOf 57 = .ok (.iinc 6 1, 3) := by decide +kernel
theorem dX9_valuesOf_60 : decode cX9_valuesOf 60 = .ok (.goto (-49), 3) := by decide +kernel
theorem dX9_valuesOf_63 : decode cX9_valuesOf 63 = .ok (.iload 5, 2) := by decide +kernel
theorem dX9_valuesOf_65 : decode cX9_valuesOf 65 = .ok (.ireturn, 1) := by decide +kernel
theorem dX9_permits_0 : decode cX9_permits 0 = .ok (.iload_n 1, 1) := by decide +kernel
theorem dX9_permits_1 : decode cX9_permits 1 = .ok (.invokestatic 73, 3) := by decide +kernel
theorem dX9_permits_4 : decode cX9_permits 4 = .ok (.iconst 2, 1) := by decide +kernel
theorem dX9_permits_5 : decode cX9_permits 5 = .ok (.if_icmp .ne 35, 3) := by decide +kernel
theorem dX9_permits_8 : decode cX9_permits 8 = .ok (.iload 4, 2) := by decide +kernel
theorem dX9_permits_10 : decode cX9_permits 10 = .ok (.ifCond .eq 13, 3) := by decide +kernel
theorem dX9_permits_13 : decode cX9_permits 13 = .ok (.iload_n 1, 1) := by decide +kernel
theorem dX9_permits_14 : decode cX9_permits 14 = .ok (.invokestatic 133, 3) := by decide +kernel
theorem dX9_permits_17 : decode cX9_permits 17 = .ok (.bipush 8, 2) := by decide +kernel
theorem dX9_permits_19 : decode cX9_permits 19 = .ok (.iand, 1) := by decide +kernel
theorem dX9_permits_20 : decode cX9_permits 20 = .ok (.ifCond .eq 20, 3) := by decide +kernel
theorem dX9_permits_23 : decode cX9_permits 23 = .ok (.aload_n 0, 1) := by decide +kernel
theorem dX9_permits_24 : decode cX9_permits 24 = .ok (.getfield 47, 3) := by decide +kernel
theorem dX9_permits_27 : decode cX9_permits 27 = .ok (.iload_n 1, 1) := by decide +kernel
theorem dX9_permits_28 : decode cX9_permits 28 = .ok (.invokestatic 136, 3) := by decide +kernel
theorem dX9_permits_31 : decode cX9_permits 31 = .ok (.iload_n 2, 1) := by decide +kernel
theorem dX9_permits_32 : decode cX9_permits 32 = .ok (.iload_n 3, 1) := by decide +kernel
theorem dX9_permits_33 : decode cX9_permits 33 = .ok (.invokestatic 55, 3) := by decide +kernel
theorem dX9_permits_36 : decode cX9_permits 36 = .ok (.irem, 1) := by decide +kernel
theorem dX9_permits_37 : decode cX9_permits 37 = .ok (.iadd, 1) := by decide +kernel
theorem dX9_permits_38 : decode cX9_permits 38 = .ok (.iconst 1, 1) := by decide +kernel
theorem dX9_permits_39 : decode cX9_permits 39 = .ok (.bastore, 1) := by decide +kernel
theorem dX9_permits_40 : decode cX9_permits 40 = .ok (.return_, 1) := by decide +kernel
theorem dX9_laysLow_0 : decode cX9_laysLow 0 = .ok (.iload_n 1, 1) := by decide +kernel
theorem dX9_laysLow_1 : decode cX9_laysLow 1 = .ok (.invokestatic 136, 3) := by decide +kernel
theorem dX9_laysLow_4 : decode cX9_laysLow 4 = .ok (.iload_n 2, 1) := by decide +kernel
theorem dX9_laysLow_5 : decode cX9_laysLow 5 = .ok (.iconst 0, 1) := by decide +kernel
theorem dX9_laysLow_6 : decode cX9_laysLow 6 = .ok (.invokestatic 126, 3) := by decide +kernel
theorem dX9_laysLow_9 : decode cX9_laysLow 9 = .ok (.istore 5, 2) := by decide +kernel
theorem dX9_laysLow_11 : decode cX9_laysLow 11 = .ok (.aload_n 0, 1) := by decide +kernel
theorem dX9_laysLow_12 : decode cX9_laysLow 12 = .ok (.iload 5, 2) := by decide +kernel
theorem dX9_laysLow_14 : decode cX9_laysLow 14 = .ok (.aload_n 0, 1) := by decide +kernel
theorem dX9_laysLow_15 : decode cX9_laysLow 15 = .ok (.getfield 13, 3) := by decide +kernel
theorem dX9_laysLow_18 : decode cX9_laysLow 18 = .ok (.iconst 0, 1) := by decide +kernel
theorem dX9_laysLow_19 : decode cX9_laysLow 19 = .ok (.iload 5, 2) := by decide +kernel
theorem dX9_laysLow_21 : decode cX9_laysLow 21 = .ok (.iadd, 1) := by decide +kernel
theorem dX9_laysLow_22 : decode cX9_laysLow 22 = .ok (.iaload, 1) := by decide +kernel
theorem dX9_laysLow_23 : decode cX9_laysLow 23 = .ok (.iload_n 3, 1) := by decide +kernel
theorem dX9_laysLow_24 : decode cX9_laysLow 24 = .ok (.aload_n 0, 1) := by decide +kernel
theorem dX9_laysLow_25 : decode cX9_laysLow 25 = .ok (.getfield 44, 3) := by decide +kernel
theorem dX9_laysLow_28 : decode cX9_laysLow 28 = .ok (.invokevirtual 211, 3) := by decide +kernel
theorem dX9_laysLow_31 : decode cX9_laysLow 31 = .ok (.istore 6, 2) := by decide +kernel
theorem dX9_laysLow_33 : decode cX9_laysLow 33 = .ok (.iconst 0, 1) := by decide +kernel
theorem dX9_laysLow_34 : decode cX9_laysLow 34 = .ok (.istore 7, 2) := by decide +kernel
theorem dX9_laysLow_36 : decode cX9_laysLow 36 = .ok (.iload 7, 2) := by decide +kernel
theorem dX9_laysLow_38 : decode cX9_laysLow 38 = .ok (.iload 6, 2) := by decide +kernel
theorem dX9_laysLow_40 : decode cX9_laysLow 40 = .ok (.if_icmp .ge 24, 3) := by decide +kernel
theorem dX9_laysLow_43 : decode cX9_laysLow 43 = .ok (.aload_n 0, 1) := by decide +kernel
theorem dX9_laysLow_44 : decode cX9_laysLow 44 = .ok (.aload_n 0, 1) := by decide +kernel
theorem dX9_laysLow_45 : decode cX9_laysLow 45 = .ok (.getfield 44, 3) := by decide +kernel
theorem dX9_laysLow_48 : decode cX9_laysLow 48 = .ok (.iload 7, 2) := by decide +kernel
theorem dX9_laysLow_50 : decode cX9_laysLow 50 = .ok (.iaload, 1) := by decide +kernel
theorem dX9_laysLow_51 : decode cX9_laysLow 51 = .ok (.iload_n 2, 1) := by decide +kernel
theorem dX9_laysLow_52 : decode cX9_laysLow 52 = .ok (.iconst 0, 1) := by decide +kernel
theorem dX9_laysLow_53 : decode cX9_laysLow 53 = .ok (.iload 4, 2) := by decide +kernel
theorem dX9_laysLow_55 : decode cX9_laysLow 55 = .ok (.invokevirtual 215, 3) := by decide +kernel
theorem dX9_laysLow_58 : decode cX9_laysLow 58 = .ok (.iinc 7 1, 3) := by decide +kernel
theorem dX9_laysLow_61 : decode cX9_laysLow 61 = .ok (.goto (-25), 3) := by decide +kernel
theorem dX9_laysLow_64 : decode cX9_laysLow 64 = .ok (.return_, 1) := by decide +kernel
theorem dX9_laysMid_0 : decode cX9_laysMid 0 = .ok (.iload_n 1, 1) := by decide +kernel
theorem dX9_laysMid_1 : decode cX9_laysMid 1 = .ok (.invokestatic 136, 3) := by decide +kernel
theorem dX9_laysMid_4 : decode cX9_laysMid 4 = .ok (.iload_n 2, 1) := by decide +kernel
theorem dX9_laysMid_5 : decode cX9_laysMid 5 = .ok (.iconst 1, 1) := by decide +kernel
theorem dX9_laysMid_6 : decode cX9_laysMid 6 = .ok (.invokestatic 126, 3) := by decide +kernel
theorem dX9_laysMid_9 : decode cX9_laysMid 9 = .ok (.istore 5, 2) := by decide +kernel
theorem dX9_laysMid_11 : decode cX9_laysMid 11 = .ok (.aload_n 0, 1) := by decide +kernel
theorem dX9_laysMid_12 : decode cX9_laysMid 12 = .ok (.iload 5, 2) := by decide +kernel
theorem dX9_laysMid_14 : decode cX9_laysMid 14 = .ok (.aload_n 0, 1) := by decide +kernel
theorem dX9_laysMid_15 : decode cX9_laysMid 15 = .ok (.getfield 13, 3) := by decide +kernel
theorem dX9_laysMid_18 : decode cX9_laysMid 18 = .ok (.iconst 0, 1) := by decide +kernel
theorem dX9_laysMid_19 : decode cX9_laysMid 19 = .ok (.iload 5, 2) := by decide +kernel
theorem dX9_laysMid_21 : decode cX9_laysMid 21 = .ok (.iadd, 1) := by decide +kernel
theorem dX9_laysMid_22 : decode cX9_laysMid 22 = .ok (.iaload, 1) := by decide +kernel
theorem dX9_laysMid_23 : decode cX9_laysMid 23 = .ok (.iload_n 3, 1) := by decide +kernel
theorem dX9_laysMid_24 : decode cX9_laysMid 24 = .ok (.aload_n 0, 1) := by decide +kernel
theorem dX9_laysMid_25 : decode cX9_laysMid 25 = .ok (.getfield 41, 3) := by decide +kernel
theorem dX9_laysMid_28 : decode cX9_laysMid 28 = .ok (.invokevirtual 211, 3) := by decide +kernel
theorem dX9_laysMid_31 : decode cX9_laysMid 31 = .ok (.istore 6, 2) := by decide +kernel
theorem dX9_laysMid_33 : decode cX9_laysMid 33 = .ok (.iconst 0, 1) := by decide +kernel
theorem dX9_laysMid_34 : decode cX9_laysMid 34 = .ok (.istore 7, 2) := by decide +kernel
theorem dX9_laysMid_36 : decode cX9_laysMid 36 = .ok (.iload 7, 2) := by decide +kernel
theorem dX9_laysMid_38 : decode cX9_laysMid 38 = .ok (.iload 6, 2) := by decide +kernel
theorem dX9_laysMid_40 : decode cX9_laysMid 40 = .ok (.if_icmp .ge 53, 3) := by decide +kernel
theorem dX9_laysMid_43 : decode cX9_laysMid 43 = .ok (.aload_n 0, 1) := by decide +kernel
theorem dX9_laysMid_44 : decode cX9_laysMid 44 = .ok (.aload_n 0, 1) := by decide +kernel
theorem dX9_laysMid_45 : decode cX9_laysMid 45 = .ok (.getfield 41, 3) := by decide +kernel
theorem dX9_laysMid_48 : decode cX9_laysMid 48 = .ok (.iload 7, 2) := by decide +kernel
theorem dX9_laysMid_50 : decode cX9_laysMid 50 = .ok (.iaload, 1) := by decide +kernel
theorem dX9_laysMid_51 : decode cX9_laysMid 51 = .ok (.iload_n 2, 1) := by decide +kernel
theorem dX9_laysMid_52 : decode cX9_laysMid 52 = .ok (.iconst 1, 1) := by decide +kernel
theorem dX9_laysMid_53 : decode cX9_laysMid 53 = .ok (.iload 4, 2) := by decide +kernel
theorem dX9_laysMid_55 : decode cX9_laysMid 55 = .ok (.invokevirtual 215, 3) := by decide +kernel
theorem dX9_laysMid_58 : decode cX9_laysMid 58 = .ok (.aload_n 0, 1) := by decide +kernel
theorem dX9_laysMid_59 : decode cX9_laysMid 59 = .ok (.getfield 41, 3) := by decide +kernel
theorem dX9_laysMid_62 : decode cX9_laysMid 62 = .ok (.iload 7, 2) := by decide +kernel
theorem dX9_laysMid_64 : decode cX9_laysMid 64 = .ok (.iaload, 1) := by decide +kernel
theorem dX9_laysMid_65 : decode cX9_laysMid 65 = .ok (.invokestatic 73, 3) := by decide +kernel
theorem dX9_laysMid_68 : decode cX9_laysMid 68 = .ok (.iconst 1, 1) := by decide +kernel
theorem dX9_laysMid_69 : decode cX9_laysMid 69 = .ok (.if_icmp .ne 18, 3) := by decide +kernel
theorem dX9_laysMid_72 : decode cX9_laysMid 72 = .ok (.aload_n 0, 1) := by decide +kernel
theorem dX9_laysMid_73 : decode cX9_laysMid 73 = .ok (.aload_n 0, 1) := by decide +kernel
theorem dX9_laysMid_74 : decode cX9_laysMid 74 = .ok (.getfield 41, 3) := by decide +kernel
theorem dX9_laysMid_77 : decode cX9_laysMid 77 = .ok (.iload 7, 2) := by decide +kernel
theorem dX9_laysMid_79 : decode cX9_laysMid 79 = .ok (.iaload, 1) := by decide +kernel
theorem dX9_laysMid_80 : decode cX9_laysMid 80 = .ok (.iload_n 2, 1) := by decide +kernel
theorem dX9_laysMid_81 : decode cX9_laysMid 81 = .ok (.iload_n 3, 1) := by decide +kernel
theorem dX9_laysMid_82 : decode cX9_laysMid 82 = .ok (.iload 4, 2) := by decide +kernel
theorem dX9_laysMid_84 : decode cX9_laysMid 84 = .ok (.invokevirtual 219, 3) := by decide +kernel
theorem dX9_laysMid_87 : decode cX9_laysMid 87 = .ok (.iinc 7 1, 3) := by decide +kernel
theorem dX9_laysMid_90 : decode cX9_laysMid 90 = .ok (.goto (-54), 3) := by decide +kernel
theorem dX9_laysMid_93 : decode cX9_laysMid 93 = .ok (.return_, 1) := by decide +kernel
theorem dX9_laysWays_0 : decode cX9_laysWays 0 = .ok (.aload_n 0, 1) := by decide +kernel
theorem dX9_laysWays_1 : decode cX9_laysWays 1 = .ok (.bipush 96, 2) := by decide +kernel
theorem dX9_laysWays_3 : decode cX9_laysWays 3 = .ok (.iload_n 1, 1) := by decide +kernel
theorem dX9_laysWays_4 : decode cX9_laysWays 4 = .ok (.iadd, 1) := by decide +kernel
theorem dX9_laysWays_5 : decode cX9_laysWays 5 = .ok (.aload_n 0, 1) := by decide +kernel
theorem dX9_laysWays_6 : decode cX9_laysWays 6 = .ok (.getfield 13, 3) := by decide +kernel
theorem dX9_laysWays_9 : decode cX9_laysWays 9 = .ok (.sipush 326, 3) := by decide +kernel
theorem dX9_laysWays_12 : decode cX9_laysWays 12 = .ok (.iload_n 1, 1) := by decide +kernel
theorem dX9_laysWays_13 : decode cX9_laysWays 13 = .ok (.iadd, 1) := by decide +kernel
theorem dX9_laysWays_14 : decode cX9_laysWays 14 = .ok (.iaload, 1) := by decide +kernel
theorem dX9_laysWays_15 : decode cX9_laysWays 15 = .ok (.iload_n 3, 1) := by decide +kernel
theorem dX9_laysWays_16 : decode cX9_laysWays 16 = .ok (.aload_n 0, 1) := by decide +kernel
theorem dX9_laysWays_17 : decode cX9_laysWays 17 = .ok (.getfield 35, 3) := by decide +kernel
theorem dX9_laysWays_20 : decode cX9_laysWays 20 = .ok (.invokevirtual 211, 3) := by decide +kernel
theorem dX9_laysWays_23 : decode cX9_laysWays 23 = .ok (.istore 5, 2) := by decide +kernel
theorem dX9_laysWays_25 : decode cX9_laysWays 25 = .ok (.iconst 0, 1) := by decide +kernel
theorem dX9_laysWays_26 : decode cX9_laysWays 26 = .ok (.istore 6, 2) := by decide +kernel
theorem dX9_laysWays_28 : decode cX9_laysWays 28 = .ok (.iload 6, 2) := by decide +kernel
theorem dX9_laysWays_30 : decode cX9_laysWays 30 = .ok (.iload 5, 2) := by decide +kernel
theorem dX9_laysWays_32 : decode cX9_laysWays 32 = .ok (.if_icmp .ge 133, 3) := by decide +kernel
theorem dX9_laysWays_35 : decode cX9_laysWays 35 = .ok (.aload_n 0, 1) := by decide +kernel
theorem dX9_laysWays_36 : decode cX9_laysWays 36 = .ok (.getfield 35, 3) := by decide +kernel
theorem dX9_laysWays_39 : decode cX9_laysWays 39 = .ok (.iload 6, 2) := by decide +kernel
theorem dX9_laysWays_41 : decode cX9_laysWays 41 = .ok (.iaload, 1) := by decide +kernel
theorem dX9_laysWays_42 : decode cX9_laysWays 42 = .ok (.ifCond .ge 7, 3) := by decide +kernel
theorem dX9_laysWays_45 : decode cX9_laysWays 45 = .ok (.iconst 0, 1) := by decide +kernel
theorem dX9_laysWays_46 : decode cX9_laysWays 46 = .ok (.goto 15, 3) := by decide +kernel
theorem dX9_laysWays_49 : decode cX9_laysWays 49 = .ok (.aload_n 0, 1) := by decide +kernel
theorem dX9_laysWays_50 : decode cX9_laysWays 50 = .ok (.getfield 35, 3) := by decide +kernel
theorem dX9_laysWays_53 : decode cX9_laysWays 53 = .ok (.iload 6, 2) := by decide +kernel
theorem dX9_laysWays_55 : decode cX9_laysWays 55 = .ok (.iaload, 1) := by decide +kernel
theorem dX9_laysWays_56 : decode cX9_laysWays 56 = .ok (.iload_n 2, 1) := by decide +kernel
theorem dX9_laysWays_57 : decode cX9_laysWays 57 = .ok (.iconst 2, 1) := by decide +kernel
theorem dX9_laysWays_58 : decode cX9_laysWays 58 = .ok (.invokestatic 126, 3) := by decide +kernel
theorem dX9_laysWays_61 : decode cX9_laysWays 61 = .ok (.istore 7, 2) := by decide +kernel
theorem dX9_laysWays_63 : decode cX9_laysWays 63 = .ok (.aload_n 0, 1) := by decide +kernel
theorem dX9_laysWays_64 : decode cX9_laysWays 64 = .ok (.getfield 35, 3) := by decide +kernel
theorem dX9_laysWays_67 : decode cX9_laysWays 67 = .ok (.iload 6, 2) := by decide +kernel
theorem dX9_laysWays_69 : decode cX9_laysWays 69 = .ok (.iaload, 1) := by decide +kernel
theorem dX9_laysWays_70 : decode cX9_laysWays 70 = .ok (.ifCond .ge 7, 3) := by decide +kernel
theorem dX9_laysWays_73 : decode cX9_laysWays 73 = .ok (.iconst 0, 1) := by decide +kernel
theorem dX9_laysWays_74 : decode cX9_laysWays 74 = .ok (.goto 23, 3) := by decide +kernel
theorem dX9_laysWays_77 : decode cX9_laysWays 77 = .ok (.aload_n 0, 1) := by decide +kernel
theorem dX9_laysWays_78 : decode cX9_laysWays 78 = .ok (.iload 7, 2) := by decide +kernel
theorem dX9_laysWays_80 : decode cX9_laysWays 80 = .ok (.aload_n 0, 1) := by decide +kernel
theorem dX9_laysWays_81 : decode cX9_laysWays 81 = .ok (.getfield 13, 3) := by decide +kernel
theorem dX9_laysWays_84 : decode cX9_laysWays 84 = .ok (.iconst 0, 1) := by decide +kernel
theorem dX9_laysWays_85 : decode cX9_laysWays 85 = .ok (.iload 7, 2) := by decide +kernel
theorem dX9_laysWays_87 : decode cX9_laysWays 87 = .ok (.iadd, 1) := by decide +kernel
theorem dX9_laysWays_88 : decode cX9_laysWays 88 = .ok (.iaload, 1) := by decide +kernel
theorem dX9_laysWays_89 : decode cX9_laysWays 89 = .ok (.iload_n 3, 1) := by decide +kernel
theorem dX9_laysWays_90 : decode cX9_laysWays 90 = .ok (.aload_n 0, 1) := by decide +kernel
theorem dX9_laysWays_91 : decode cX9_laysWays 91 = .ok (.getfield 38, 3) := by decide +kernel
theorem dX9_laysWays_94 : decode cX9_laysWays 94 = .ok (.invokevirtual 211, 3) := by decide +kernel
theorem dX9_laysWays_97 : decode cX9_laysWays 97 = .ok (.istore 8, 2) := by decide +kernel
theorem dX9_laysWays_99 : decode cX9_laysWays 99 = .ok (.iconst 0, 1) := by decide +kernel
theorem dX9_laysWays_100 : decode cX9_laysWays 100 = .ok (.istore 9, 2) := by decide +kernel
theorem dX9_laysWays_102 : decode cX9_laysWays 102 = .ok (.iload 9, 2) := by decide +kernel
theorem dX9_laysWays_104 : decode cX9_laysWays 104 = .ok (.iload 8, 2) := by decide +kernel
theorem dX9_laysWays_106 : decode cX9_laysWays 106 = .ok (.if_icmp .ge 53, 3) := by decide +kernel
theorem dX9_laysWays_109 : decode cX9_laysWays 109 = .ok (.aload_n 0, 1) := by decide +kernel
theorem dX9_laysWays_110 : decode cX9_laysWays 110 = .ok (.aload_n 0, 1) := by decide +kernel
theorem dX9_laysWays_111 : decode cX9_laysWays 111 = .ok (.getfield 38, 3) := by decide +kernel
theorem dX9_laysWays_114 : decode cX9_laysWays 114 = .ok (.iload 9, 2) := by decide +kernel
theorem dX9_laysWays_116 : decode cX9_laysWays 116 = .ok (.iaload, 1) := by decide +kernel
theorem dX9_laysWays_117 : decode cX9_laysWays 117 = .ok (.iload_n 2, 1) := by decide +kernel
theorem dX9_laysWays_118 : decode cX9_laysWays 118 = .ok (.iconst 2, 1) := by decide +kernel
theorem dX9_laysWays_119 : decode cX9_laysWays 119 = .ok (.iload 4, 2) := by decide +kernel
theorem dX9_laysWays_121 : decode cX9_laysWays 121 = .ok (.invokevirtual 215, 3) := by decide +kernel
theorem dX9_laysWays_124 : decode cX9_laysWays 124 = .ok (.aload_n 0, 1) := by decide +kernel
theorem dX9_laysWays_125 : decode cX9_laysWays 125 = .ok (.getfield 38, 3) := by decide +kernel
theorem dX9_laysWays_128 : decode cX9_laysWays 128 = .ok (.iload 9, 2) := by decide +kernel
theorem dX9_laysWays_130 : decode cX9_laysWays 130 = .ok (.iaload, 1) := by decide +kernel
theorem dX9_laysWays_131 : decode cX9_laysWays 131 = .ok (.invokestatic 73, 3) := by decide +kernel
theorem dX9_laysWays_134 : decode cX9_laysWays 134 = .ok (.iconst 1, 1) := by decide +kernel
theorem dX9_laysWays_135 : decode cX9_laysWays 135 = .ok (.if_icmp .ne 18, 3) := by decide +kernel
theorem dX9_laysWays_138 : decode cX9_laysWays 138 = .ok (.aload_n 0, 1) := by decide +kernel
theorem dX9_laysWays_139 : decode cX9_laysWays 139 = .ok (.aload_n 0, 1) := by decide +kernel
theorem dX9_laysWays_140 : decode cX9_laysWays 140 = .ok (.getfield 38, 3) := by decide +kernel
theorem dX9_laysWays_143 : decode cX9_laysWays 143 = .ok (.iload 9, 2) := by decide +kernel
theorem dX9_laysWays_145 : decode cX9_laysWays 145 = .ok (.iaload, 1) := by decide +kernel
theorem dX9_laysWays_146 : decode cX9_laysWays 146 = .ok (.iload_n 2, 1) := by decide +kernel
theorem dX9_laysWays_147 : decode cX9_laysWays 147 = .ok (.iload_n 3, 1) := by decide +kernel
theorem dX9_laysWays_148 : decode cX9_laysWays 148 = .ok (.iload 4, 2) := by decide +kernel
theorem dX9_laysWays_150 : decode cX9_laysWays 150 = .ok (.invokevirtual 222, 3) := by decide +kernel
theorem dX9_laysWays_153 : decode cX9_laysWays 153 = .ok (.iinc 9 1, 3) := by decide +kernel
theorem dX9_laysWays_156 : decode cX9_laysWays 156 = .ok (.goto (-54), 3) := by decide +kernel
theorem dX9_laysWays_159 : decode cX9_laysWays 159 = .ok (.iinc 6 1, 3) := by decide +kernel
theorem dX9_laysWays_162 : decode cX9_laysWays 162 = .ok (.goto (-134), 3) := by decide +kernel
theorem dX9_laysWays_165 : decode cX9_laysWays 165 = .ok (.return_, 1) := by decide +kernel
theorem dX9_later_0 : decode cX9_later 0 = .ok (.iload_n 0, 1) := by decide +kernel
theorem dX9_later_1 : decode cX9_later 1 = .ok (.iload_n 1, 1) := by decide +kernel
theorem dX9_later_2 : decode cX9_later 2 = .ok (.if_icmp .le 7, 3) := by decide +kernel
theorem dX9_later_5 : decode cX9_later 5 = .ok (.iload_n 0, 1) := by decide +kernel
theorem dX9_later_6 : decode cX9_later 6 = .ok (.goto 4, 3) := by decide +kernel
theorem dX9_later_9 : decode cX9_later 9 = .ok (.iload_n 1, 1) := by decide +kernel
theorem dX9_later_10 : decode cX9_later 10 = .ok (.ireturn, 1) := by decide +kernel
theorem dX9_laysPermitted_0 : decode cX9_laysPermitted 0 = .ok (.iconst 0, 1) := by decide +kernel
theorem dX9_laysPermitted_1 : decode cX9_laysPermitted 1 = .ok (.istore_n 3, 1) := by decide +kernel
theorem dX9_laysPermitted_2 : decode cX9_laysPermitted 2 = .ok (.iload_n 3, 1) := by decide +kernel
theorem dX9_laysPermitted_3 : decode cX9_laysPermitted 3 = .ok (.sipush 1100, 3) := by decide +kernel
theorem dX9_laysPermitted_6 : decode cX9_laysPermitted 6 = .ok (.if_icmp .ge 16, 3) := by decide +kernel
theorem dX9_laysPermitted_9 : decode cX9_laysPermitted 9 = .ok (.aload_n 0, 1) := by decide +kernel
theorem dX9_laysPermitted_10 : decode cX9_laysPermitted 10 = .ok (.getfield 47, 3) := by decide +kernel
theorem dX9_laysPermitted_13 : decode cX9_laysPermitted 13 = .ok (.iload_n 3, 1) := by decide +kernel
theorem dX9_laysPermitted_14 : decode cX9_laysPermitted 14 = .ok (.iconst 0, 1) := by decide +kernel
theorem dX9_laysPermitted_15 : decode cX9_laysPermitted 15 = .ok (.bastore, 1) := by decide +kernel
theorem dX9_laysPermitted_16 : decode cX9_laysPermitted 16 = .ok (.iinc 3 1, 3) := by decide +kernel
theorem dX9_laysPermitted_19 : decode cX9_laysPermitted 19 = .ok (.goto (-17), 3) := by decide +kernel
theorem dX9_laysPermitted_22 : decode cX9_laysPermitted 22 = .ok (.aload_n 0, 1) := by decide +kernel
theorem dX9_laysPermitted_23 : decode cX9_laysPermitted 23 = .ok (.getfield 181, 3) := by decide +kernel
theorem dX9_laysPermitted_26 : decode cX9_laysPermitted 26 = .ok (.aload_n 0, 1) := by decide +kernel
theorem dX9_laysPermitted_27 : decode cX9_laysPermitted 27 = .ok (.getfield 29, 3) := by decide +kernel
theorem dX9_laysPermitted_30 : decode cX9_laysPermitted 30 = .ok (.iload_n 1, 1) := by decide +kernel
theorem dX9_laysPermitted_31 : decode cX9_laysPermitted 31 = .ok (.iaload, 1) := by decide +kernel
theorem dX9_laysPermitted_32 : decode cX9_laysPermitted 32 = .ok (.aload_n 0, 1) := by decide +kernel
theorem dX9_laysPermitted_33 : decode cX9_laysPermitted 33 = .ok (.getfield 32, 3) := by decide +kernel
theorem dX9_laysPermitted_36 : decode cX9_laysPermitted 36 = .ok (.sipush 512, 3) := by decide +kernel
theorem dX9_laysPermitted_39 : decode cX9_laysPermitted 39 = .ok (.iload_n 1, 1) := by decide +kernel
theorem dX9_laysPermitted_40 : decode cX9_laysPermitted 40 = .ok (.imul, 1) := by decide +kernel
theorem dX9_laysPermitted_41 : decode cX9_laysPermitted 41 = .ok (.iload_n 2, 1) := by decide +kernel
theorem dX9_laysPermitted_42 : decode cX9_laysPermitted 42 = .ok (.iadd, 1) := by decide +kernel
theorem dX9_laysPermitted_43 : decode cX9_laysPermitted 43 = .ok (.iaload, 1) := by decide +kernel
theorem dX9_laysPermitted_44 : decode cX9_laysPermitted 44 = .ok (.invokestatic 225, 3) := by decide +kernel
theorem dX9_laysPermitted_47 : decode cX9_laysPermitted 47 = .ok (.invokestatic 225, 3) := by decide +kernel
theorem dX9_laysPermitted_50 : decode cX9_laysPermitted 50 = .ok (.istore_n 3, 1) := by decide +kernel
theorem dX9_laysPermitted_51 : decode cX9_laysPermitted 51 = .ok (.aload_n 0, 1) := by decide +kernel
theorem dX9_laysPermitted_52 : decode cX9_laysPermitted 52 = .ok (.iload_n 1, 1) := by decide +kernel
theorem dX9_laysPermitted_53 : decode cX9_laysPermitted 53 = .ok (.iload_n 2, 1) := by decide +kernel
theorem dX9_laysPermitted_54 : decode cX9_laysPermitted 54 = .ok (.iload_n 3, 1) := by decide +kernel
theorem dX9_laysPermitted_55 : decode cX9_laysPermitted 55 = .ok (.iconst 0, 1) := by decide +kernel
theorem dX9_laysPermitted_56 : decode cX9_laysPermitted 56 = .ok (.invokevirtual 228, 3) := by decide +kernel
theorem dX9_laysPermitted_59 : decode cX9_laysPermitted 59 = .ok (.iconst 0, 1) := by decide +kernel
theorem dX9_laysPermitted_60 : decode cX9_laysPermitted 60 = .ok (.istore 4, 2) := by decide +kernel
theorem dX9_laysPermitted_62 : decode cX9_laysPermitted 62 = .ok (.iload 4, 2) := by decide +kernel
theorem dX9_laysPermitted_64 : decode cX9_laysPermitted 64 = .ok (.bipush 6, 2) := by decide +kernel
theorem dX9_laysPermitted_66 : decode cX9_laysPermitted 66 = .ok (.if_icmp .ge 21, 3) := by decide +kernel
theorem dX9_laysPermitted_69 : decode cX9_laysPermitted 69 = .ok (.aload_n 0, 1) := by decide +kernel
theorem dX9_laysPermitted_70 : decode cX9_laysPermitted 70 = .ok (.iload 4, 2) := by decide +kernel
theorem dX9_laysPermitted_72 : decode cX9_laysPermitted 72 = .ok (.iload_n 2, 1) := by decide +kernel
theorem dX9_laysPermitted_73 : decode cX9_laysPermitted 73 = .ok (.aload_n 0, 1) := by decide +kernel
theorem dX9_laysPermitted_74 : decode cX9_laysPermitted 74 = .ok (.getfield 181, 3) := by decide +kernel
theorem dX9_laysPermitted_77 : decode cX9_laysPermitted 77 = .ok (.iconst 1, 1) := by decide +kernel
theorem dX9_laysPermitted_78 : decode cX9_laysPermitted 78 = .ok (.invokevirtual 228, 3) := by decide +kernel
theorem dX9_laysPermitted_81 : decode cX9_laysPermitted 81 = .ok (.iinc 4 1, 3) := by decide +kernel
theorem dX9_laysPermitted_84 : decode cX9_laysPermitted 84 = .ok (.goto (-22), 3) := by decide +kernel
theorem dX9_laysPermitted_87 : decode cX9_laysPermitted 87 = .ok (.return_, 1) := by decide +kernel
theorem dX9_permitted_0 : decode cX9_permitted 0 = .ok (.aload_n 0, 1) := by decide +kernel
theorem dX9_permitted_1 : decode cX9_permitted 1 = .ok (.iconst 0, 1) := by decide +kernel
theorem dX9_permitted_2 : decode cX9_permitted 2 = .ok (.putfield 1, 3) := by decide +kernel
theorem dX9_permitted_5 : decode cX9_permitted 5 = .ok (.iload_n 1, 1) := by decide +kernel
theorem dX9_permitted_6 : decode cX9_permitted 6 = .ok (.invokestatic 76, 3) := by decide +kernel
theorem dX9_permitted_9 : decode cX9_permitted 9 = .ok (.ifCond .eq 21, 3) := by decide +kernel
theorem dX9_permitted_12 : decode cX9_permitted 12 = .ok (.iload_n 2, 1) := by decide +kernel
theorem dX9_permitted_13 : decode cX9_permitted 13 = .ok (.invokestatic 159, 3) := by decide +kernel
theorem dX9_permitted_16 : decode cX9_permitted 16 = .ok (.ifCond .eq 14, 3) := by decide +kernel
theorem dX9_permitted_19 : decode cX9_permitted 19 = .ok (.iload_n 3, 1) := by decide +kernel
theorem dX9_permitted_20 : decode cX9_permitted 20 = .ok (.iconst 0, 1) := by decide +kernel
theorem dX9_permitted_21 : decode cX9_permitted 21 = .ok (.sipush 1099, 3) := by decide +kernel
theorem dX9_permitted_24 : decode cX9_permitted 24 = .ok (.invokestatic 51, 3) := by decide +kernel
theorem dX9_permitted_27 : decode cX9_permitted 27 = .ok (.ifCond .ne 5, 3) := by decide +kernel
theorem dX9_permitted_30 : decode cX9_permitted 30 = .ok (.iconst 0, 1) := by decide +kernel
theorem dX9_permitted_31 : decode cX9_permitted 31 = .ok (.ireturn, 1) := by decide +kernel
theorem dX9_permitted_32 : decode cX9_permitted 32 = .ok (.aload_n 0, 1) := by decide +kernel
theorem dX9_permitted_33 : decode cX9_permitted 33 = .ok (.iload_n 1, 1) := by decide +kernel
theorem dX9_permitted_34 : decode cX9_permitted 34 = .ok (.iload_n 2, 1) := by decide +kernel
theorem dX9_permitted_35 : decode cX9_permitted 35 = .ok (.invokevirtual 231, 3) := by decide +kernel
theorem dX9_permitted_38 : decode cX9_permitted 38 = .ok (.aload_n 0, 1) := by decide +kernel
theorem dX9_permitted_39 : decode cX9_permitted 39 = .ok (.getfield 47, 3) := by decide +kernel
theorem dX9_permitted_42 : decode cX9_permitted 42 = .ok (.iload_n 3, 1) := by decide +kernel
theorem dX9_permitted_43 : decode cX9_permitted 43 = .ok (.baload, 1) := by decide +kernel
theorem dX9_permitted_44 : decode cX9_permitted 44 = .ok (.ireturn, 1) := by decide +kernel
theorem dX9_many_0 : decode cX9_many 0 = .ok (.aload_n 0, 1) := by decide +kernel
theorem dX9_many_1 : decode cX9_many 1 = .ok (.iconst 0, 1) := by decide +kernel
theorem dX9_many_2 : decode cX9_many 2 = .ok (.putfield 1, 3) := by decide +kernel
theorem dX9_many_5 : decode cX9_many 5 = .ok (.iload_n 1, 1) := by decide +kernel
theorem dX9_many_6 : decode cX9_many 6 = .ok (.invokestatic 76, 3) := by decide +kernel
theorem dX9_many_9 : decode cX9_many 9 = .ok (.ifCond .eq 10, 3) := by decide +kernel
theorem dX9_many_12 : decode cX9_many 12 = .ok (.iload_n 2, 1) := by decide +kernel
theorem dX9_many_13 : decode cX9_many 13 = .ok (.invokestatic 159, 3) := by decide +kernel
theorem dX9_many_16 : decode cX9_many 16 = .ok (.ifCond .ne 5, 3) := by decide +kernel
theorem dX9_many_19 : decode cX9_many 19 = .ok (.iconst (-1), 1) := by decide +kernel
theorem dX9_many_20 : decode cX9_many 20 = .ok (.ireturn, 1) := by decide +kernel
theorem dX9_many_21 : decode cX9_many 21 = .ok (.aload_n 0, 1) := by decide +kernel
theorem dX9_many_22 : decode cX9_many 22 = .ok (.iload_n 1, 1) := by decide +kernel
theorem dX9_many_23 : decode cX9_many 23 = .ok (.iload_n 2, 1) := by decide +kernel
theorem dX9_many_24 : decode cX9_many 24 = .ok (.invokevirtual 231, 3) := by decide +kernel
theorem dX9_many_27 : decode cX9_many 27 = .ok (.iconst 0, 1) := by decide +kernel
theorem dX9_many_28 : decode cX9_many 28 = .ok (.istore_n 3, 1) := by decide +kernel
theorem dX9_many_29 : decode cX9_many 29 = .ok (.iconst 0, 1) := by decide +kernel
theorem dX9_many_30 : decode cX9_many 30 = .ok (.istore 4, 2) := by decide +kernel
theorem dX9_many_32 : decode cX9_many 32 = .ok (.iload 4, 2) := by decide +kernel
theorem dX9_many_34 : decode cX9_many 34 = .ok (.sipush 1100, 3) := by decide +kernel
theorem dX9_many_37 : decode cX9_many 37 = .ok (.if_icmp .ge 27, 3) := by decide +kernel
theorem dX9_many_40 : decode cX9_many 40 = .ok (.iload_n 3, 1) := by decide +kernel
theorem dX9_many_41 : decode cX9_many 41 = .ok (.aload_n 0, 1) := by decide +kernel
theorem dX9_many_42 : decode cX9_many 42 = .ok (.getfield 47, 3) := by decide +kernel
theorem dX9_many_45 : decode cX9_many 45 = .ok (.iload 4, 2) := by decide +kernel
theorem dX9_many_47 : decode cX9_many 47 = .ok (.baload, 1) := by decide +kernel
theorem dX9_many_48 : decode cX9_many 48 = .ok (.ifCond .eq 7, 3) := by decide +kernel
theorem dX9_many_51 : decode cX9_many 51 = .ok (.iconst 1, 1) := by decide +kernel
theorem dX9_many_52 : decode cX9_many 52 = .ok (.goto 4, 3) := by decide +kernel
theorem dX9_many_55 : decode cX9_many 55 = .ok (.iconst 0, 1) := by decide +kernel
theorem dX9_many_56 : decode cX9_many 56 = .ok (.iadd, 1) := by decide +kernel
theorem dX9_many_57 : decode cX9_many 57 = .ok (.istore_n 3, 1) := by decide +kernel
theorem dX9_many_58 : decode cX9_many 58 = .ok (.iinc 4 1, 3) := by decide +kernel
theorem dX9_many_61 : decode cX9_many 61 = .ok (.goto (-29), 3) := by decide +kernel
theorem dX9_many_64 : decode cX9_many 64 = .ok (.iload_n 3, 1) := by decide +kernel
theorem dX9_many_65 : decode cX9_many 65 = .ok (.ireturn, 1) := by decide +kernel
theorem dX9_reverse_0 : decode cX9_reverse 0 = .ok (.aload_n 0, 1) := by decide +kernel
theorem dX9_reverse_1 : decode cX9_reverse 1 = .ok (.iconst 0, 1) := by decide +kernel
theorem dX9_reverse_2 : decode cX9_reverse 2 = .ok (.putfield 1, 3) := by decide +kernel
theorem dX9_reverse_5 : decode cX9_reverse 5 = .ok (.iload_n 1, 1) := by decide +kernel
theorem dX9_reverse_6 : decode cX9_reverse 6 = .ok (.invokestatic 76, 3) := by decide +kernel
theorem dX9_reverse_9 : decode cX9_reverse 9 = .ok (.ifCond .eq 8, 3) := by decide +kernel
theorem dX9_reverse_12 : decode cX9_reverse 12 = .ok (.iload_n 3, 1) := by decide +kernel
theorem dX9_reverse_13 : decode cX9_reverse 13 = .ok (.iconst (-1), 1) := by decide +kernel
theorem dX9_reverse_14 : decode cX9_reverse 14 = .ok (.if_icmp .ge 5, 3) := by decide +kernel
theorem dX9_reverse_17 : decode cX9_reverse 17 = .ok (.iconst (-1), 1) := by decide +kernel
theorem dX9_reverse_18 : decode cX9_reverse 18 = .ok (.ireturn, 1) := by decide +kernel
theorem dX9_reverse_19 : decode cX9_reverse 19 = .ok (.iconst 0, 1) := by decide +kernel
theorem dX9_reverse_20 : decode cX9_reverse 20 = .ok (.istore 4, 2) := by decide +kernel
theorem dX9_reverse_22 : decode cX9_reverse 22 = .ok (.iconst 0, 1) := by decide +kernel
theorem dX9_reverse_23 : decode cX9_reverse 23 = .ok (.istore 5, 2) := by decide +kernel
theorem dX9_reverse_25 : decode cX9_reverse 25 = .ok (.iload 5, 2) := by decide +kernel
theorem dX9_reverse_27 : decode cX9_reverse 27 = .ok (.sipush 512, 3) := by decide +kernel
theorem dX9_reverse_30 : decode cX9_reverse 30 = .ok (.if_icmp .ge 41, 3) := by decide +kernel
theorem dX9_reverse_33 : decode cX9_reverse 33 = .ok (.aload_n 0, 1) := by decide +kernel
theorem dX9_reverse_34 : decode cX9_reverse 34 = .ok (.iload_n 1, 1) := by decide +kernel
theorem dX9_reverse_35 : decode cX9_reverse 35 = .ok (.iload 5, 2) := by decide +kernel
theorem dX9_reverse_37 : decode cX9_reverse 37 = .ok (.invokevirtual 196, 3) := by decide +kernel
theorem dX9_reverse_40 : decode cX9_reverse 40 = .ok (.istore 6, 2) := by decide +kernel
theorem dX9_reverse_42 : decode cX9_reverse 42 = .ok (.iload 6, 2) := by decide +kernel
theorem dX9_reverse_44 : decode cX9_reverse 44 = .ok (.ifCond .lt 21, 3) := by decide +kernel
theorem dX9_reverse_47 : decode cX9_reverse 47 = .ok (.iload 6, 2) := by decide +kernel
theorem dX9_reverse_49 : decode cX9_reverse 49 = .ok (.iload_n 2, 1) := by decide +kernel
theorem dX9_reverse_50 : decode cX9_reverse 50 = .ok (.if_icmp .ne 15, 3) := by decide +kernel
theorem dX9_reverse_53 : decode cX9_reverse 53 = .ok (.iload 4, 2) := by decide +kernel
theorem dX9_reverse_55 : decode cX9_reverse 55 = .ok (.iload_n 3, 1) := by decide +kernel
theorem dX9_reverse_56 : decode cX9_reverse 56 = .ok (.if_icmp .ne 6, 3) := by decide +kernel
theorem dX9_reverse_59 : decode cX9_reverse 59 = .ok (.iload 5, 2) := by decide +kernel
theorem dX9_reverse_61 : decode cX9_reverse 61 = .ok (.ireturn, 1) := by decide +kernel
theorem dX9_reverse_62 : decode cX9_reverse 62 = .ok (.iinc 4 1, 3) := by decide +kernel
theorem dX9_reverse_65 : decode cX9_reverse 65 = .ok (.iinc 5 1, 3) := by decide +kernel
theorem dX9_reverse_68 : decode cX9_reverse 68 = .ok (.goto (-43), 3) := by decide +kernel
theorem dX9_reverse_71 : decode cX9_reverse 71 = .ok (.iload_n 3, 1) := by decide +kernel
theorem dX9_reverse_72 : decode cX9_reverse 72 = .ok (.iconst (-1), 1) := by decide +kernel
theorem dX9_reverse_73 : decode cX9_reverse 73 = .ok (.if_icmp .ne 8, 3) := by decide +kernel
theorem dX9_reverse_76 : decode cX9_reverse 76 = .ok (.iload 4, 2) := by decide +kernel
theorem dX9_reverse_78 : decode cX9_reverse 78 = .ok (.goto 4, 3) := by decide +kernel
theorem dX9_reverse_81 : decode cX9_reverse 81 = .ok (.iconst (-1), 1) := by decide +kernel
theorem dX9_reverse_82 : decode cX9_reverse 82 = .ok (.ireturn, 1) := by decide +kernel
theorem dX9_passes_0 : decode cX9_passes 0 = .ok (.iconst 0, 1) := by decide +kernel
theorem dX9_passes_1 : decode cX9_passes 1 = .ok (.istore 4, 2) := by decide +kernel
theorem dX9_passes_3 : decode cX9_passes 3 = .ok (.aload_n 0, 1) := by decide +kernel
theorem dX9_passes_4 : decode cX9_passes 4 = .ok (.getfield 13, 3) := by decide +kernel
theorem dX9_passes_7 : decode cX9_passes 7 = .ok (.sipush 326, 3) := by decide +kernel
theorem dX9_passes_10 : decode cX9_passes 10 = .ok (.iload_n 1, 1) := by decide +kernel
theorem dX9_passes_11 : decode cX9_passes 11 = .ok (.iadd, 1) := by decide +kernel
theorem dX9_passes_12 : decode cX9_passes 12 = .ok (.iaload, 1) := by decide +kernel
theorem dX9_passes_13 : decode cX9_passes 13 = .ok (.istore 5, 2) := by decide +kernel
theorem dX9_passes_15 : decode cX9_passes 15 = .ok (.iconst 2, 1) := by decide +kernel
theorem dX9_passes_16 : decode cX9_passes 16 = .ok (.istore 6, 2) := by decide +kernel
theorem dX9_passes_18 : decode cX9_passes 18 = .ok (.iload 6, 2) := by decide +kernel
theorem dX9_passes_20 : decode cX9_passes 20 = .ok (.ifCond .lt 76, 3) := by decide +kernel
theorem dX9_passes_23 : decode cX9_passes 23 = .ok (.iload 5, 2) := by decide +kernel
theorem dX9_passes_25 : decode cX9_passes 25 = .ok (.ifCond .lt 71, 3) := by decide +kernel
theorem dX9_passes_28 : decode cX9_passes 28 = .ok (.iload 5, 2) := by decide +kernel
theorem dX9_passes_30 : decode cX9_passes 30 = .ok (.iload_n 2, 1) := by decide +kernel
theorem dX9_passes_31 : decode cX9_passes 31 = .ok (.iload 6, 2) := by decide +kernel
theorem dX9_passes_33 : decode cX9_passes 33 = .ok (.invokestatic 126, 3) := by decide +kernel
theorem dX9_passes_36 : decode cX9_passes 36 = .ok (.istore 7, 2) := by decide +kernel
theorem dX9_passes_38 : decode cX9_passes 38 = .ok (.iload 4, 2) := by decide +kernel
theorem dX9_passes_40 : decode cX9_passes 40 = .ok (.ifCond .ne 9, 3) := by decide +kernel
theorem dX9_passes_43 : decode cX9_passes 43 = .ok (.iload 7, 2) := by decide +kernel
theorem dX9_passes_45 : decode cX9_passes 45 = .ok (.iload_n 3, 1) := by decide +kernel
theorem dX9_passes_46 : decode cX9_passes 46 = .ok (.if_icmp .ne 7, 3) := by decide +kernel
theorem dX9_passes_49 : decode cX9_passes 49 = .ok (.iconst 1, 1) := by decide +kernel
theorem dX9_passes_50 : decode cX9_passes 50 = .ok (.goto 4, 3) := by decide +kernel
theorem dX9_passes_53 : decode cX9_passes 53 = .ok (.iconst 0, 1) := by decide +kernel
theorem dX9_passes_54 : decode cX9_passes 54 = .ok (.istore 4, 2) := by decide +kernel
theorem dX9_passes_56 : decode cX9_passes 56 = .ok (.aload_n 0, 1) := by decide +kernel
theorem dX9_passes_57 : decode cX9_passes 57 = .ok (.getfield 13, 3) := by decide +kernel
theorem dX9_passes_60 : decode cX9_passes 60 = .ok (.iconst 0, 1) := by decide +kernel
theorem dX9_passes_61 : decode cX9_passes 61 = .ok (.iload 7, 2) := by decide +kernel
theorem dX9_passes_63 : decode cX9_passes 63 = .ok (.iadd, 1) := by decide +kernel
theorem dX9_passes_64 : decode cX9_passes 64 = .ok (.iaload, 1) := by decide +kernel
theorem dX9_passes_65 : decode cX9_passes 65 = .ok (.invokestatic 73, 3) := by decide +kernel
theorem dX9_passes_68 : decode cX9_passes 68 = .ok (.iconst 1, 1) := by decide +kernel
theorem dX9_passes_69 : decode cX9_passes 69 = .ok (.if_icmp .ne 18, 3) := by decide +kernel
theorem dX9_passes_72 : decode cX9_passes 72 = .ok (.aload_n 0, 1) := by decide +kernel
theorem dX9_passes_73 : decode cX9_passes 73 = .ok (.getfield 13, 3) := by decide +kernel
theorem dX9_passes_76 : decode cX9_passes 76 = .ok (.iconst 0, 1) := by decide +kernel
theorem dX9_passes_77 : decode cX9_passes 77 = .ok (.iload 7, 2) := by decide +kernel
theorem dX9_passes_79 : decode cX9_passes 79 = .ok (.iadd, 1) := by decide +kernel
theorem dX9_passes_80 : decode cX9_passes 80 = .ok (.iaload, 1) := by decide +kernel
theorem dX9_passes_81 : decode cX9_passes 81 = .ok (.invokestatic 136, 3) := by decide +kernel
theorem dX9_passes_84 : decode cX9_passes 84 = .ok (.goto 4, 3) := by decide +kernel
theorem dX9_passes_87 : decode cX9_passes 87 = .ok (.iconst (-1), 1) := by decide +kernel
theorem dX9_passes_88 : decode cX9_passes 88 = .ok (.istore 5, 2) := by decide +kernel
theorem dX9_passes_90 : decode cX9_passes 90 = .ok (.iinc 6 (-1), 3) := by decide +kernel
theorem dX9_passes_93 : decode cX9_passes 93 = .ok (.goto (-75), 3) := by decide +kernel
theorem dX9_passes_96 : decode cX9_passes 96 = .ok (.iload 4, 2) := by decide +kernel
theorem dX9_passes_98 : decode cX9_passes 98 = .ok (.ireturn, 1) := by decide +kernel
theorem dX9_through_0 : decode cX9_through 0 = .ok (.aload_n 0, 1) := by decide +kernel
theorem dX9_through_1 : decode cX9_through 1 = .ok (.iconst 0, 1) := by decide +kernel
theorem dX9_through_2 : decode cX9_through 2 = .ok (.putfield 1, 3) := by decide +kernel
theorem dX9_through_5 : decode cX9_through 5 = .ok (.iload_n 1, 1) := by decide +kernel
theorem dX9_through_6 : decode cX9_through 6 = .ok (.invokestatic 76, 3) := by decide +kernel
theorem dX9_through_9 : decode cX9_through 9 = .ok (.ifCond .eq 11, 3) := by decide +kernel
theorem dX9_through_12 : decode cX9_through 12 = .ok (.iload_n 2, 1) := by decide +kernel
theorem dX9_through_13 : decode cX9_through 13 = .ok (.iload_n 3, 1) := by decide +kernel
theorem dX9_through_14 : decode cX9_through 14 = .ok (.invokestatic 65, 3) := by decide +kernel
theorem dX9_through_17 : decode cX9_through 17 = .ok (.ifCond .ne 5, 3) := by decide +kernel
theorem dX9_through_20 : decode cX9_through 20 = .ok (.iconst (-1), 1) := by decide +kernel
theorem dX9_through_21 : decode cX9_through 21 = .ok (.ireturn, 1) := by decide +kernel
theorem dX9_through_22 : decode cX9_through 22 = .ok (.iconst 0, 1) := by decide +kernel
theorem dX9_through_23 : decode cX9_through 23 = .ok (.istore 4, 2) := by decide +kernel
theorem dX9_through_25 : decode cX9_through 25 = .ok (.iconst 0, 1) := by decide +kernel
theorem dX9_through_26 : decode cX9_through 26 = .ok (.istore 5, 2) := by decide +kernel
theorem dX9_through_28 : decode cX9_through 28 = .ok (.iload 5, 2) := by decide +kernel
theorem dX9_through_30 : decode cX9_through 30 = .ok (.sipush 512, 3) := by decide +kernel
theorem dX9_through_33 : decode cX9_through 33 = .ok (.if_icmp .ge 35, 3) := by decide +kernel
theorem dX9_through_36 : decode cX9_through 36 = .ok (.iload 4, 2) := by decide +kernel
theorem dX9_through_38 : decode cX9_through 38 = .ok (.aload_n 0, 1) := by decide +kernel
theorem dX9_through_39 : decode cX9_through 39 = .ok (.iload_n 1, 1) := by decide +kernel
theorem dX9_through_40 : decode cX9_through 40 = .ok (.iload 5, 2) := by decide +kernel
theorem dX9_through_42 : decode cX9_through 42 = .ok (.bipush 8, 2) := by decide +kernel
theorem dX9_through_44 : decode cX9_through 44 = .ok (.iload_n 2, 1) := by decide +kernel
theorem dX9_through_45 : decode cX9_through 45 = .ok (.imul, 1) := by decide +kernel
theorem dX9_through_46 : decode cX9_through 46 = .ok (.iload_n 3, 1) := by decide +kernel
theorem dX9_through_47 : decode cX9_through 47 = .ok (.iadd, 1) := by decide +kernel
theorem dX9_through_48 : decode cX9_through 48 = .ok (.invokevirtual 234, 3) := by decide +kernel
theorem dX9_through_51 : decode cX9_through 51 = .ok (.ifCond .eq 7, 3) := by decide +kernel
theorem dX9_through_54 : decode cX9_through 54 = .ok (.iconst 1, 1) := by decide +kernel
theorem dX9_through_55 : decode cX9_through 55 = .ok (.goto 4, 3) := by decide +kernel
theorem dX9_through_58 : decode cX9_through 58 = .ok (.iconst 0, 1) := by decide +kernel
theorem dX9_through_59 : decode cX9_through 59 = .ok (.iadd, 1) := by decide +kernel
theorem dX9_through_60 : decode cX9_through 60 = .ok (.istore 4, 2) := by decide +kernel
theorem dX9_through_62 : decode cX9_through 62 = .ok (.iinc 5 1, 3) := by decide +kernel
theorem dX9_through_65 : decode cX9_through 65 = .ok (.goto (-37), 3) := by decide +kernel
theorem dX9_through_68 : decode cX9_through 68 = .ok (.iload 4, 2) := by decide +kernel
theorem dX9_through_70 : decode cX9_through 70 = .ok (.ireturn, 1) := by decide +kernel
theorem dX9_space_0 : decode cX9_space 0 = .ok (.aload_n 0, 1) := by decide +kernel
theorem dX9_space_1 : decode cX9_space 1 = .ok (.iconst 0, 1) := by decide +kernel
theorem dX9_space_2 : decode cX9_space 2 = .ok (.putfield 1, 3) := by decide +kernel
theorem dX9_space_5 : decode cX9_space 5 = .ok (.iload_n 1, 1) := by decide +kernel
theorem dX9_space_6 : decode cX9_space 6 = .ok (.invokestatic 76, 3) := by decide +kernel
theorem dX9_space_9 : decode cX9_space 9 = .ok (.ifCond .ne 5, 3) := by decide +kernel
theorem dX9_space_12 : decode cX9_space 12 = .ok (.iconst (-1), 1) := by decide +kernel
theorem dX9_space_13 : decode cX9_space 13 = .ok (.ireturn, 1) := by decide +kernel
theorem dX9_space_14 : decode cX9_space 14 = .ok (.iload_n 2, 1) := by decide +kernel
theorem dX9_space_15 : decode cX9_space 15 = .ok (.ifCond .ne 16, 3) := by decide +kernel
theorem dX9_space_18 : decode cX9_space 18 = .ok (.aload_n 0, 1) := by decide +kernel
theorem dX9_space_19 : decode cX9_space 19 = .ok (.getfield 13, 3) := by decide +kernel
theorem dX9_space_22 : decode cX9_space 22 = .ok (.sipush 326, 3) := by decide +kernel
theorem dX9_space_25 : decode cX9_space 25 = .ok (.iload_n 1, 1) := by decide +kernel
theorem dX9_space_26 : decode cX9_space 26 = .ok (.iadd, 1) := by decide +kernel
theorem dX9_space_27 : decode cX9_space 27 = .ok (.iaload, 1) := by decide +kernel
theorem dX9_space_28 : decode cX9_space 28 = .ok (.goto 47, 3) := by decide +kernel
theorem dX9_space_31 : decode cX9_space 31 = .ok (.iload_n 2, 1) := by decide +kernel
theorem dX9_space_32 : decode cX9_space 32 = .ok (.iconst 1, 1) := by decide +kernel
theorem dX9_space_33 : decode cX9_space 33 = .ok (.if_icmp .ne 16, 3) := by decide +kernel
theorem dX9_space_36 : decode cX9_space 36 = .ok (.aload_n 0, 1) := by decide +kernel
theorem dX9_space_37 : decode cX9_space 37 = .ok (.getfield 13, 3) := by decide +kernel
theorem dX9_space_40 : decode cX9_space 40 = .ok (.sipush 332, 3) := by decide +kernel
theorem dX9_space_43 : decode cX9_space 43 = .ok (.iload_n 1, 1) := by decide +kernel
theorem dX9_space_44 : decode cX9_space 44 = .ok (.iadd, 1) := by decide +kernel
theorem dX9_space_45 : decode cX9_space 45 = .ok (.iaload, 1) := by decide +kernel
theorem dX9_space_46 : decode cX9_space 46 = .ok (.goto 29, 3) := by decide +kernel
theorem dX9_space_49 : decode cX9_space 49 = .ok (.iload_n 2, 1) := by decide +kernel
theorem dX9_space_50 : decode cX9_space 50 = .ok (.iconst 2, 1) := by decide +kernel
theorem dX9_space_51 : decode cX9_space 51 = .ok (.if_icmp .ne 23, 3) := by decide +kernel
theorem dX9_space_54 : decode cX9_space 54 = .ok (.aload_n 0, 1) := by decide +kernel
theorem dX9_space_55 : decode cX9_space 55 = .ok (.getfield 13, 3) := by decide +kernel
theorem dX9_space_58 : decode cX9_space 58 = .ok (.sipush 344, 3) := by decide +kernel
theorem dX9_space_61 : decode cX9_space 61 = .ok (.iaload, 1) := by decide +kernel
theorem dX9_space_62 : decode cX9_space 62 = .ok (.iload_n 1, 1) := by decide +kernel
theorem dX9_space_63 : decode cX9_space 63 = .ok (.if_icmp .ne 7, 3) := by decide +kernel
theorem dX9_space_66 : decode cX9_space 66 = .ok (.iconst 1, 1) := by decide +kernel
theorem dX9_space_67 : decode cX9_space 67 = .ok (.goto 8, 3) := by decide +kernel
theorem dX9_space_70 : decode cX9_space 70 = .ok (.iconst 0, 1) := by decide +kernel
theorem dX9_space_71 : decode cX9_space 71 = .ok (.goto 4, 3) := by decide +kernel
theorem dX9_space_74 : decode cX9_space 74 = .ok (.iconst (-1), 1) := by decide +kernel
theorem dX9_space_75 : decode cX9_space 75 = .ok (.ireturn, 1) := by decide +kernel
theorem dX9_manyIn_0 : decode cX9_manyIn 0 = .ok (.iconst 0, 1) := by decide +kernel
theorem dX9_manyIn_1 : decode cX9_manyIn 1 = .ok (.istore_n 3, 1) := by decide +kernel
theorem dX9_manyIn_2 : decode cX9_manyIn 2 = .ok (.iconst 0, 1) := by decide +kernel
theorem dX9_manyIn_3 : decode cX9_manyIn 3 = .ok (.istore 4, 2) := by decide +kernel
theorem dX9_manyIn_5 : decode cX9_manyIn 5 = .ok (.iload 4, 2) := by decide +kernel
theorem dX9_manyIn_7 : decode cX9_manyIn 7 = .ok (.bipush 6, 2) := by decide +kernel
theorem dX9_manyIn_9 : decode cX9_manyIn 9 = .ok (.if_icmp .ge 79, 3) := by decide +kernel
theorem dX9_manyIn_12 : decode cX9_manyIn 12 = .ok (.iload_n 1, 1) := by decide +kernel
theorem dX9_manyIn_13 : decode cX9_manyIn 13 = .ok (.bipush 7, 2) := by decide +kernel
theorem dX9_manyIn_15 : decode cX9_manyIn 15 = .ok (.iload 4, 2) := by decide +kernel
theorem dX9_manyIn_17 : decode cX9_manyIn 17 = .ok (.imul, 1) := by decide +kernel
theorem dX9_manyIn_18 : decode cX9_manyIn 18 = .ok (.iadd, 1) := by decide +kernel
theorem dX9_manyIn_19 : decode cX9_manyIn 19 = .ok (.istore 5, 2) := by decide +kernel
theorem dX9_manyIn_21 : decode cX9_manyIn 21 = .ok (.aload_n 0, 1) := by decide +kernel
theorem dX9_manyIn_22 : decode cX9_manyIn 22 = .ok (.iload 5, 2) := by decide +kernel
theorem dX9_manyIn_24 : decode cX9_manyIn 24 = .ok (.invokevirtual 101, 3) := by decide +kernel
theorem dX9_manyIn_27 : decode cX9_manyIn 27 = .ok (.ifCond .ne 55, 3) := by decide +kernel
theorem dX9_manyIn_30 : decode cX9_manyIn 30 = .ok (.iload_n 2, 1) := by decide +kernel
theorem dX9_manyIn_31 : decode cX9_manyIn 31 = .ok (.ifCond .eq 31, 3) := by decide +kernel
theorem dX9_manyIn_34 : decode cX9_manyIn 34 = .ok (.iload_n 1, 1) := by decide +kernel
theorem dX9_manyIn_35 : decode cX9_manyIn 35 = .ok (.sipush 192, 3) := by decide +kernel
theorem dX9_manyIn_38 : decode cX9_manyIn 38 = .ok (.if_icmp .ne 15, 3) := by decide +kernel
theorem dX9_manyIn_41 : decode cX9_manyIn 41 = .ok (.aload_n 0, 1) := by decide +kernel
theorem dX9_manyIn_42 : decode cX9_manyIn 42 = .ok (.iload 5, 2) := by decide +kernel
theorem dX9_manyIn_44 : decode cX9_manyIn 44 = .ok (.invokevirtual 205, 3) := by decide +kernel
theorem dX9_manyIn_47 : decode cX9_manyIn 47 = .ok (.ifCond .eq 19, 3) := by decide +kernel
theorem dX9_manyIn_50 : decode cX9_manyIn 50 = .ok (.goto 12, 3) := by decide +kernel
theorem dX9_manyIn_53 : decode cX9_manyIn 53 = .ok (.aload_n 0, 1) := by decide +kernel
theorem dX9_manyIn_54 : decode cX9_manyIn 54 = .ok (.iload 5, 2) := by decide +kernel
theorem dX9_manyIn_56 : decode cX9_manyIn 56 = .ok (.invokevirtual 208, 3) := by decide +kernel
theorem dX9_manyIn_59 : decode cX9_manyIn 59 = .ok (.ifCond .eq 7, 3) := by decide +kernel
theorem dX9_manyIn_62 : decode cX9_manyIn 62 = .ok (.iconst 1, 1) := by decide +kernel
theorem dX9_manyIn_63 : decode cX9_manyIn 63 = .ok (.goto 4, 3) := by decide +kernel
theorem dX9_manyIn_66 : decode cX9_manyIn 66 = .ok (.iconst 0, 1) := by decide +kernel
theorem dX9_manyIn_67 : decode cX9_manyIn 67 = .ok (.istore 6, 2) := by decide +kernel
theorem dX9_manyIn_69 : decode cX9_manyIn 69 = .ok (.iload_n 3, 1) := by decide +kernel
theorem dX9_manyIn_70 : decode cX9_manyIn 70 = .ok (.iload 6, 2) := by decide +kernel
theorem dX9_manyIn_72 : decode cX9_manyIn 72 = .ok (.ifCond .eq 7, 3) := by decide +kernel
theorem dX9_manyIn_75 : decode cX9_manyIn 75 = .ok (.iconst 1, 1) := by decide +kernel
theorem dX9_manyIn_76 : decode cX9_manyIn 76 = .ok (.goto 4, 3) := by decide +kernel
theorem dX9_manyIn_79 : decode cX9_manyIn 79 = .ok (.iconst 0, 1) := by decide +kernel
theorem dX9_manyIn_80 : decode cX9_manyIn 80 = .ok (.iadd, 1) := by decide +kernel
theorem dX9_manyIn_81 : decode cX9_manyIn 81 = .ok (.istore_n 3, 1) := by decide +kernel
theorem dX9_manyIn_82 : decode cX9_manyIn 82 = .ok (.iinc 4 1, 3) := by decide +kernel
theorem dX9_manyIn_85 : decode cX9_manyIn 85 = .ok (.goto (-80), 3) := by decide +kernel
theorem dX9_manyIn_88 : decode cX9_manyIn 88 = .ok (.iload_n 3, 1) := by decide +kernel
theorem dX9_manyIn_89 : decode cX9_manyIn 89 = .ok (.ireturn, 1) := by decide +kernel
theorem dX9_marked_0 : decode cX9_marked 0 = .ok (.iconst 0, 1) := by decide +kernel
theorem dX9_marked_1 : decode cX9_marked 1 = .ok (.istore_n 2, 1) := by decide +kernel
theorem dX9_marked_2 : decode cX9_marked 2 = .ok (.iconst 0, 1) := by decide +kernel
theorem dX9_marked_3 : decode cX9_marked 3 = .ok (.istore_n 3, 1) := by decide +kernel
theorem dX9_marked_4 : decode cX9_marked 4 = .ok (.iload_n 3, 1) := by decide +kernel
theorem dX9_marked_5 : decode cX9_marked 5 = .ok (.bipush 96, 2) := by decide +kernel
theorem dX9_marked_7 : decode cX9_marked 7 = .ok (.if_icmp .ge 31, 3) := by decide +kernel
theorem dX9_marked_10 : decode cX9_marked 10 = .ok (.iload_n 2, 1) := by decide +kernel
theorem dX9_marked_11 : decode cX9_marked 11 = .ok (.aload_n 0, 1) := by decide +kernel
theorem dX9_marked_12 : decode cX9_marked 12 = .ok (.getfield 13, 3) := by decide +kernel
theorem dX9_marked_15 : decode cX9_marked 15 = .ok (.bipush 96, 2) := by decide +kernel
theorem dX9_marked_17 : decode cX9_marked 17 = .ok (.iload_n 3, 1) := by decide +kernel
theorem dX9_marked_18 : decode cX9_marked 18 = .ok (.iadd, 1) := by decide +kernel
theorem dX9_marked_19 : decode cX9_marked 19 = .ok (.iaload, 1) := by decide +kernel
theorem dX9_marked_20 : decode cX9_marked 20 = .ok (.iload_n 1, 1) := by decide +kernel
theorem dX9_marked_21 : decode cX9_marked 21 = .ok (.iand, 1) := by decide +kernel
theorem dX9_marked_22 : decode cX9_marked 22 = .ok (.ifCond .eq 7, 3) := by decide +kernel
theorem dX9_marked_25 : decode cX9_marked 25 = .ok (.iconst 1, 1) := by decide +kernel
theorem dX9_marked_26 : decode cX9_marked 26 = .ok (.goto 4, 3) := by decide +kernel
theorem dX9_marked_29 : decode cX9_marked 29 = .ok (.iconst 0, 1) := by decide +kernel
theorem dX9_marked_30 : decode cX9_marked 30 = .ok (.iadd, 1) := by decide +kernel
theorem dX9_marked_31 : decode cX9_marked 31 = .ok (.istore_n 2, 1) := by decide +kernel
theorem dX9_marked_32 : decode cX9_marked 32 = .ok (.iinc 3 1, 3) := by decide +kernel
theorem dX9_marked_35 : decode cX9_marked 35 = .ok (.goto (-31), 3) := by decide +kernel
theorem dX9_marked_38 : decode cX9_marked 38 = .ok (.iload_n 2, 1) := by decide +kernel
theorem dX9_marked_39 : decode cX9_marked 39 = .ok (.ireturn, 1) := by decide +kernel
theorem dX9_count_0 : decode cX9_count 0 = .ok (.aload_n 0, 1) := by decide +kernel
theorem dX9_count_1 : decode cX9_count 1 = .ok (.iconst 0, 1) := by decide +kernel
theorem dX9_count_2 : decode cX9_count 2 = .ok (.putfield 1, 3) := by decide +kernel
theorem dX9_count_5 : decode cX9_count 5 = .ok (.iconst 0, 1) := by decide +kernel
theorem dX9_count_6 : decode cX9_count 6 = .ok (.istore_n 2, 1) := by decide +kernel
theorem dX9_count_7 : decode cX9_count 7 = .ok (.iload_n 1, 1) := by decide +kernel
theorem dX9_count_8 : decode cX9_count 8 = .ok (.tableswitch 210 0 13 #[72, 81, 90, 99, 108, 117, 126, 135, 144, 153, 162, 167, 173, 179], 72) := by decide +kernel
theorem dX9_count_80 : decode cX9_count 80 = .ok (.aload_n 0, 1) := by decide +kernel
theorem dX9_count_81 : decode cX9_count 81 = .ok (.getfield 13, 3) := by decide +kernel
theorem dX9_count_84 : decode cX9_count 84 = .ok (.sipush 344, 3) := by decide +kernel
theorem dX9_count_87 : decode cX9_count 87 = .ok (.iaload, 1) := by decide +kernel
theorem dX9_count_88 : decode cX9_count 88 = .ok (.ireturn, 1) := by decide +kernel
theorem dX9_count_89 : decode cX9_count 89 = .ok (.aload_n 0, 1) := by decide +kernel
theorem dX9_count_90 : decode cX9_count 90 = .ok (.sipush 192, 3) := by decide +kernel
theorem dX9_count_93 : decode cX9_count 93 = .ok (.iconst 0, 1) := by decide +kernel
theorem dX9_count_94 : decode cX9_count 94 = .ok (.invokevirtual 237, 3) := by decide +kernel
theorem dX9_count_97 : decode cX9_count 97 = .ok (.ireturn, 1) := by decide +kernel
theorem dX9_count_98 : decode cX9_count 98 = .ok (.aload_n 0, 1) := by decide +kernel
theorem dX9_count_99 : decode cX9_count 99 = .ok (.sipush 234, 3) := by decide +kernel
theorem dX9_count_102 : decode cX9_count 102 = .ok (.iconst 0, 1) := by decide +kernel
theorem dX9_count_103 : decode cX9_count 103 = .ok (.invokevirtual 237, 3) := by decide +kernel
theorem dX9_count_106 : decode cX9_count 106 = .ok (.ireturn, 1) := by decide +kernel
theorem dX9_count_107 : decode cX9_count 107 = .ok (.aload_n 0, 1) := by decide +kernel
theorem dX9_count_108 : decode cX9_count 108 = .ok (.sipush 192, 3) := by decide +kernel
theorem dX9_count_111 : decode cX9_count 111 = .ok (.iconst 1, 1) := by decide +kernel
theorem dX9_count_112 : decode cX9_count 112 = .ok (.invokevirtual 237, 3) := by decide +kernel
theorem dX9_count_115 : decode cX9_count 115 = .ok (.ireturn, 1) := by decide +kernel
theorem dX9_count_116 : decode cX9_count 116 = .ok (.aload_n 0, 1) := by decide +kernel
theorem dX9_count_117 : decode cX9_count 117 = .ok (.sipush 234, 3) := by decide +kernel
theorem dX9_count_120 : decode cX9_count 120 = .ok (.iconst 1, 1) := by decide +kernel
theorem dX9_count_121 : decode cX9_count 121 = .ok (.invokevirtual 237, 3) := by decide +kernel
theorem dX9_count_124 : decode cX9_count 124 = .ok (.ireturn, 1) := by decide +kernel
theorem dX9_count_125 : decode cX9_count 125 = .ok (.aload_n 0, 1) := by decide +kernel
theorem dX9_count_126 : decode cX9_count 126 = .ok (.getfield 13, 3) := by decide +kernel
theorem dX9_count_129 : decode cX9_count 129 = .ok (.sipush 321, 3) := by decide +kernel
theorem dX9_count_132 : decode cX9_count 132 = .ok (.iaload, 1) := by decide +kernel
theorem dX9_count_133 : decode cX9_count 133 = .ok (.ireturn, 1) := by decide +kernel
theorem dX9_count_134 : decode cX9_count 134 = .ok (.aload_n 0, 1) := by decide +kernel
theorem dX9_count_135 : decode cX9_count 135 = .ok (.getfield 13, 3) := by decide +kernel
theorem dX9_count_138 : decode cX9_count 138 = .ok (.sipush 322, 3) := by decide +kernel
theorem dX9_count_141 : decode cX9_count 141 = .ok (.iaload, 1) := by decide +kernel
theorem dX9_count_142 : decode cX9_count 142 = .ok (.ireturn, 1) := by decide +kernel
theorem dX9_count_143 : decode cX9_count 143 = .ok (.aload_n 0, 1) := by decide +kernel
theorem dX9_count_144 : decode cX9_count 144 = .ok (.getfield 13, 3) := by decide +kernel
theorem dX9_count_147 : decode cX9_count 147 = .ok (.sipush 323, 3) := by decide +kernel
theorem dX9_count_150 : decode cX9_count 150 = .ok (.iaload, 1) := by decide +kernel
theorem dX9_count_151 : decode cX9_count 151 = .ok (.ireturn, 1) := by decide +kernel
theorem dX9_count_152 : decode cX9_count 152 = .ok (.aload_n 0, 1) := by decide +kernel
theorem dX9_count_153 : decode cX9_count 153 = .ok (.getfield 13, 3) := by decide +kernel
theorem dX9_count_156 : decode cX9_count 156 = .ok (.sipush 324, 3) := by decide +kernel
theorem dX9_count_159 : decode cX9_count 159 = .ok (.iaload, 1) := by decide +kernel
theorem dX9_count_160 : decode cX9_count 160 = .ok (.ireturn, 1) := by decide +kernel
theorem dX9_count_161 : decode cX9_count 161 = .ok (.aload_n 0, 1) := by decide +kernel
theorem dX9_count_162 : decode cX9_count 162 = .ok (.getfield 13, 3) := by decide +kernel
theorem dX9_count_165 : decode cX9_count 165 = .ok (.sipush 325, 3) := by decide +kernel
theorem dX9_count_168 : decode cX9_count 168 = .ok (.iaload, 1) := by decide +kernel
theorem dX9_count_169 : decode cX9_count 169 = .ok (.ireturn, 1) := by decide +kernel
theorem dX9_count_170 : decode cX9_count 170 = .ok (.aload_n 0, 1) := by decide +kernel
theorem dX9_count_171 : decode cX9_count 171 = .ok (.getfield 59, 3) := by decide +kernel
theorem dX9_count_174 : decode cX9_count 174 = .ok (.ireturn, 1) := by decide +kernel
theorem dX9_count_175 : decode cX9_count 175 = .ok (.aload_n 0, 1) := by decide +kernel
theorem dX9_count_176 : decode cX9_count 176 = .ok (.iconst 1, 1) := by decide +kernel
theorem dX9_count_177 : decode cX9_count 177 = .ok (.invokevirtual 240, 3) := by decide +kernel
theorem dX9_count_180 : decode cX9_count 180 = .ok (.ireturn, 1) := by decide +kernel
theorem dX9_count_181 : decode cX9_count 181 = .ok (.aload_n 0, 1) := by decide +kernel
theorem dX9_count_182 : decode cX9_count 182 = .ok (.iconst 2, 1) := by decide +kernel
theorem dX9_count_183 : decode cX9_count 183 = .ok (.invokevirtual 240, 3) := by decide +kernel
theorem dX9_count_186 : decode cX9_count 186 = .ok (.ireturn, 1) := by decide +kernel
theorem dX9_count_187 : decode cX9_count 187 = .ok (.iconst 0, 1) := by decide +kernel
theorem dX9_count_188 : decode cX9_count 188 = .ok (.istore_n 3, 1) := by decide +kernel
theorem dX9_count_189 : decode cX9_count 189 = .ok (.iload_n 3, 1) := by decide +kernel
theorem dX9_count_190 : decode cX9_count 190 = .ok (.iconst 4, 1) := by decide +kernel
theorem dX9_count_191 : decode cX9_count 191 = .ok (.if_icmp .ge 25, 3) := by decide +kernel
theorem dX9_count_194 : decode cX9_count 194 = .ok (.iload_n 2, 1) := by decide +kernel
theorem dX9_count_195 : decode cX9_count 195 = .ok (.aload_n 0, 1) := by decide +kernel
theorem dX9_count_196 : decode cX9_count 196 = .ok (.iload_n 3, 1) := by decide +kernel
theorem dX9_count_197 : decode cX9_count 197 = .ok (.invokevirtual 80, 3) := by decide +kernel
theorem dX9_count_200 : decode cX9_count 200 = .ok (.ifCond .eq 7, 3) := by decide +kernel
theorem dX9_count_203 : decode cX9_count 203 = .ok (.iconst 1, 1) := by decide +kernel
theorem dX9_count_204 : decode cX9_count 204 = .ok (.goto 4, 3) := by decide +kernel
theorem dX9_count_207 : decode cX9_count 207 = .ok (.iconst 0, 1) := by decide +kernel
theorem dX9_count_208 : decode cX9_count 208 = .ok (.iadd, 1) := by decide +kernel
theorem dX9_count_209 : decode cX9_count 209 = .ok (.istore_n 2, 1) := by decide +kernel
theorem dX9_count_210 : decode cX9_count 210 = .ok (.iinc 3 1, 3) := by decide +kernel
theorem dX9_count_213 : decode cX9_count 213 = .ok (.goto (-24), 3) := by decide +kernel
theorem dX9_count_216 : decode cX9_count 216 = .ok (.iload_n 2, 1) := by decide +kernel
theorem dX9_count_217 : decode cX9_count 217 = .ok (.ireturn, 1) := by decide +kernel
theorem dX9_count_218 : decode cX9_count 218 = .ok (.iconst (-1), 1) := by decide +kernel
theorem dX9_count_219 : decode cX9_count 219 = .ok (.ireturn, 1) := by decide +kernel
theorem dJ6_bitCount_0f7a4_0 : decode cJ6_bitCount_0f7a4 0 = .ok (.iload_n 0, 1) := by decide +kernel
theorem dJ6_bitCount_0f7a4_1 : decode cJ6_bitCount_0f7a4 1 = .ok (.iload_n 0, 1) := by decide +kernel
theorem dJ6_bitCount_0f7a4_2 : decode cJ6_bitCount_0f7a4 2 = .ok (.iconst 1, 1) := by decide +kernel
theorem dJ6_bitCount_0f7a4_3 : decode cJ6_bitCount_0f7a4 3 = .ok (.iushr, 1) := by decide +kernel
theorem dJ6_bitCount_0f7a4_4 : decode cJ6_bitCount_0f7a4 4 = .ok (.ldc_w 265, 3) := by decide +kernel
theorem dJ6_bitCount_0f7a4_7 : decode cJ6_bitCount_0f7a4 7 = .ok (.iand, 1) := by decide +kernel
theorem dJ6_bitCount_0f7a4_8 : decode cJ6_bitCount_0f7a4 8 = .ok (.isub, 1) := by decide +kernel
theorem dJ6_bitCount_0f7a4_9 : decode cJ6_bitCount_0f7a4 9 = .ok (.istore_n 0, 1) := by decide +kernel
theorem dJ6_bitCount_0f7a4_10 : decode cJ6_bitCount_0f7a4 10 = .ok (.iload_n 0, 1) := by decide +kernel
theorem dJ6_bitCount_0f7a4_11 : decode cJ6_bitCount_0f7a4 11 = .ok (.ldc_w 266, 3) := by decide +kernel
theorem dJ6_bitCount_0f7a4_14 : decode cJ6_bitCount_0f7a4 14 = .ok (.iand, 1) := by decide +kernel
theorem dJ6_bitCount_0f7a4_15 : decode cJ6_bitCount_0f7a4 15 = .ok (.iload_n 0, 1) := by decide +kernel
theorem dJ6_bitCount_0f7a4_16 : decode cJ6_bitCount_0f7a4 16 = .ok (.iconst 2, 1) := by decide +kernel
theorem dJ6_bitCount_0f7a4_17 : decode cJ6_bitCount_0f7a4 17 = .ok (.iushr, 1) := by decide +kernel
theorem dJ6_bitCount_0f7a4_18 : decode cJ6_bitCount_0f7a4 18 = .ok (.ldc_w 266, 3) := by decide +kernel
theorem dJ6_bitCount_0f7a4_21 : decode cJ6_bitCount_0f7a4 21 = .ok (.iand, 1) := by decide +kernel
theorem dJ6_bitCount_0f7a4_22 : decode cJ6_bitCount_0f7a4 22 = .ok (.iadd, 1) := by decide +kernel
theorem dJ6_bitCount_0f7a4_23 : decode cJ6_bitCount_0f7a4 23 = .ok (.istore_n 0, 1) := by decide +kernel
theorem dJ6_bitCount_0f7a4_24 : decode cJ6_bitCount_0f7a4 24 = .ok (.iload_n 0, 1) := by decide +kernel
theorem dJ6_bitCount_0f7a4_25 : decode cJ6_bitCount_0f7a4 25 = .ok (.iload_n 0, 1) := by decide +kernel
theorem dJ6_bitCount_0f7a4_26 : decode cJ6_bitCount_0f7a4 26 = .ok (.iconst 4, 1) := by decide +kernel
theorem dJ6_bitCount_0f7a4_27 : decode cJ6_bitCount_0f7a4 27 = .ok (.iushr, 1) := by decide +kernel
theorem dJ6_bitCount_0f7a4_28 : decode cJ6_bitCount_0f7a4 28 = .ok (.iadd, 1) := by decide +kernel
theorem dJ6_bitCount_0f7a4_29 : decode cJ6_bitCount_0f7a4 29 = .ok (.ldc_w 267, 3) := by decide +kernel
theorem dJ6_bitCount_0f7a4_32 : decode cJ6_bitCount_0f7a4 32 = .ok (.iand, 1) := by decide +kernel
theorem dJ6_bitCount_0f7a4_33 : decode cJ6_bitCount_0f7a4 33 = .ok (.istore_n 0, 1) := by decide +kernel
theorem dJ6_bitCount_0f7a4_34 : decode cJ6_bitCount_0f7a4 34 = .ok (.iload_n 0, 1) := by decide +kernel
theorem dJ6_bitCount_0f7a4_35 : decode cJ6_bitCount_0f7a4 35 = .ok (.iload_n 0, 1) := by decide +kernel
theorem dJ6_bitCount_0f7a4_36 : decode cJ6_bitCount_0f7a4 36 = .ok (.bipush 8, 2) := by decide +kernel
theorem dJ6_bitCount_0f7a4_38 : decode cJ6_bitCount_0f7a4 38 = .ok (.iushr, 1) := by decide +kernel
theorem dJ6_bitCount_0f7a4_39 : decode cJ6_bitCount_0f7a4 39 = .ok (.iadd, 1) := by decide +kernel
theorem dJ6_bitCount_0f7a4_40 : decode cJ6_bitCount_0f7a4 40 = .ok (.istore_n 0, 1) := by decide +kernel
theorem dJ6_bitCount_0f7a4_41 : decode cJ6_bitCount_0f7a4 41 = .ok (.iload_n 0, 1) := by decide +kernel
theorem dJ6_bitCount_0f7a4_42 : decode cJ6_bitCount_0f7a4 42 = .ok (.iload_n 0, 1) := by decide +kernel
theorem dJ6_bitCount_0f7a4_43 : decode cJ6_bitCount_0f7a4 43 = .ok (.bipush 16, 2) := by decide +kernel
theorem dJ6_bitCount_0f7a4_45 : decode cJ6_bitCount_0f7a4 45 = .ok (.iushr, 1) := by decide +kernel
theorem dJ6_bitCount_0f7a4_46 : decode cJ6_bitCount_0f7a4 46 = .ok (.iadd, 1) := by decide +kernel
theorem dJ6_bitCount_0f7a4_47 : decode cJ6_bitCount_0f7a4 47 = .ok (.istore_n 0, 1) := by decide +kernel
theorem dJ6_bitCount_0f7a4_48 : decode cJ6_bitCount_0f7a4 48 = .ok (.iload_n 0, 1) := by decide +kernel
theorem dJ6_bitCount_0f7a4_49 : decode cJ6_bitCount_0f7a4 49 = .ok (.bipush 63, 2) := by decide +kernel
theorem dJ6_bitCount_0f7a4_51 : decode cJ6_bitCount_0f7a4 51 = .ok (.iand, 1) := by decide +kernel
theorem dJ6_bitCount_0f7a4_52 : decode cJ6_bitCount_0f7a4 52 = .ok (.ireturn, 1) := by decide +kernel
theorem dJ9_max_7cf53_0 : decode cJ9_max_7cf53 0 = .ok (.iload_n 0, 1) := by decide +kernel
theorem dJ9_max_7cf53_1 : decode cJ9_max_7cf53 1 = .ok (.iload_n 1, 1) := by decide +kernel
theorem dJ9_max_7cf53_2 : decode cJ9_max_7cf53 2 = .ok (.if_icmp .lt 7, 3) := by decide +kernel
theorem dJ9_max_7cf53_5 : decode cJ9_max_7cf53 5 = .ok (.iload_n 0, 1) := by decide +kernel
theorem dJ9_max_7cf53_6 : decode cJ9_max_7cf53 6 = .ok (.goto 4, 3) := by decide +kernel
theorem dJ9_max_7cf53_9 : decode cJ9_max_7cf53 9 = .ok (.iload_n 1, 1) := by decide +kernel
theorem dJ9_max_7cf53_10 : decode cJ9_max_7cf53 10 = .ok (.ireturn, 1) := by decide +kernel
theorem dJ9_min_7cf53_0 : decode cJ9_min_7cf53 0 = .ok (.iload_n 0, 1) := by decide +kernel
theorem dJ9_min_7cf53_1 : decode cJ9_min_7cf53 1 = .ok (.iload_n 1, 1) := by decide +kernel
theorem dJ9_min_7cf53_2 : decode cJ9_min_7cf53 2 = .ok (.if_icmp .gt 7, 3) := by decide +kernel
theorem dJ9_min_7cf53_5 : decode cJ9_min_7cf53 5 = .ok (.iload_n 0, 1) := by decide +kernel
theorem dJ9_min_7cf53_6 : decode cJ9_min_7cf53 6 = .ok (.goto 4, 3) := by decide +kernel
theorem dJ9_min_7cf53_9 : decode cJ9_min_7cf53 9 = .ok (.iload_n 1, 1) := by decide +kernel
theorem dJ9_min_7cf53_10 : decode cJ9_min_7cf53 10 = .ok (.ireturn, 1) := by decide +kernel
theorem dJ7_fill_53178_0 : decode cJ7_fill_53178 0 = .ok (.iconst 0, 1) := by decide +kernel
theorem dJ7_fill_53178_1 : decode cJ7_fill_53178 1 = .ok (.istore_n 2, 1) := by decide +kernel
theorem dJ7_fill_53178_2 : decode cJ7_fill_53178 2 = .ok (.aload_n 0, 1) := by decide +kernel
theorem dJ7_fill_53178_3 : decode cJ7_fill_53178 3 = .ok (.arraylength, 1) := by decide +kernel
theorem dJ7_fill_53178_4 : decode cJ7_fill_53178 4 = .ok (.istore_n 3, 1) := by decide +kernel
theorem dJ7_fill_53178_5 : decode cJ7_fill_53178 5 = .ok (.iload_n 2, 1) := by decide +kernel
theorem dJ7_fill_53178_6 : decode cJ7_fill_53178 6 = .ok (.iload_n 3, 1) := by decide +kernel
theorem dJ7_fill_53178_7 : decode cJ7_fill_53178 7 = .ok (.if_icmp .ge 13, 3) := by decide +kernel
theorem dJ7_fill_53178_10 : decode cJ7_fill_53178 10 = .ok (.aload_n 0, 1) := by decide +kernel
theorem dJ7_fill_53178_11 : decode cJ7_fill_53178 11 = .ok (.iload_n 2, 1) := by decide +kernel
theorem dJ7_fill_53178_12 : decode cJ7_fill_53178 12 = .ok (.iload_n 1, 1) := by decide +kernel
theorem dJ7_fill_53178_13 : decode cJ7_fill_53178 13 = .ok (.iastore, 1) := by decide +kernel
theorem dJ7_fill_53178_14 : decode cJ7_fill_53178 14 = .ok (.iinc 2 1, 3) := by decide +kernel
theorem dJ7_fill_53178_17 : decode cJ7_fill_53178 17 = .ok (.goto (-12), 3) := by decide +kernel
theorem dJ7_fill_53178_20 : decode cJ7_fill_53178 20 = .ok (.return_, 1) := by decide +kernel
theorem dJ7_copyOf_59c91_0 : decode cJ7_copyOf_59c91 0 = .ok (.iload_n 1, 1) := by decide +kernel
theorem dJ7_copyOf_59c91_1 : decode cJ7_copyOf_59c91 1 = .ok (.aload_n 0, 1) := by decide +kernel
theorem dJ7_copyOf_59c91_2 : decode cJ7_copyOf_59c91 2 = .ok (.arraylength, 1) := by decide +kernel
theorem dJ7_copyOf_59c91_3 : decode cJ7_copyOf_59c91 3 = .ok (.if_icmp .ne 11, 3) := by decide +kernel
theorem dJ7_copyOf_59c91_6 : decode cJ7_copyOf_59c91 6 = .ok (.aload_n 0, 1) := by decide +kernel
theorem dJ7_copyOf_59c91_7 : decode cJ7_copyOf_59c91 7 = .ok (.invokevirtual 316, 3) := by decide +kernel
theorem dJ7_copyOf_59c91_10 : decode cJ7_copyOf_59c91 10 = .ok (.checkcast 317, 3) := by decide +kernel
theorem dJ7_copyOf_59c91_13 : decode cJ7_copyOf_59c91 13 = .ok (.areturn, 1) := by decide +kernel
theorem dJ7_copyOf_59c91_14 : decode cJ7_copyOf_59c91 14 = .ok (.iload_n 1, 1) := by decide +kernel
theorem dJ7_copyOf_59c91_15 : decode cJ7_copyOf_59c91 15 = .ok (.newarray .int, 2) := by decide +kernel
theorem dJ7_copyOf_59c91_17 : decode cJ7_copyOf_59c91 17 = .ok (.astore_n 2, 1) := by decide +kernel
theorem dJ7_copyOf_59c91_18 : decode cJ7_copyOf_59c91 18 = .ok (.aload_n 0, 1) := by decide +kernel
theorem dJ7_copyOf_59c91_19 : decode cJ7_copyOf_59c91 19 = .ok (.iconst 0, 1) := by decide +kernel
theorem dJ7_copyOf_59c91_20 : decode cJ7_copyOf_59c91 20 = .ok (.aload_n 2, 1) := by decide +kernel
theorem dJ7_copyOf_59c91_21 : decode cJ7_copyOf_59c91 21 = .ok (.iconst 0, 1) := by decide +kernel
theorem dJ7_copyOf_59c91_22 : decode cJ7_copyOf_59c91 22 = .ok (.aload_n 0, 1) := by decide +kernel
theorem dJ7_copyOf_59c91_23 : decode cJ7_copyOf_59c91 23 = .ok (.arraylength, 1) := by decide +kernel
theorem dJ7_copyOf_59c91_24 : decode cJ7_copyOf_59c91 24 = .ok (.iload_n 1, 1) := by decide +kernel
theorem dJ7_copyOf_59c91_25 : decode cJ7_copyOf_59c91 25 = .ok (.invokestatic 304, 3) := by decide +kernel
theorem dJ7_copyOf_59c91_28 : decode cJ7_copyOf_59c91 28 = .ok (.invokestatic 150, 3) := by decide +kernel
theorem dJ7_copyOf_59c91_31 : decode cJ7_copyOf_59c91 31 = .ok (.aload_n 2, 1) := by decide +kernel
theorem dJ7_copyOf_59c91_32 : decode cJ7_copyOf_59c91 32 = .ok (.areturn, 1) := by decide +kernel
theorem dL_cached_0 : decode cL_cached 0 = .ok (.aload_n 3, 1) := by decide +kernel
theorem dL_cached_1 : decode cL_cached 1 = .ok (.iconst 0, 1) := by decide +kernel
theorem dL_cached_2 : decode cL_cached 2 = .ok (.aload_n 0, 1) := by decide +kernel
theorem dL_cached_3 : decode cL_cached 3 = .ok (.iload_n 1, 1) := by decide +kernel
theorem dL_cached_4 : decode cL_cached 4 = .ok (.iload_n 2, 1) := by decide +kernel
theorem dL_cached_5 : decode cL_cached 5 = .ok (.invokevirtual 7, 3) := by decide +kernel
theorem dL_cached_8 : decode cL_cached 8 = .ok (.i2l, 1) := by decide +kernel
theorem dL_cached_9 : decode cL_cached 9 = .ok (.lastore, 1) := by decide +kernel
theorem dL_cached_10 : decode cL_cached 10 = .ok (.goto 7, 3) := by decide +kernel
theorem dL_cached_13 : decode cL_cached 13 = .ok (.astore 4, 2) := by decide +kernel
theorem dL_cached_15 : decode cL_cached 15 = .ok (.iconst 1, 1) := by decide +kernel
theorem dL_cached_16 : decode cL_cached 16 = .ok (.ireturn, 1) := by decide +kernel
theorem dL_cached_17 : decode cL_cached 17 = .ok (.iconst 0, 1) := by decide +kernel
theorem dL_cached_18 : decode cL_cached 18 = .ok (.ireturn, 1) := by decide +kernel
theorem dL_upper_0 : decode cL_upper 0 = .ok (.aload_n 3, 1) := by decide +kernel
theorem dL_upper_1 : decode cL_upper 1 = .ok (.iconst 0, 1) := by decide +kernel
theorem dL_upper_2 : decode cL_upper 2 = .ok (.aload_n 0, 1) := by decide +kernel
theorem dL_upper_3 : decode cL_upper 3 = .ok (.iload_n 1, 1) := by decide +kernel
theorem dL_upper_4 : decode cL_upper 4 = .ok (.iload_n 2, 1) := by decide +kernel
theorem dL_upper_5 : decode cL_upper 5 = .ok (.invokevirtual 15, 3) := by decide +kernel
theorem dL_upper_8 : decode cL_upper 8 = .ok (.i2l, 1) := by decide +kernel
theorem dL_upper_9 : decode cL_upper 9 = .ok (.lastore, 1) := by decide +kernel
theorem dL_upper_10 : decode cL_upper 10 = .ok (.goto 7, 3) := by decide +kernel
theorem dL_upper_13 : decode cL_upper 13 = .ok (.astore 4, 2) := by decide +kernel
theorem dL_upper_15 : decode cL_upper 15 = .ok (.iconst 1, 1) := by decide +kernel
theorem dL_upper_16 : decode cL_upper 16 = .ok (.ireturn, 1) := by decide +kernel
theorem dL_upper_17 : decode cL_upper 17 = .ok (.iconst 0, 1) := by decide +kernel
theorem dL_upper_18 : decode cL_upper 18 = .ok (.ireturn, 1) := by decide +kernel
theorem dL_law_0 : decode cL_law 0 = .ok (.new 8, 3) := by decide +kernel
theorem dL_law_3 : decode cL_law 3 = .ok (.dup, 1) := by decide +kernel
theorem dL_law_4 : decode cL_law 4 = .ok (.invokespecial 18, 3) := by decide +kernel
theorem dL_law_7 : decode cL_law 7 = .ok (.astore_n 1, 1) := by decide +kernel
theorem dL_law_8 : decode cL_law 8 = .ok (.new 19, 3) := by decide +kernel
theorem dL_law_11 : decode cL_law 11 = .ok (.dup, 1) := by decide +kernel
theorem dL_law_12 : decode cL_law 12 = .ok (.invokespecial 21, 3) := by decide +kernel
theorem dL_law_15 : decode cL_law 15 = .ok (.astore_n 2, 1) := by decide +kernel
theorem dL_law_16 : decode cL_law 16 = .ok (.iconst 1, 1) := by decide +kernel
theorem dL_law_17 : decode cL_law 17 = .ok (.newarray .long, 2) := by decide +kernel
theorem dL_law_19 : decode cL_law 19 = .ok (.astore_n 3, 1) := by decide +kernel
theorem dL_law_20 : decode cL_law 20 = .ok (.iconst 0, 1) := by decide +kernel
theorem dL_law_21 : decode cL_law 21 = .ok (.istore 4, 2) := by decide +kernel
theorem dL_law_23 : decode cL_law 23 = .ok (.iload 4, 2) := by decide +kernel
theorem dL_law_25 : decode cL_law 25 = .ok (.aload_n 0, 1) := by decide +kernel
