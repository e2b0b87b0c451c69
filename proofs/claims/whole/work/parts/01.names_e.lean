theorem dX8_isStalePage_8 : decode cX8_isStalePage 8 = .ok (.invokevirtual 413, 3) := by decide +kernel
theorem dX8_isStalePage_11 : decode cX8_isStalePage 11 = .ok (.istore_n 2, 1) := by decide +kernel
theorem dX8_isStalePage_12 : decode cX8_isStalePage 12 = .ok (.iload_n 2, 1) := by decide +kernel
theorem dX8_isStalePage_13 : decode cX8_isStalePage 13 = .ok (.iconst (-1), 1) := by decide +kernel
theorem dX8_isStalePage_14 : decode cX8_isStalePage 14 = .ok (.if_icmp .ne 5, 3) := by decide +kernel
theorem dX8_isStalePage_17 : decode cX8_isStalePage 17 = .ok (.iconst 1, 1) := by decide +kernel
theorem dX8_isStalePage_18 : decode cX8_isStalePage 18 = .ok (.ireturn, 1) := by decide +kernel
theorem dX8_isStalePage_19 : decode cX8_isStalePage 19 = .ok (.aload_n 0, 1) := by decide +kernel
theorem dX8_isStalePage_20 : decode cX8_isStalePage 20 = .ok (.iload_n 2, 1) := by decide +kernel
theorem dX8_isStalePage_21 : decode cX8_isStalePage 21 = .ok (.aload_n 1, 1) := by decide +kernel
theorem dX8_isStalePage_22 : decode cX8_isStalePage 22 = .ok (.getfield 416, 3) := by decide +kernel
theorem dX8_isStalePage_25 : decode cX8_isStalePage 25 = .ok (.invokevirtual 226, 3) := by decide +kernel
theorem dX8_isStalePage_28 : decode cX8_isStalePage 28 = .ok (.aload_n 0, 1) := by decide +kernel
theorem dX8_isStalePage_29 : decode cX8_isStalePage 29 = .ok (.getfield 47, 3) := by decide +kernel
theorem dX8_isStalePage_32 : decode cX8_isStalePage 32 = .ok (.getfield 229, 3) := by decide +kernel
theorem dX8_isStalePage_35 : decode cX8_isStalePage 35 = .ok (.ifCond .ne 45, 3) := by decide +kernel
theorem dX8_isStalePage_38 : decode cX8_isStalePage 38 = .ok (.aload_n 0, 1) := by decide +kernel
theorem dX8_isStalePage_39 : decode cX8_isStalePage 39 = .ok (.getfield 47, 3) := by decide +kernel
theorem dX8_isStalePage_42 : decode cX8_isStalePage 42 = .ok (.getfield 233, 3) := by decide +kernel
theorem dX8_isStalePage_45 : decode cX8_isStalePage 45 = .ok (.aload_n 1, 1) := by decide +kernel
theorem dX8_isStalePage_46 : decode cX8_isStalePage 46 = .ok (.getfield 353, 3) := by decide +kernel
theorem dX8_isStalePage_49 : decode cX8_isStalePage 49 = .ok (.if_icmp .ne 31, 3) := by decide +kernel
theorem dX8_isStalePage_52 : decode cX8_isStalePage 52 = .ok (.aload_n 0, 1) := by decide +kernel
theorem dX8_isStalePage_53 : decode cX8_isStalePage 53 = .ok (.getfield 47, 3) := by decide +kernel
theorem dX8_isStalePage_56 : decode cX8_isStalePage 56 = .ok (.getfield 419, 3) := by decide +kernel
theorem dX8_isStalePage_59 : decode cX8_isStalePage 59 = .ok (.aload_n 1, 1) := by decide +kernel
theorem dX8_isStalePage_60 : decode cX8_isStalePage 60 = .ok (.getfield 354, 3) := by decide +kernel
theorem dX8_isStalePage_63 : decode cX8_isStalePage 63 = .ok (.if_icmp .ne 17, 3) := by decide +kernel
theorem dX8_isStalePage_66 : decode cX8_isStalePage 66 = .ok (.aload_n 0, 1) := by decide +kernel
theorem dX8_isStalePage_67 : decode cX8_isStalePage 67 = .ok (.getfield 47, 3) := by decide +kernel
theorem dX8_isStalePage_70 : decode cX8_isStalePage 70 = .ok (.getfield 234, 3) := by decide +kernel
theorem dX8_isStalePage_73 : decode cX8_isStalePage 73 = .ok (.aload_n 1, 1) := by decide +kernel
theorem dX8_isStalePage_74 : decode cX8_isStalePage 74 = .ok (.getfield 357, 3) := by decide +kernel
theorem dX8_isStalePage_77 : decode cX8_isStalePage 77 = .ok (.if_icmp .eq 7, 3) := by decide +kernel
theorem dX8_isStalePage_80 : decode cX8_isStalePage 80 = .ok (.iconst 1, 1) := by decide +kernel
theorem dX8_isStalePage_81 : decode cX8_isStalePage 81 = .ok (.goto 4, 3) := by decide +kernel
theorem dX8_isStalePage_84 : decode cX8_isStalePage 84 = .ok (.iconst 0, 1) := by decide +kernel
theorem dX8_isStalePage_85 : decode cX8_isStalePage 85 = .ok (.ireturn, 1) := by decide +kernel
theorem dX8_isStaleUpper_0 : decode cX8_isStaleUpper 0 = .ok (.aload_n 0, 1) := by decide +kernel
theorem dX8_isStaleUpper_1 : decode cX8_isStaleUpper 1 = .ok (.getfield 19, 3) := by decide +kernel
theorem dX8_isStaleUpper_4 : decode cX8_isStaleUpper 4 = .ok (.aload_n 1, 1) := by decide +kernel
theorem dX8_isStaleUpper_5 : decode cX8_isStaleUpper 5 = .ok (.getfield 313, 3) := by decide +kernel
theorem dX8_isStaleUpper_8 : decode cX8_isStaleUpper 8 = .ok (.invokevirtual 413, 3) := by decide +kernel
theorem dX8_isStaleUpper_11 : decode cX8_isStaleUpper 11 = .ok (.istore_n 2, 1) := by decide +kernel
theorem dX8_isStaleUpper_12 : decode cX8_isStaleUpper 12 = .ok (.iload_n 2, 1) := by decide +kernel
theorem dX8_isStaleUpper_13 : decode cX8_isStaleUpper 13 = .ok (.iconst (-1), 1) := by decide +kernel
theorem dX8_isStaleUpper_14 : decode cX8_isStaleUpper 14 = .ok (.if_icmp .ne 5, 3) := by decide +kernel
theorem dX8_isStaleUpper_17 : decode cX8_isStaleUpper 17 = .ok (.iconst 1, 1) := by decide +kernel
theorem dX8_isStaleUpper_18 : decode cX8_isStaleUpper 18 = .ok (.ireturn, 1) := by decide +kernel
theorem dX8_isStaleUpper_19 : decode cX8_isStaleUpper 19 = .ok (.aload_n 0, 1) := by decide +kernel
theorem dX8_isStaleUpper_20 : decode cX8_isStaleUpper 20 = .ok (.iload_n 2, 1) := by decide +kernel
theorem dX8_isStaleUpper_21 : decode cX8_isStaleUpper 21 = .ok (.aload_n 1, 1) := by decide +kernel
theorem dX8_isStaleUpper_22 : decode cX8_isStaleUpper 22 = .ok (.getfield 416, 3) := by decide +kernel
theorem dX8_isStaleUpper_25 : decode cX8_isStaleUpper 25 = .ok (.invokevirtual 226, 3) := by decide +kernel
theorem dX8_isStaleUpper_28 : decode cX8_isStaleUpper 28 = .ok (.aload_n 0, 1) := by decide +kernel
theorem dX8_isStaleUpper_29 : decode cX8_isStaleUpper 29 = .ok (.getfield 47, 3) := by decide +kernel
theorem dX8_isStaleUpper_32 : decode cX8_isStaleUpper 32 = .ok (.getfield 237, 3) := by decide +kernel
theorem dX8_isStaleUpper_35 : decode cX8_isStaleUpper 35 = .ok (.aload_n 1, 1) := by decide +kernel
theorem dX8_isStaleUpper_36 : decode cX8_isStaleUpper 36 = .ok (.getfield 353, 3) := by decide +kernel
theorem dX8_isStaleUpper_39 : decode cX8_isStaleUpper 39 = .ok (.iaload, 1) := by decide +kernel
theorem dX8_isStaleUpper_40 : decode cX8_isStaleUpper 40 = .ok (.istore_n 3, 1) := by decide +kernel
theorem dX8_isStaleUpper_41 : decode cX8_isStaleUpper 41 = .ok (.iload_n 3, 1) := by decide +kernel
theorem dX8_isStaleUpper_42 : decode cX8_isStaleUpper 42 = .ok (.iconst (-1), 1) := by decide +kernel
theorem dX8_isStaleUpper_43 : decode cX8_isStaleUpper 43 = .ok (.if_icmp .eq 22, 3) := by decide +kernel
theorem dX8_isStaleUpper_46 : decode cX8_isStaleUpper 46 = .ok (.aload_n 0, 1) := by decide +kernel
theorem dX8_isStaleUpper_47 : decode cX8_isStaleUpper 47 = .ok (.getfield 47, 3) := by decide +kernel
theorem dX8_isStaleUpper_50 : decode cX8_isStaleUpper 50 = .ok (.getfield 407, 3) := by decide +kernel
theorem dX8_isStaleUpper_53 : decode cX8_isStaleUpper 53 = .ok (.aload_n 1, 1) := by decide +kernel
theorem dX8_isStaleUpper_54 : decode cX8_isStaleUpper 54 = .ok (.getfield 353, 3) := by decide +kernel
theorem dX8_isStaleUpper_57 : decode cX8_isStaleUpper 57 = .ok (.iaload, 1) := by decide +kernel
theorem dX8_isStaleUpper_58 : decode cX8_isStaleUpper 58 = .ok (.aload_n 1, 1) := by decide +kernel
theorem dX8_isStaleUpper_59 : decode cX8_isStaleUpper 59 = .ok (.getfield 357, 3) := by decide +kernel
theorem dX8_isStaleUpper_62 : decode cX8_isStaleUpper 62 = .ok (.if_icmp .eq 5, 3) := by decide +kernel
theorem dX8_isStaleUpper_65 : decode cX8_isStaleUpper 65 = .ok (.iconst 1, 1) := by decide +kernel
theorem dX8_isStaleUpper_66 : decode cX8_isStaleUpper 66 = .ok (.ireturn, 1) := by decide +kernel
theorem dX8_isStaleUpper_67 : decode cX8_isStaleUpper 67 = .ok (.aload_n 0, 1) := by decide +kernel
theorem dX8_isStaleUpper_68 : decode cX8_isStaleUpper 68 = .ok (.getfield 9, 3) := by decide +kernel
theorem dX8_isStaleUpper_71 : decode cX8_isStaleUpper 71 = .ok (.iload_n 3, 1) := by decide +kernel
theorem dX8_isStaleUpper_72 : decode cX8_isStaleUpper 72 = .ok (.iaload, 1) := by decide +kernel
theorem dX8_isStaleUpper_73 : decode cX8_isStaleUpper 73 = .ok (.invokestatic 92, 3) := by decide +kernel
theorem dX8_isStaleUpper_76 : decode cX8_isStaleUpper 76 = .ok (.iconst 1, 1) := by decide +kernel
theorem dX8_isStaleUpper_77 : decode cX8_isStaleUpper 77 = .ok (.if_icmp .ne 19, 3) := by decide +kernel
theorem dX8_isStaleUpper_80 : decode cX8_isStaleUpper 80 = .ok (.aload_n 0, 1) := by decide +kernel
theorem dX8_isStaleUpper_81 : decode cX8_isStaleUpper 81 = .ok (.getfield 9, 3) := by decide +kernel
theorem dX8_isStaleUpper_84 : decode cX8_isStaleUpper 84 = .ok (.iload_n 3, 1) := by decide +kernel
theorem dX8_isStaleUpper_85 : decode cX8_isStaleUpper 85 = .ok (.iaload, 1) := by decide +kernel
theorem dX8_isStaleUpper_86 : decode cX8_isStaleUpper 86 = .ok (.invokestatic 240, 3) := by decide +kernel
theorem dX8_isStaleUpper_89 : decode cX8_isStaleUpper 89 = .ok (.aload_n 1, 1) := by decide +kernel
theorem dX8_isStaleUpper_90 : decode cX8_isStaleUpper 90 = .ok (.getfield 354, 3) := by decide +kernel
theorem dX8_isStaleUpper_93 : decode cX8_isStaleUpper 93 = .ok (.if_icmp .eq 7, 3) := by decide +kernel
theorem dX8_isStaleUpper_96 : decode cX8_isStaleUpper 96 = .ok (.iconst 1, 1) := by decide +kernel
theorem dX8_isStaleUpper_97 : decode cX8_isStaleUpper 97 = .ok (.goto 4, 3) := by decide +kernel
theorem dX8_isStaleUpper_100 : decode cX8_isStaleUpper 100 = .ok (.iconst 0, 1) := by decide +kernel
theorem dX8_isStaleUpper_101 : decode cX8_isStaleUpper 101 = .ok (.ireturn, 1) := by decide +kernel
theorem dX8_gatherPermitted_0 : decode cX8_gatherPermitted 0 = .ok (.aload_n 0, 1) := by decide +kernel
theorem dX8_gatherPermitted_1 : decode cX8_gatherPermitted 1 = .ok (.getfield 68, 3) := by decide +kernel
theorem dX8_gatherPermitted_4 : decode cX8_gatherPermitted 4 = .ok (.invokevirtual 422, 3) := by decide +kernel
theorem dX8_gatherPermitted_7 : decode cX8_gatherPermitted 7 = .ok (.aload_n 0, 1) := by decide +kernel
theorem dX8_gatherPermitted_8 : decode cX8_gatherPermitted 8 = .ok (.getfield 61, 3) := by decide +kernel
theorem dX8_gatherPermitted_11 : decode cX8_gatherPermitted 11 = .ok (.iload_n 1, 1) := by decide +kernel
theorem dX8_gatherPermitted_12 : decode cX8_gatherPermitted 12 = .ok (.iload_n 2, 1) := by decide +kernel
theorem dX8_gatherPermitted_13 : decode cX8_gatherPermitted 13 = .ok (.invokevirtual 425, 3) := by decide +kernel
theorem dX8_gatherPermitted_16 : decode cX8_gatherPermitted 16 = .ok (.istore_n 3, 1) := by decide +kernel
theorem dX8_gatherPermitted_17 : decode cX8_gatherPermitted 17 = .ok (.aload_n 0, 1) := by decide +kernel
theorem dX8_gatherPermitted_18 : decode cX8_gatherPermitted 18 = .ok (.iload_n 2, 1) := by decide +kernel
theorem dX8_gatherPermitted_19 : decode cX8_gatherPermitted 19 = .ok (.aload_n 0, 1) := by decide +kernel
theorem dX8_gatherPermitted_20 : decode cX8_gatherPermitted 20 = .ok (.iload_n 1, 1) := by decide +kernel
theorem dX8_gatherPermitted_21 : decode cX8_gatherPermitted 21 = .ok (.iload_n 3, 1) := by decide +kernel
theorem dX8_gatherPermitted_22 : decode cX8_gatherPermitted 22 = .ok (.invokevirtual 428, 3) := by decide +kernel
theorem dX8_gatherPermitted_25 : decode cX8_gatherPermitted 25 = .ok (.iload_n 3, 1) := by decide +kernel
theorem dX8_gatherPermitted_26 : decode cX8_gatherPermitted 26 = .ok (.iconst 0, 1) := by decide +kernel
theorem dX8_gatherPermitted_27 : decode cX8_gatherPermitted 27 = .ok (.invokevirtual 431, 3) := by decide +kernel
theorem dX8_gatherPermitted_30 : decode cX8_gatherPermitted 30 = .ok (.iconst 0, 1) := by decide +kernel
theorem dX8_gatherPermitted_31 : decode cX8_gatherPermitted 31 = .ok (.istore 4, 2) := by decide +kernel
theorem dX8_gatherPermitted_33 : decode cX8_gatherPermitted 33 = .ok (.iconst 0, 1) := by decide +kernel
theorem dX8_gatherPermitted_34 : decode cX8_gatherPermitted 34 = .ok (.istore 5, 2) := by decide +kernel
theorem dX8_gatherPermitted_36 : decode cX8_gatherPermitted 36 = .ok (.iload 5, 2) := by decide +kernel
theorem dX8_gatherPermitted_38 : decode cX8_gatherPermitted 38 = .ok (.bipush 6, 2) := by decide +kernel
theorem dX8_gatherPermitted_40 : decode cX8_gatherPermitted 40 = .ok (.if_icmp .ge 27, 3) := by decide +kernel
theorem dX8_gatherPermitted_43 : decode cX8_gatherPermitted 43 = .ok (.iload 4, 2) := by decide +kernel
theorem dX8_gatherPermitted_45 : decode cX8_gatherPermitted 45 = .ok (.aload_n 0, 1) := by decide +kernel
theorem dX8_gatherPermitted_46 : decode cX8_gatherPermitted 46 = .ok (.iload 5, 2) := by decide +kernel
theorem dX8_gatherPermitted_48 : decode cX8_gatherPermitted 48 = .ok (.aload_n 0, 1) := by decide +kernel
theorem dX8_gatherPermitted_49 : decode cX8_gatherPermitted 49 = .ok (.getfield 61, 3) := by decide +kernel
theorem dX8_gatherPermitted_52 : decode cX8_gatherPermitted 52 = .ok (.getfield 220, 3) := by decide +kernel
theorem dX8_gatherPermitted_55 : decode cX8_gatherPermitted 55 = .ok (.invokevirtual 428, 3) := by decide +kernel
theorem dX8_gatherPermitted_58 : decode cX8_gatherPermitted 58 = .ok (.ior, 1) := by decide +kernel
theorem dX8_gatherPermitted_59 : decode cX8_gatherPermitted 59 = .ok (.istore 4, 2) := by decide +kernel
theorem dX8_gatherPermitted_61 : decode cX8_gatherPermitted 61 = .ok (.iinc 5 1, 3) := by decide +kernel
theorem dX8_gatherPermitted_64 : decode cX8_gatherPermitted 64 = .ok (.goto (-28), 3) := by decide +kernel
theorem dX8_gatherPermitted_67 : decode cX8_gatherPermitted 67 = .ok (.aload_n 0, 1) := by decide +kernel
theorem dX8_gatherPermitted_68 : decode cX8_gatherPermitted 68 = .ok (.iload_n 2, 1) := by decide +kernel
theorem dX8_gatherPermitted_69 : decode cX8_gatherPermitted 69 = .ok (.iload 4, 2) := by decide +kernel
theorem dX8_gatherPermitted_71 : decode cX8_gatherPermitted 71 = .ok (.aload_n 0, 1) := by decide +kernel
theorem dX8_gatherPermitted_72 : decode cX8_gatherPermitted 72 = .ok (.getfield 61, 3) := by decide +kernel
theorem dX8_gatherPermitted_75 : decode cX8_gatherPermitted 75 = .ok (.getfield 220, 3) := by decide +kernel
theorem dX8_gatherPermitted_78 : decode cX8_gatherPermitted 78 = .ok (.iconst 1, 1) := by decide +kernel
theorem dX8_gatherPermitted_79 : decode cX8_gatherPermitted 79 = .ok (.invokevirtual 431, 3) := by decide +kernel
theorem dX8_gatherPermitted_82 : decode cX8_gatherPermitted 82 = .ok (.return_, 1) := by decide +kernel
theorem dX8_rootsSince_0 : decode cX8_rootsSince 0 = .ok (.aload_n 0, 1) := by decide +kernel
theorem dX8_rootsSince_1 : decode cX8_rootsSince 1 = .ok (.getfield 19, 3) := by decide +kernel
theorem dX8_rootsSince_4 : decode cX8_rootsSince 4 = .ok (.getfield 100, 3) := by decide +kernel
theorem dX8_rootsSince_7 : decode cX8_rootsSince 7 = .ok (.iload_n 1, 1) := by decide +kernel
theorem dX8_rootsSince_8 : decode cX8_rootsSince 8 = .ok (.iaload, 1) := by decide +kernel
theorem dX8_rootsSince_9 : decode cX8_rootsSince 9 = .ok (.invokestatic 435, 3) := by decide +kernel
theorem dX8_rootsSince_12 : decode cX8_rootsSince 12 = .ok (.istore_n 3, 1) := by decide +kernel
theorem dX8_rootsSince_13 : decode cX8_rootsSince 13 = .ok (.aload_n 0, 1) := by decide +kernel
theorem dX8_rootsSince_14 : decode cX8_rootsSince 14 = .ok (.getfield 54, 3) := by decide +kernel
theorem dX8_rootsSince_17 : decode cX8_rootsSince 17 = .ok (.iload_n 2, 1) := by decide +kernel
theorem dX8_rootsSince_18 : decode cX8_rootsSince 18 = .ok (.invokevirtual 438, 3) := by decide +kernel
theorem dX8_rootsSince_21 : decode cX8_rootsSince 21 = .ok (.istore 4, 2) := by decide +kernel
theorem dX8_rootsSince_23 : decode cX8_rootsSince 23 = .ok (.iload 4, 2) := by decide +kernel
theorem dX8_rootsSince_25 : decode cX8_rootsSince 25 = .ok (.aload_n 0, 1) := by decide +kernel
theorem dX8_rootsSince_26 : decode cX8_rootsSince 26 = .ok (.getfield 54, 3) := by decide +kernel
theorem dX8_rootsSince_29 : decode cX8_rootsSince 29 = .ok (.getfield 200, 3) := by decide +kernel
theorem dX8_rootsSince_32 : decode cX8_rootsSince 32 = .ok (.if_icmp .ge 40, 3) := by decide +kernel
theorem dX8_rootsSince_35 : decode cX8_rootsSince 35 = .ok (.aload_n 0, 1) := by decide +kernel
theorem dX8_rootsSince_36 : decode cX8_rootsSince 36 = .ok (.getfield 54, 3) := by decide +kernel
theorem dX8_rootsSince_39 : decode cX8_rootsSince 39 = .ok (.iload 4, 2) := by decide +kernel
theorem dX8_rootsSince_41 : decode cX8_rootsSince 41 = .ok (.invokevirtual 441, 3) := by decide +kernel
theorem dX8_rootsSince_44 : decode cX8_rootsSince 44 = .ok (.iload_n 1, 1) := by decide +kernel
theorem dX8_rootsSince_45 : decode cX8_rootsSince 45 = .ok (.invokestatic 103, 3) := by decide +kernel
theorem dX8_rootsSince_48 : decode cX8_rootsSince 48 = .ok (.if_icmp .ne 18, 3) := by decide +kernel
theorem dX8_rootsSince_51 : decode cX8_rootsSince 51 = .ok (.iload_n 3, 1) := by decide +kernel
theorem dX8_rootsSince_52 : decode cX8_rootsSince 52 = .ok (.aload_n 0, 1) := by decide +kernel
theorem dX8_rootsSince_53 : decode cX8_rootsSince 53 = .ok (.getfield 54, 3) := by decide +kernel
theorem dX8_rootsSince_56 : decode cX8_rootsSince 56 = .ok (.iload 4, 2) := by decide +kernel
theorem dX8_rootsSince_58 : decode cX8_rootsSince 58 = .ok (.invokevirtual 444, 3) := by decide +kernel
theorem dX8_rootsSince_61 : decode cX8_rootsSince 61 = .ok (.invokestatic 435, 3) := by decide +kernel
theorem dX8_rootsSince_64 : decode cX8_rootsSince 64 = .ok (.ior, 1) := by decide +kernel
theorem dX8_rootsSince_65 : decode cX8_rootsSince 65 = .ok (.istore_n 3, 1) := by decide +kernel
theorem dX8_rootsSince_66 : decode cX8_rootsSince 66 = .ok (.iinc 4 1, 3) := by decide +kernel
theorem dX8_rootsSince_69 : decode cX8_rootsSince 69 = .ok (.goto (-46), 3) := by decide +kernel
theorem dX8_rootsSince_72 : decode cX8_rootsSince 72 = .ok (.iload_n 3, 1) := by decide +kernel
theorem dX8_rootsSince_73 : decode cX8_rootsSince 73 = .ok (.ireturn, 1) := by decide +kernel
theorem dX8_bitOf_0 : decode cX8_bitOf 0 = .ok (.iload_n 0, 1) := by decide +kernel
theorem dX8_bitOf_1 : decode cX8_bitOf 1 = .ok (.iconst (-1), 1) := by decide +kernel
theorem dX8_bitOf_2 : decode cX8_bitOf 2 = .ok (.if_icmp .ne 7, 3) := by decide +kernel
theorem dX8_bitOf_5 : decode cX8_bitOf 5 = .ok (.iconst 0, 1) := by decide +kernel
theorem dX8_bitOf_6 : decode cX8_bitOf 6 = .ok (.goto 6, 3) := by decide +kernel
theorem dX8_bitOf_9 : decode cX8_bitOf 9 = .ok (.iconst 1, 1) := by decide +kernel
theorem dX8_bitOf_10 : decode cX8_bitOf 10 = .ok (.iload_n 0, 1) := by decide +kernel
theorem dX8_bitOf_11 : decode cX8_bitOf 11 = .ok (.ishl, 1) := by decide +kernel
theorem dX8_bitOf_12 : decode cX8_bitOf 12 = .ok (.ireturn, 1) := by decide +kernel
theorem dX8_gatherFrames_0 : decode cX8_gatherFrames 0 = .ok (.iload_n 2, 1) := by decide +kernel
theorem dX8_gatherFrames_1 : decode cX8_gatherFrames 1 = .ok (.istore 5, 2) := by decide +kernel
theorem dX8_gatherFrames_3 : decode cX8_gatherFrames 3 = .ok (.iconst 2, 1) := by decide +kernel
theorem dX8_gatherFrames_4 : decode cX8_gatherFrames 4 = .ok (.istore 6, 2) := by decide +kernel
theorem dX8_gatherFrames_6 : decode cX8_gatherFrames 6 = .ok (.iload 6, 2) := by decide +kernel
theorem dX8_gatherFrames_8 : decode cX8_gatherFrames 8 = .ok (.ifCond .lt 72, 3) := by decide +kernel
theorem dX8_gatherFrames_11 : decode cX8_gatherFrames 11 = .ok (.iconst 0, 1) := by decide +kernel
theorem dX8_gatherFrames_12 : decode cX8_gatherFrames 12 = .ok (.istore 7, 2) := by decide +kernel
theorem dX8_gatherFrames_14 : decode cX8_gatherFrames 14 = .ok (.iconst 0, 1) := by decide +kernel
theorem dX8_gatherFrames_15 : decode cX8_gatherFrames 15 = .ok (.istore 8, 2) := by decide +kernel
theorem dX8_gatherFrames_17 : decode cX8_gatherFrames 17 = .ok (.iload 8, 2) := by decide +kernel
theorem dX8_gatherFrames_19 : decode cX8_gatherFrames 19 = .ok (.bipush 12, 2) := by decide +kernel
theorem dX8_gatherFrames_21 : decode cX8_gatherFrames 21 = .ok (.if_icmp .ge 49, 3) := by decide +kernel
theorem dX8_gatherFrames_24 : decode cX8_gatherFrames 24 = .ok (.iload 5, 2) := by decide +kernel
theorem dX8_gatherFrames_26 : decode cX8_gatherFrames 26 = .ok (.iload 8, 2) := by decide +kernel
theorem dX8_gatherFrames_28 : decode cX8_gatherFrames 28 = .ok (.invokestatic 435, 3) := by decide +kernel
theorem dX8_gatherFrames_31 : decode cX8_gatherFrames 31 = .ok (.iand, 1) := by decide +kernel
theorem dX8_gatherFrames_32 : decode cX8_gatherFrames 32 = .ok (.ifCond .eq 32, 3) := by decide +kernel
theorem dX8_gatherFrames_35 : decode cX8_gatherFrames 35 = .ok (.iload 7, 2) := by decide +kernel
theorem dX8_gatherFrames_37 : decode cX8_gatherFrames 37 = .ok (.aload_n 0, 1) := by decide +kernel
theorem dX8_gatherFrames_38 : decode cX8_gatherFrames 38 = .ok (.iload 8, 2) := by decide +kernel
theorem dX8_gatherFrames_40 : decode cX8_gatherFrames 40 = .ok (.iload_n 1, 1) := by decide +kernel
theorem dX8_gatherFrames_41 : decode cX8_gatherFrames 41 = .ok (.iload 6, 2) := by decide +kernel
theorem dX8_gatherFrames_43 : decode cX8_gatherFrames 43 = .ok (.invokestatic 374, 3) := by decide +kernel
theorem dX8_gatherFrames_46 : decode cX8_gatherFrames 46 = .ok (.invokestatic 80, 3) := by decide +kernel
theorem dX8_gatherFrames_49 : decode cX8_gatherFrames 49 = .ok (.iload_n 1, 1) := by decide +kernel
theorem dX8_gatherFrames_50 : decode cX8_gatherFrames 50 = .ok (.iload 6, 2) := by decide +kernel
theorem dX8_gatherFrames_52 : decode cX8_gatherFrames 52 = .ok (.invokestatic 306, 3) := by decide +kernel
theorem dX8_gatherFrames_55 : decode cX8_gatherFrames 55 = .ok (.iload_n 3, 1) := by decide +kernel
theorem dX8_gatherFrames_56 : decode cX8_gatherFrames 56 = .ok (.iload 4, 2) := by decide +kernel
theorem dX8_gatherFrames_58 : decode cX8_gatherFrames 58 = .ok (.invokevirtual 447, 3) := by decide +kernel
theorem dX8_gatherFrames_61 : decode cX8_gatherFrames 61 = .ok (.ior, 1) := by decide +kernel
theorem dX8_gatherFrames_62 : decode cX8_gatherFrames 62 = .ok (.istore 7, 2) := by decide +kernel
theorem dX8_gatherFrames_64 : decode cX8_gatherFrames 64 = .ok (.iinc 8 1, 3) := by decide +kernel
theorem dX8_gatherFrames_67 : decode cX8_gatherFrames 67 = .ok (.goto (-50), 3) := by decide +kernel
theorem dX8_gatherFrames_70 : decode cX8_gatherFrames 70 = .ok (.iload 7, 2) := by decide +kernel
theorem dX8_gatherFrames_72 : decode cX8_gatherFrames 72 = .ok (.istore 5, 2) := by decide +kernel
theorem dX8_gatherFrames_74 : decode cX8_gatherFrames 74 = .ok (.iinc 6 (-1), 3) := by decide +kernel
theorem dX8_gatherFrames_77 : decode cX8_gatherFrames 77 = .ok (.goto (-71), 3) := by decide +kernel
theorem dX8_gatherFrames_80 : decode cX8_gatherFrames 80 = .ok (.return_, 1) := by decide +kernel
theorem dX8_gatherCell_0 : decode cX8_gatherCell 0 = .ok (.aload_n 0, 1) := by decide +kernel
theorem dX8_gatherCell_1 : decode cX8_gatherCell 1 = .ok (.aload_n 0, 1) := by decide +kernel
theorem dX8_gatherCell_2 : decode cX8_gatherCell 2 = .ok (.getfield 9, 3) := by decide +kernel
theorem dX8_gatherCell_5 : decode cX8_gatherCell 5 = .ok (.iload_n 1, 1) := by decide +kernel
theorem dX8_gatherCell_6 : decode cX8_gatherCell 6 = .ok (.iaload, 1) := by decide +kernel
theorem dX8_gatherCell_7 : decode cX8_gatherCell 7 = .ok (.iload_n 2, 1) := by decide +kernel
theorem dX8_gatherCell_8 : decode cX8_gatherCell 8 = .ok (.iload 4, 2) := by decide +kernel
theorem dX8_gatherCell_10 : decode cX8_gatherCell 10 = .ok (.invokevirtual 451, 3) := by decide +kernel
theorem dX8_gatherCell_13 : decode cX8_gatherCell 13 = .ok (.istore 5, 2) := by decide +kernel
theorem dX8_gatherCell_15 : decode cX8_gatherCell 15 = .ok (.aload_n 0, 1) := by decide +kernel
theorem dX8_gatherCell_16 : decode cX8_gatherCell 16 = .ok (.getfield 54, 3) := by decide +kernel
theorem dX8_gatherCell_19 : decode cX8_gatherCell 19 = .ok (.iload_n 3, 1) := by decide +kernel
theorem dX8_gatherCell_20 : decode cX8_gatherCell 20 = .ok (.invokevirtual 438, 3) := by decide +kernel
theorem dX8_gatherCell_23 : decode cX8_gatherCell 23 = .ok (.istore 6, 2) := by decide +kernel
theorem dX8_gatherCell_25 : decode cX8_gatherCell 25 = .ok (.iload 6, 2) := by decide +kernel
theorem dX8_gatherCell_27 : decode cX8_gatherCell 27 = .ok (.aload_n 0, 1) := by decide +kernel
theorem dX8_gatherCell_28 : decode cX8_gatherCell 28 = .ok (.getfield 54, 3) := by decide +kernel
theorem dX8_gatherCell_31 : decode cX8_gatherCell 31 = .ok (.getfield 200, 3) := by decide +kernel
theorem dX8_gatherCell_34 : decode cX8_gatherCell 34 = .ok (.if_icmp .ge 43, 3) := by decide +kernel
theorem dX8_gatherCell_37 : decode cX8_gatherCell 37 = .ok (.aload_n 0, 1) := by decide +kernel
theorem dX8_gatherCell_38 : decode cX8_gatherCell 38 = .ok (.getfield 54, 3) := by decide +kernel
theorem dX8_gatherCell_41 : decode cX8_gatherCell 41 = .ok (.iload 6, 2) := by decide +kernel
theorem dX8_gatherCell_43 : decode cX8_gatherCell 43 = .ok (.invokevirtual 441, 3) := by decide +kernel
theorem dX8_gatherCell_46 : decode cX8_gatherCell 46 = .ok (.iload_n 1, 1) := by decide +kernel
theorem dX8_gatherCell_47 : decode cX8_gatherCell 47 = .ok (.if_icmp .ne 24, 3) := by decide +kernel
theorem dX8_gatherCell_50 : decode cX8_gatherCell 50 = .ok (.iload 5, 2) := by decide +kernel
theorem dX8_gatherCell_52 : decode cX8_gatherCell 52 = .ok (.aload_n 0, 1) := by decide +kernel
theorem dX8_gatherCell_53 : decode cX8_gatherCell 53 = .ok (.aload_n 0, 1) := by decide +kernel
theorem dX8_gatherCell_54 : decode cX8_gatherCell 54 = .ok (.getfield 54, 3) := by decide +kernel
theorem dX8_gatherCell_57 : decode cX8_gatherCell 57 = .ok (.iload 6, 2) := by decide +kernel
theorem dX8_gatherCell_59 : decode cX8_gatherCell 59 = .ok (.invokevirtual 444, 3) := by decide +kernel
theorem dX8_gatherCell_62 : decode cX8_gatherCell 62 = .ok (.iload_n 2, 1) := by decide +kernel
theorem dX8_gatherCell_63 : decode cX8_gatherCell 63 = .ok (.iload 4, 2) := by decide +kernel
theorem dX8_gatherCell_65 : decode cX8_gatherCell 65 = .ok (.invokevirtual 451, 3) := by decide +kernel
theorem dX8_gatherCell_68 : decode cX8_gatherCell 68 = .ok (.ior, 1) := by decide +kernel
theorem dX8_gatherCell_69 : decode cX8_gatherCell 69 = .ok (.istore 5, 2) := by decide +kernel
theorem dX8_gatherCell_71 : decode cX8_gatherCell 71 = .ok (.iinc 6 1, 3) := by decide +kernel
theorem dX8_gatherCell_74 : decode cX8_gatherCell 74 = .ok (.goto (-49), 3) := by decide +kernel
theorem dX8_gatherCell_77 : decode cX8_gatherCell 77 = .ok (.iload 5, 2) := by decide +kernel
theorem dX8_gatherCell_79 : decode cX8_gatherCell 79 = .ok (.ireturn, 1) := by decide +kernel
theorem dX8_gatherCode_0 : decode cX8_gatherCode 0 = .ok (.iload_n 1, 1) := by decide +kernel
theorem dX8_gatherCode_1 : decode cX8_gatherCode 1 = .ok (.invokestatic 92, 3) := by decide +kernel
theorem dX8_gatherCode_4 : decode cX8_gatherCode 4 = .ok (.iconst 1, 1) := by decide +kernel
theorem dX8_gatherCode_5 : decode cX8_gatherCode 5 = .ok (.if_icmp .ne 11, 3) := by decide +kernel
theorem dX8_gatherCode_8 : decode cX8_gatherCode 8 = .ok (.iload_n 1, 1) := by decide +kernel
theorem dX8_gatherCode_9 : decode cX8_gatherCode 9 = .ok (.invokestatic 240, 3) := by decide +kernel
theorem dX8_gatherCode_12 : decode cX8_gatherCode 12 = .ok (.invokestatic 435, 3) := by decide +kernel
theorem dX8_gatherCode_15 : decode cX8_gatherCode 15 = .ok (.ireturn, 1) := by decide +kernel
theorem dX8_gatherCode_16 : decode cX8_gatherCode 16 = .ok (.iload_n 1, 1) := by decide +kernel
theorem dX8_gatherCode_17 : decode cX8_gatherCode 17 = .ok (.invokestatic 92, 3) := by decide +kernel
theorem dX8_gatherCode_20 : decode cX8_gatherCode 20 = .ok (.iconst 2, 1) := by decide +kernel
theorem dX8_gatherCode_21 : decode cX8_gatherCode 21 = .ok (.if_icmp .ne 30, 3) := by decide +kernel
theorem dX8_gatherCode_24 : decode cX8_gatherCode 24 = .ok (.iload_n 3, 1) := by decide +kernel
theorem dX8_gatherCode_25 : decode cX8_gatherCode 25 = .ok (.ifCond .eq 13, 3) := by decide +kernel
theorem dX8_gatherCode_28 : decode cX8_gatherCode 28 = .ok (.iload_n 1, 1) := by decide +kernel
theorem dX8_gatherCode_29 : decode cX8_gatherCode 29 = .ok (.invokestatic 243, 3) := by decide +kernel
theorem dX8_gatherCode_32 : decode cX8_gatherCode 32 = .ok (.bipush 8, 2) := by decide +kernel
theorem dX8_gatherCode_34 : decode cX8_gatherCode 34 = .ok (.iand, 1) := by decide +kernel
theorem dX8_gatherCode_35 : decode cX8_gatherCode 35 = .ok (.ifCond .eq 16, 3) := by decide +kernel
theorem dX8_gatherCode_38 : decode cX8_gatherCode 38 = .ok (.aload_n 0, 1) := by decide +kernel
theorem dX8_gatherCode_39 : decode cX8_gatherCode 39 = .ok (.getfield 68, 3) := by decide +kernel
theorem dX8_gatherCode_42 : decode cX8_gatherCode 42 = .ok (.iload_n 1, 1) := by decide +kernel
theorem dX8_gatherCode_43 : decode cX8_gatherCode 43 = .ok (.invokestatic 240, 3) := by decide +kernel
theorem dX8_gatherCode_46 : decode cX8_gatherCode 46 = .ok (.iload_n 2, 1) := by decide +kernel
theorem dX8_gatherCode_47 : decode cX8_gatherCode 47 = .ok (.iadd, 1) := by decide +kernel
theorem dX8_gatherCode_48 : decode cX8_gatherCode 48 = .ok (.invokevirtual 455, 3) := by decide +kernel
theorem dX8_gatherCode_51 : decode cX8_gatherCode 51 = .ok (.iconst 0, 1) := by decide +kernel
theorem dX8_gatherCode_52 : decode cX8_gatherCode 52 = .ok (.ireturn, 1) := by decide +kernel
theorem dX8_stalePages_0 : decode cX8_stalePages 0 = .ok (.iconst 0, 1) := by decide +kernel
theorem dX8_stalePages_1 : decode cX8_stalePages 1 = .ok (.istore_n 1, 1) := by decide +kernel
theorem dX8_stalePages_2 : decode cX8_stalePages 2 = .ok (.iconst 0, 1) := by decide +kernel
theorem dX8_stalePages_3 : decode cX8_stalePages 3 = .ok (.istore_n 2, 1) := by decide +kernel
theorem dX8_stalePages_4 : decode cX8_stalePages 4 = .ok (.iload_n 2, 1) := by decide +kernel
theorem dX8_stalePages_5 : decode cX8_stalePages 5 = .ok (.bipush 6, 2) := by decide +kernel
theorem dX8_stalePages_7 : decode cX8_stalePages 7 = .ok (.if_icmp .ge 43, 3) := by decide +kernel
theorem dX8_stalePages_10 : decode cX8_stalePages 10 = .ok (.aload_n 0, 1) := by decide +kernel
theorem dX8_stalePages_11 : decode cX8_stalePages 11 = .ok (.getfield 26, 3) := by decide +kernel
theorem dX8_stalePages_14 : decode cX8_stalePages 14 = .ok (.getfield 321, 3) := by decide +kernel
theorem dX8_stalePages_17 : decode cX8_stalePages 17 = .ok (.iload_n 2, 1) := by decide +kernel
theorem dX8_stalePages_18 : decode cX8_stalePages 18 = .ok (.aaload, 1) := by decide +kernel
theorem dX8_stalePages_19 : decode cX8_stalePages 19 = .ok (.getfield 335, 3) := by decide +kernel
theorem dX8_stalePages_22 : decode cX8_stalePages 22 = .ok (.ifCond .eq 22, 3) := by decide +kernel
theorem dX8_stalePages_25 : decode cX8_stalePages 25 = .ok (.aload_n 0, 1) := by decide +kernel
theorem dX8_stalePages_26 : decode cX8_stalePages 26 = .ok (.aload_n 0, 1) := by decide +kernel
theorem dX8_stalePages_27 : decode cX8_stalePages 27 = .ok (.getfield 26, 3) := by decide +kernel
theorem dX8_stalePages_30 : decode cX8_stalePages 30 = .ok (.getfield 321, 3) := by decide +kernel
theorem dX8_stalePages_33 : decode cX8_stalePages 33 = .ok (.iload_n 2, 1) := by decide +kernel
theorem dX8_stalePages_34 : decode cX8_stalePages 34 = .ok (.aaload, 1) := by decide +kernel
theorem dX8_stalePages_35 : decode cX8_stalePages 35 = .ok (.invokevirtual 260, 3) := by decide +kernel
theorem dX8_stalePages_38 : decode cX8_stalePages 38 = .ok (.ifCond .eq 6, 3) := by decide +kernel
theorem dX8_stalePages_41 : decode cX8_stalePages 41 = .ok (.iinc 1 1, 3) := by decide +kernel
theorem dX8_stalePages_44 : decode cX8_stalePages 44 = .ok (.iinc 2 1, 3) := by decide +kernel
theorem dX8_stalePages_47 : decode cX8_stalePages 47 = .ok (.goto (-43), 3) := by decide +kernel
theorem dX8_stalePages_50 : decode cX8_stalePages 50 = .ok (.iload_n 1, 1) := by decide +kernel
theorem dX8_stalePages_51 : decode cX8_stalePages 51 = .ok (.ireturn, 1) := by decide +kernel
theorem dX8_staleUppers_0 : decode cX8_staleUppers 0 = .ok (.iconst 0, 1) := by decide +kernel
theorem dX8_staleUppers_1 : decode cX8_staleUppers 1 = .ok (.istore_n 1, 1) := by decide +kernel
theorem dX8_staleUppers_2 : decode cX8_staleUppers 2 = .ok (.iconst 0, 1) := by decide +kernel
theorem dX8_staleUppers_3 : decode cX8_staleUppers 3 = .ok (.istore_n 2, 1) := by decide +kernel
theorem dX8_staleUppers_4 : decode cX8_staleUppers 4 = .ok (.iload_n 2, 1) := by decide +kernel
theorem dX8_staleUppers_5 : decode cX8_staleUppers 5 = .ok (.bipush 6, 2) := by decide +kernel
theorem dX8_staleUppers_7 : decode cX8_staleUppers 7 = .ok (.if_icmp .ge 43, 3) := by decide +kernel
theorem dX8_staleUppers_10 : decode cX8_staleUppers 10 = .ok (.aload_n 0, 1) := by decide +kernel
theorem dX8_staleUppers_11 : decode cX8_staleUppers 11 = .ok (.getfield 30, 3) := by decide +kernel
theorem dX8_staleUppers_14 : decode cX8_staleUppers 14 = .ok (.getfield 321, 3) := by decide +kernel
theorem dX8_staleUppers_17 : decode cX8_staleUppers 17 = .ok (.iload_n 2, 1) := by decide +kernel
theorem dX8_staleUppers_18 : decode cX8_staleUppers 18 = .ok (.aaload, 1) := by decide +kernel
theorem dX8_staleUppers_19 : decode cX8_staleUppers 19 = .ok (.getfield 335, 3) := by decide +kernel
theorem dX8_staleUppers_22 : decode cX8_staleUppers 22 = .ok (.ifCond .eq 22, 3) := by decide +kernel
theorem dX8_staleUppers_25 : decode cX8_staleUppers 25 = .ok (.aload_n 0, 1) := by decide +kernel
theorem dX8_staleUppers_26 : decode cX8_staleUppers 26 = .ok (.aload_n 0, 1) := by decide +kernel
theorem dX8_staleUppers_27 : decode cX8_staleUppers 27 = .ok (.getfield 30, 3) := by decide +kernel
theorem dX8_staleUppers_30 : decode cX8_staleUppers 30 = .ok (.getfield 321, 3) := by decide +kernel
theorem dX8_staleUppers_33 : decode cX8_staleUppers 33 = .ok (.iload_n 2, 1) := by decide +kernel
theorem dX8_staleUppers_34 : decode cX8_staleUppers 34 = .ok (.aaload, 1) := by decide +kernel
theorem dX8_staleUppers_35 : decode cX8_staleUppers 35 = .ok (.invokevirtual 267, 3) := by decide +kernel
theorem dX8_staleUppers_38 : decode cX8_staleUppers 38 = .ok (.ifCond .eq 6, 3) := by decide +kernel
theorem dX8_staleUppers_41 : decode cX8_staleUppers 41 = .ok (.iinc 1 1, 3) := by decide +kernel
theorem dX8_staleUppers_44 : decode cX8_staleUppers 44 = .ok (.iinc 2 1, 3) := by decide +kernel
theorem dX8_staleUppers_47 : decode cX8_staleUppers 47 = .ok (.goto (-43), 3) := by decide +kernel
theorem dX8_staleUppers_50 : decode cX8_staleUppers 50 = .ok (.iload_n 1, 1) := by decide +kernel
theorem dX8_staleUppers_51 : decode cX8_staleUppers 51 = .ok (.ireturn, 1) := by decide +kernel
theorem dX8_entriesMarked_0 : decode cX8_entriesMarked 0 = .ok (.iconst 0, 1) := by decide +kernel
theorem dX8_entriesMarked_1 : decode cX8_entriesMarked 1 = .ok (.istore_n 2, 1) := by decide +kernel
theorem dX8_entriesMarked_2 : decode cX8_entriesMarked 2 = .ok (.iconst 0, 1) := by decide +kernel
theorem dX8_entriesMarked_3 : decode cX8_entriesMarked 3 = .ok (.istore_n 3, 1) := by decide +kernel
theorem dX8_entriesMarked_4 : decode cX8_entriesMarked 4 = .ok (.iload_n 3, 1) := by decide +kernel
theorem dX8_entriesMarked_5 : decode cX8_entriesMarked 5 = .ok (.bipush 96, 2) := by decide +kernel
theorem dX8_entriesMarked_7 : decode cX8_entriesMarked 7 = .ok (.if_icmp .ge 23, 3) := by decide +kernel
theorem dX8_entriesMarked_10 : decode cX8_entriesMarked 10 = .ok (.aload_n 0, 1) := by decide +kernel
theorem dX8_entriesMarked_11 : decode cX8_entriesMarked 11 = .ok (.getfield 13, 3) := by decide +kernel
theorem dX8_entriesMarked_14 : decode cX8_entriesMarked 14 = .ok (.iload_n 3, 1) := by decide +kernel
theorem dX8_entriesMarked_15 : decode cX8_entriesMarked 15 = .ok (.iaload, 1) := by decide +kernel
theorem dX8_entriesMarked_16 : decode cX8_entriesMarked 16 = .ok (.iload_n 1, 1) := by decide +kernel
theorem dX8_entriesMarked_17 : decode cX8_entriesMarked 17 = .ok (.iand, 1) := by decide +kernel
theorem dX8_entriesMarked_18 : decode cX8_entriesMarked 18 = .ok (.ifCond .eq 6, 3) := by decide +kernel
theorem dX8_entriesMarked_21 : decode cX8_entriesMarked 21 = .ok (.iinc 2 1, 3) := by decide +kernel
theorem dX8_entriesMarked_24 : decode cX8_entriesMarked 24 = .ok (.iinc 3 1, 3) := by decide +kernel
theorem dX8_entriesMarked_27 : decode cX8_entriesMarked 27 = .ok (.goto (-23), 3) := by decide +kernel
theorem dX8_entriesMarked_30 : decode cX8_entriesMarked 30 = .ok (.iload_n 2, 1) := by decide +kernel
theorem dX8_entriesMarked_31 : decode cX8_entriesMarked 31 = .ok (.ireturn, 1) := by decide +kernel
theorem dX8_walkersGoing_0 : decode cX8_walkersGoing 0 = .ok (.iconst 0, 1) := by decide +kernel
theorem dX8_walkersGoing_1 : decode cX8_walkersGoing 1 = .ok (.istore_n 1, 1) := by decide +kernel
theorem dX8_walkersGoing_2 : decode cX8_walkersGoing 2 = .ok (.iconst 0, 1) := by decide +kernel
theorem dX8_walkersGoing_3 : decode cX8_walkersGoing 3 = .ok (.istore_n 2, 1) := by decide +kernel
theorem dX8_walkersGoing_4 : decode cX8_walkersGoing 4 = .ok (.iload_n 2, 1) := by decide +kernel
theorem dX8_walkersGoing_5 : decode cX8_walkersGoing 5 = .ok (.iconst 4, 1) := by decide +kernel
theorem dX8_walkersGoing_6 : decode cX8_walkersGoing 6 = .ok (.if_icmp .ge 25, 3) := by decide +kernel
theorem dX8_walkersGoing_9 : decode cX8_walkersGoing 9 = .ok (.aload_n 0, 1) := by decide +kernel
theorem dX8_walkersGoing_10 : decode cX8_walkersGoing 10 = .ok (.getfield 35, 3) := by decide +kernel
theorem dX8_walkersGoing_13 : decode cX8_walkersGoing 13 = .ok (.iload_n 2, 1) := by decide +kernel
theorem dX8_walkersGoing_14 : decode cX8_walkersGoing 14 = .ok (.aaload, 1) := by decide +kernel
theorem dX8_walkersGoing_15 : decode cX8_walkersGoing 15 = .ok (.getfield 164, 3) := by decide +kernel
theorem dX8_walkersGoing_18 : decode cX8_walkersGoing 18 = .ok (.iconst 1, 1) := by decide +kernel
theorem dX8_walkersGoing_19 : decode cX8_walkersGoing 19 = .ok (.if_icmp .ne 6, 3) := by decide +kernel
theorem dX8_walkersGoing_22 : decode cX8_walkersGoing 22 = .ok (.iinc 1 1, 3) := by decide +kernel
theorem dX8_walkersGoing_25 : decode cX8_walkersGoing 25 = .ok (.iinc 2 1, 3) := by decide +kernel
theorem dX8_walkersGoing_28 : decode cX8_walkersGoing 28 = .ok (.goto (-24), 3) := by decide +kernel
theorem dX8_walkersGoing_31 : decode cX8_walkersGoing 31 = .ok (.iload_n 1, 1) := by decide +kernel
theorem dX8_walkersGoing_32 : decode cX8_walkersGoing 32 = .ok (.ireturn, 1) := by decide +kernel
theorem dX9_thrown_0 : decode cX9_thrown 0 = .ok (.aload_n 0, 1) := by decide +kernel
theorem dX9_thrown_1 : decode cX9_thrown 1 = .ok (.getfield 1, 3) := by decide +kernel
theorem dX9_thrown_4 : decode cX9_thrown 4 = .ok (.ireturn, 1) := by decide +kernel
theorem dX9_init_0 : decode cX9_init 0 = .ok (.aload_n 0, 1) := by decide +kernel
theorem dX9_init_1 : decode cX9_init 1 = .ok (.invokespecial 7, 3) := by decide +kernel
theorem dX9_init_4 : decode cX9_init 4 = .ok (.aload_n 0, 1) := by decide +kernel
theorem dX9_init_5 : decode cX9_init 5 = .ok (.sipush 345, 3) := by decide +kernel
theorem dX9_init_8 : decode cX9_init 8 = .ok (.newarray .int, 2) := by decide +kernel
theorem dX9_init_10 : decode cX9_init 10 = .ok (.putfield 13, 3) := by decide +kernel
theorem dX9_init_13 : decode cX9_init 13 = .ok (.aload_n 0, 1) := by decide +kernel
theorem dX9_init_14 : decode cX9_init 14 = .ok (.sipush 345, 3) := by decide +kernel
theorem dX9_init_17 : decode cX9_init 17 = .ok (.newarray .int, 2) := by decide +kernel
theorem dX9_init_19 : decode cX9_init 19 = .ok (.putfield 17, 3) := by decide +kernel
theorem dX9_init_22 : decode cX9_init 22 = .ok (.aload_n 0, 1) := by decide +kernel
theorem dX9_init_23 : decode cX9_init 23 = .ok (.bipush 40, 2) := by decide +kernel
theorem dX9_init_25 : decode cX9_init 25 = .ok (.newarray .int, 2) := by decide +kernel
theorem dX9_init_27 : decode cX9_init 27 = .ok (.putfield 20, 3) := by decide +kernel
theorem dX9_init_30 : decode cX9_init 30 = .ok (.aload_n 0, 1) := by decide +kernel
theorem dX9_init_31 : decode cX9_init 31 = .ok (.bipush 40, 2) := by decide +kernel
theorem dX9_init_33 : decode cX9_init 33 = .ok (.newarray .int, 2) := by decide +kernel
theorem dX9_init_35 : decode cX9_init 35 = .ok (.putfield 23, 3) := by decide +kernel
theorem dX9_init_38 : decode cX9_init 38 = .ok (.aload_n 0, 1) := by decide +kernel
theorem dX9_init_39 : decode cX9_init 39 = .ok (.bipush 40, 2) := by decide +kernel
theorem dX9_init_41 : decode cX9_init 41 = .ok (.newarray .int, 2) := by decide +kernel
theorem dX9_init_43 : decode cX9_init 43 = .ok (.putfield 26, 3) := by decide +kernel
theorem dX9_init_46 : decode cX9_init 46 = .ok (.aload_n 0, 1) := by decide +kernel
theorem dX9_init_47 : decode cX9_init 47 = .ok (.bipush 6, 2) := by decide +kernel
theorem dX9_init_49 : decode cX9_init 49 = .ok (.newarray .int, 2) := by decide +kernel
theorem dX9_init_51 : decode cX9_init 51 = .ok (.putfield 29, 3) := by decide +kernel
theorem dX9_init_54 : decode cX9_init 54 = .ok (.aload_n 0, 1) := by decide +kernel
theorem dX9_init_55 : decode cX9_init 55 = .ok (.sipush 3072, 3) := by decide +kernel
theorem dX9_init_58 : decode cX9_init 58 = .ok (.newarray .int, 2) := by decide +kernel
theorem dX9_init_60 : decode cX9_init 60 = .ok (.putfield 32, 3) := by decide +kernel
theorem dX9_init_63 : decode cX9_init 63 = .ok (.aload_n 0, 1) := by decide +kernel
theorem dX9_init_64 : decode cX9_init 64 = .ok (.bipush 41, 2) := by decide +kernel
theorem dX9_init_66 : decode cX9_init 66 = .ok (.newarray .int, 2) := by decide +kernel
theorem dX9_init_68 : decode cX9_init 68 = .ok (.putfield 35, 3) := by decide +kernel
theorem dX9_init_71 : decode cX9_init 71 = .ok (.aload_n 0, 1) := by decide +kernel
theorem dX9_init_72 : decode cX9_init 72 = .ok (.bipush 41, 2) := by decide +kernel
theorem dX9_init_74 : decode cX9_init 74 = .ok (.newarray .int, 2) := by decide +kernel
theorem dX9_init_76 : decode cX9_init 76 = .ok (.putfield 38, 3) := by decide +kernel
theorem dX9_init_79 : decode cX9_init 79 = .ok (.aload_n 0, 1) := by decide +kernel
theorem dX9_init_80 : decode cX9_init 80 = .ok (.bipush 41, 2) := by decide +kernel
theorem dX9_init_82 : decode cX9_init 82 = .ok (.newarray .int, 2) := by decide +kernel
theorem dX9_init_84 : decode cX9_init 84 = .ok (.putfield 41, 3) := by decide +kernel
theorem dX9_init_87 : decode cX9_init 87 = .ok (.aload_n 0, 1) := by decide +kernel
theorem dX9_init_88 : decode cX9_init 88 = .ok (.bipush 41, 2) := by decide +kernel
theorem dX9_init_90 : decode cX9_init 90 = .ok (.newarray .int, 2) := by decide +kernel
theorem dX9_init_92 : decode cX9_init 92 = .ok (.putfield 44, 3) := by decide +kernel
theorem dX9_init_95 : decode cX9_init 95 = .ok (.aload_n 0, 1) := by decide +kernel
theorem dX9_init_96 : decode cX9_init 96 = .ok (.sipush 1100, 3) := by decide +kernel
theorem dX9_init_99 : decode cX9_init 99 = .ok (.newarray .boolean, 2) := by decide +kernel
theorem dX9_init_101 : decode cX9_init 101 = .ok (.putfield 47, 3) := by decide +kernel
theorem dX9_init_104 : decode cX9_init 104 = .ok (.iconst 0, 1) := by decide +kernel
theorem dX9_init_105 : decode cX9_init 105 = .ok (.istore_n 1, 1) := by decide +kernel
theorem dX9_init_106 : decode cX9_init 106 = .ok (.iload_n 1, 1) := by decide +kernel
theorem dX9_init_107 : decode cX9_init 107 = .ok (.bipush 6, 2) := by decide +kernel
theorem dX9_init_109 : decode cX9_init 109 = .ok (.if_icmp .ge 37, 3) := by decide +kernel
theorem dX9_init_112 : decode cX9_init 112 = .ok (.aload_n 0, 1) := by decide +kernel
theorem dX9_init_113 : decode cX9_init 113 = .ok (.getfield 13, 3) := by decide +kernel
theorem dX9_init_116 : decode cX9_init 116 = .ok (.sipush 192, 3) := by decide +kernel
theorem dX9_init_119 : decode cX9_init 119 = .ok (.bipush 7, 2) := by decide +kernel
theorem dX9_init_121 : decode cX9_init 121 = .ok (.iload_n 1, 1) := by decide +kernel
theorem dX9_init_122 : decode cX9_init 122 = .ok (.imul, 1) := by decide +kernel
theorem dX9_init_123 : decode cX9_init 123 = .ok (.iadd, 1) := by decide +kernel
theorem dX9_init_124 : decode cX9_init 124 = .ok (.iconst (-1), 1) := by decide +kernel
theorem dX9_init_125 : decode cX9_init 125 = .ok (.iastore, 1) := by decide +kernel
theorem dX9_init_126 : decode cX9_init 126 = .ok (.aload_n 0, 1) := by decide +kernel
theorem dX9_init_127 : decode cX9_init 127 = .ok (.getfield 13, 3) := by decide +kernel
theorem dX9_init_130 : decode cX9_init 130 = .ok (.sipush 234, 3) := by decide +kernel
theorem dX9_init_133 : decode cX9_init 133 = .ok (.bipush 7, 2) := by decide +kernel
theorem dX9_init_135 : decode cX9_init 135 = .ok (.iload_n 1, 1) := by decide +kernel
theorem dX9_init_136 : decode cX9_init 136 = .ok (.imul, 1) := by decide +kernel
theorem dX9_init_137 : decode cX9_init 137 = .ok (.iadd, 1) := by decide +kernel
theorem dX9_init_138 : decode cX9_init 138 = .ok (.iconst (-1), 1) := by decide +kernel
theorem dX9_init_139 : decode cX9_init 139 = .ok (.iastore, 1) := by decide +kernel
theorem dX9_init_140 : decode cX9_init 140 = .ok (.iinc 1 1, 3) := by decide +kernel
theorem dX9_init_143 : decode cX9_init 143 = .ok (.goto (-37), 3) := by decide +kernel
theorem dX9_init_146 : decode cX9_init 146 = .ok (.iconst 0, 1) := by decide +kernel
theorem dX9_init_147 : decode cX9_init 147 = .ok (.istore_n 1, 1) := by decide +kernel
theorem dX9_init_148 : decode cX9_init 148 = .ok (.iload_n 1, 1) := by decide +kernel
theorem dX9_init_149 : decode cX9_init 149 = .ok (.bipush 6, 2) := by decide +kernel
theorem dX9_init_151 : decode cX9_init 151 = .ok (.if_icmp .ge 31, 3) := by decide +kernel
theorem dX9_init_154 : decode cX9_init 154 = .ok (.aload_n 0, 1) := by decide +kernel
theorem dX9_init_155 : decode cX9_init 155 = .ok (.getfield 13, 3) := by decide +kernel
theorem dX9_init_158 : decode cX9_init 158 = .ok (.sipush 326, 3) := by decide +kernel
theorem dX9_init_161 : decode cX9_init 161 = .ok (.iload_n 1, 1) := by decide +kernel
theorem dX9_init_162 : decode cX9_init 162 = .ok (.iadd, 1) := by decide +kernel
theorem dX9_init_163 : decode cX9_init 163 = .ok (.iconst (-1), 1) := by decide +kernel
theorem dX9_init_164 : decode cX9_init 164 = .ok (.iastore, 1) := by decide +kernel
theorem dX9_init_165 : decode cX9_init 165 = .ok (.aload_n 0, 1) := by decide +kernel
theorem dX9_init_166 : decode cX9_init 166 = .ok (.getfield 13, 3) := by decide +kernel
theorem dX9_init_169 : decode cX9_init 169 = .ok (.sipush 332, 3) := by decide +kernel
theorem dX9_init_172 : decode cX9_init 172 = .ok (.iload_n 1, 1) := by decide +kernel
theorem dX9_init_173 : decode cX9_init 173 = .ok (.iadd, 1) := by decide +kernel
theorem dX9_init_174 : decode cX9_init 174 = .ok (.iconst (-1), 1) := by decide +kernel
theorem dX9_init_175 : decode cX9_init 175 = .ok (.iastore, 1) := by decide +kernel
theorem dX9_init_176 : decode cX9_init 176 = .ok (.iinc 1 1, 3) := by decide +kernel
theorem dX9_init_179 : decode cX9_init 179 = .ok (.goto (-31), 3) := by decide +kernel
theorem dX9_init_182 : decode cX9_init 182 = .ok (.aload_n 0, 1) := by decide +kernel
theorem dX9_init_183 : decode cX9_init 183 = .ok (.getfield 13, 3) := by decide +kernel
theorem dX9_init_186 : decode cX9_init 186 = .ok (.sipush 344, 3) := by decide +kernel
theorem dX9_init_189 : decode cX9_init 189 = .ok (.iconst (-1), 1) := by decide +kernel
theorem dX9_init_190 : decode cX9_init 190 = .ok (.iastore, 1) := by decide +kernel
theorem dX9_init_191 : decode cX9_init 191 = .ok (.return_, 1) := by decide +kernel
theorem dX9_within_0 : decode cX9_within 0 = .ok (.iload_n 0, 1) := by decide +kernel
theorem dX9_within_1 : decode cX9_within 1 = .ok (.iload_n 1, 1) := by decide +kernel
theorem dX9_within_2 : decode cX9_within 2 = .ok (.if_icmp .lt 12, 3) := by decide +kernel
theorem dX9_within_5 : decode cX9_within 5 = .ok (.iload_n 0, 1) := by decide +kernel
theorem dX9_within_6 : decode cX9_within 6 = .ok (.iload_n 2, 1) := by decide +kernel
theorem dX9_within_7 : decode cX9_within 7 = .ok (.if_icmp .gt 7, 3) := by decide +kernel
theorem dX9_within_10 : decode cX9_within 10 = .ok (.iconst 1, 1) := by decide +kernel
theorem dX9_within_11 : decode cX9_within 11 = .ok (.goto 4, 3) := by decide +kernel
theorem dX9_within_14 : decode cX9_within 14 = .ok (.iconst 0, 1) := by decide +kernel
theorem dX9_within_15 : decode cX9_within 15 = .ok (.ireturn, 1) := by decide +kernel
theorem dX9_isEntry_0 : decode cX9_isEntry 0 = .ok (.iload_n 0, 1) := by decide +kernel
theorem dX9_isEntry_1 : decode cX9_isEntry 1 = .ok (.iconst 0, 1) := by decide +kernel
theorem dX9_isEntry_2 : decode cX9_isEntry 2 = .ok (.bipush 11, 2) := by decide +kernel
theorem dX9_isEntry_4 : decode cX9_isEntry 4 = .ok (.invokestatic 51, 3) := by decide +kernel
theorem dX9_isEntry_7 : decode cX9_isEntry 7 = .ok (.ifCond .eq 17, 3) := by decide +kernel
theorem dX9_isEntry_10 : decode cX9_isEntry 10 = .ok (.iload_n 1, 1) := by decide +kernel
theorem dX9_isEntry_11 : decode cX9_isEntry 11 = .ok (.iconst 0, 1) := by decide +kernel
theorem dX9_isEntry_12 : decode cX9_isEntry 12 = .ok (.bipush 7, 2) := by decide +kernel
theorem dX9_isEntry_14 : decode cX9_isEntry 14 = .ok (.invokestatic 51, 3) := by decide +kernel
theorem dX9_isEntry_17 : decode cX9_isEntry 17 = .ok (.ifCond .eq 7, 3) := by decide +kernel
theorem dX9_isEntry_20 : decode cX9_isEntry 20 = .ok (.iconst 1, 1) := by decide +kernel
theorem dX9_isEntry_21 : decode cX9_isEntry 21 = .ok (.goto 4, 3) := by decide +kernel
theorem dX9_isEntry_24 : decode cX9_isEntry 24 = .ok (.iconst 0, 1) := by decide +kernel
theorem dX9_isEntry_25 : decode cX9_isEntry 25 = .ok (.ireturn, 1) := by decide +kernel
theorem dX9_isSpace_0 : decode cX9_isSpace 0 = .ok (.iload_n 0, 1) := by decide +kernel
theorem dX9_isSpace_1 : decode cX9_isSpace 1 = .ok (.iconst 0, 1) := by decide +kernel
theorem dX9_isSpace_2 : decode cX9_isSpace 2 = .ok (.iconst 5, 1) := by decide +kernel
theorem dX9_isSpace_3 : decode cX9_isSpace 3 = .ok (.invokestatic 51, 3) := by decide +kernel
theorem dX9_isSpace_6 : decode cX9_isSpace 6 = .ok (.ireturn, 1) := by decide +kernel
theorem dX9_isAddress_0 : decode cX9_isAddress 0 = .ok (.iload_n 0, 1) := by decide +kernel
theorem dX9_isAddress_1 : decode cX9_isAddress 1 = .ok (.iconst 0, 1) := by decide +kernel
theorem dX9_isAddress_2 : decode cX9_isAddress 2 = .ok (.sipush 511, 3) := by decide +kernel
theorem dX9_isAddress_5 : decode cX9_isAddress 5 = .ok (.invokestatic 51, 3) := by decide +kernel
theorem dX9_isAddress_8 : decode cX9_isAddress 8 = .ok (.ireturn, 1) := by decide +kernel
theorem dX9_whatOf_0 : decode cX9_whatOf 0 = .ok (.iload_n 0, 1) := by decide +kernel
theorem dX9_whatOf_1 : decode cX9_whatOf 1 = .ok (.iconst 3, 1) := by decide +kernel
theorem dX9_whatOf_2 : decode cX9_whatOf 2 = .ok (.iand, 1) := by decide +kernel
theorem dX9_whatOf_3 : decode cX9_whatOf 3 = .ok (.ireturn, 1) := by decide +kernel
theorem dX9_rightsOf_0 : decode cX9_rightsOf 0 = .ok (.iload_n 0, 1) := by decide +kernel
theorem dX9_rightsOf_1 : decode cX9_rightsOf 1 = .ok (.iconst 2, 1) := by decide +kernel
theorem dX9_rightsOf_2 : decode cX9_rightsOf 2 = .ok (.ishr, 1) := by decide +kernel
theorem dX9_rightsOf_3 : decode cX9_rightsOf 3 = .ok (.bipush 15, 2) := by decide +kernel
theorem dX9_rightsOf_5 : decode cX9_rightsOf 5 = .ok (.iand, 1) := by decide +kernel
theorem dX9_rightsOf_6 : decode cX9_rightsOf 6 = .ok (.ireturn, 1) := by decide +kernel
theorem dX9_targetOf_0 : decode cX9_targetOf 0 = .ok (.iload_n 0, 1) := by decide +kernel
theorem dX9_targetOf_1 : decode cX9_targetOf 1 = .ok (.bipush 6, 2) := by decide +kernel
theorem dX9_targetOf_3 : decode cX9_targetOf 3 = .ok (.ishr, 1) := by decide +kernel
theorem dX9_targetOf_4 : decode cX9_targetOf 4 = .ok (.ireturn, 1) := by decide +kernel
theorem dX9_wide_0 : decode cX9_wide 0 = .ok (.iload_n 0, 1) := by decide +kernel
theorem dX9_wide_1 : decode cX9_wide 1 = .ok (.iconst 2, 1) := by decide +kernel
theorem dX9_wide_2 : decode cX9_wide 2 = .ok (.if_icmp .ne 8, 3) := by decide +kernel
theorem dX9_wide_5 : decode cX9_wide 5 = .ok (.bipush 64, 2) := by decide +kernel
theorem dX9_wide_7 : decode cX9_wide 7 = .ok (.goto 14, 3) := by decide +kernel
theorem dX9_wide_10 : decode cX9_wide 10 = .ok (.iload_n 0, 1) := by decide +kernel
theorem dX9_wide_11 : decode cX9_wide 11 = .ok (.iconst 1, 1) := by decide +kernel
theorem dX9_wide_12 : decode cX9_wide 12 = .ok (.if_icmp .ne 8, 3) := by decide +kernel
theorem dX9_wide_15 : decode cX9_wide 15 = .ok (.bipush 8, 2) := by decide +kernel
theorem dX9_wide_17 : decode cX9_wide 17 = .ok (.goto 4, 3) := by decide +kernel
theorem dX9_wide_20 : decode cX9_wide 20 = .ok (.iconst 1, 1) := by decide +kernel
theorem dX9_wide_21 : decode cX9_wide 21 = .ok (.ireturn, 1) := by decide +kernel
theorem dX9_place_0 : decode cX9_place 0 = .ok (.bipush 8, 2) := by decide +kernel
theorem dX9_place_2 : decode cX9_place 2 = .ok (.iload_n 0, 1) := by decide +kernel
theorem dX9_place_3 : decode cX9_place 3 = .ok (.imul, 1) := by decide +kernel
theorem dX9_place_4 : decode cX9_place 4 = .ok (.iload_n 1, 1) := by decide +kernel
theorem dX9_place_5 : decode cX9_place 5 = .ok (.iload_n 2, 1) := by decide +kernel
theorem dX9_place_6 : decode cX9_place 6 = .ok (.invokestatic 55, 3) := by decide +kernel
theorem dX9_place_9 : decode cX9_place 9 = .ok (.idiv, 1) := by decide +kernel
theorem dX9_place_10 : decode cX9_place 10 = .ok (.bipush 8, 2) := by decide +kernel
theorem dX9_place_12 : decode cX9_place 12 = .ok (.irem, 1) := by decide +kernel
theorem dX9_place_13 : decode cX9_place 13 = .ok (.iadd, 1) := by decide +kernel
theorem dX9_place_14 : decode cX9_place 14 = .ok (.ireturn, 1) := by decide +kernel
theorem dX9_remembers_0 : decode cX9_remembers 0 = .ok (.aload_n 0, 1) := by decide +kernel
theorem dX9_remembers_1 : decode cX9_remembers 1 = .ok (.getfield 59, 3) := by decide +kernel
theorem dX9_remembers_4 : decode cX9_remembers 4 = .ok (.bipush 40, 2) := by decide +kernel
theorem dX9_remembers_6 : decode cX9_remembers 6 = .ok (.if_icmp .ne 69, 3) := by decide +kernel
theorem dX9_remembers_9 : decode cX9_remembers 9 = .ok (.iconst 1, 1) := by decide +kernel
theorem dX9_remembers_10 : decode cX9_remembers 10 = .ok (.istore_n 3, 1) := by decide +kernel
theorem dX9_remembers_11 : decode cX9_remembers 11 = .ok (.iload_n 3, 1) := by decide +kernel
theorem dX9_remembers_12 : decode cX9_remembers 12 = .ok (.bipush 40, 2) := by decide +kernel
theorem dX9_remembers_14 : decode cX9_remembers 14 = .ok (.if_icmp .ge 51, 3) := by decide +kernel
theorem dX9_remembers_17 : decode cX9_remembers 17 = .ok (.aload_n 0, 1) := by decide +kernel
theorem dX9_remembers_18 : decode cX9_remembers 18 = .ok (.getfield 20, 3) := by decide +kernel
theorem dX9_remembers_21 : decode cX9_remembers 21 = .ok (.iload_n 3, 1) := by decide +kernel
theorem dX9_remembers_22 : decode cX9_remembers 22 = .ok (.iconst 1, 1) := by decide +kernel
theorem dX9_remembers_23 : decode cX9_remembers 23 = .ok (.isub, 1) := by decide +kernel
theorem dX9_remembers_24 : decode cX9_remembers 24 = .ok (.aload_n 0, 1) := by decide +kernel
theorem dX9_remembers_25 : decode cX9_remembers 25 = .ok (.getfield 20, 3) := by decide +kernel
theorem dX9_remembers_28 : decode cX9_remembers 28 = .ok (.iload_n 3, 1) := by decide +kernel
theorem dX9_remembers_29 : decode cX9_remembers 29 = .ok (.iaload, 1) := by decide +kernel
theorem dX9_remembers_30 : decode cX9_remembers 30 = .ok (.iastore, 1) := by decide +kernel
theorem dX9_remembers_31 : decode cX9_remembers 31 = .ok (.aload_n 0, 1) := by decide +kernel
theorem dX9_remembers_32 : decode cX9_remembers 32 = .ok (.getfield 23, 3) := by decide +kernel
theorem dX9_remembers_35 : decode cX9_remembers 35 = .ok (.iload_n 3, 1) := by decide +kernel
theorem dX9_remembers_36 : decode cX9_remembers 36 = .ok (.iconst 1, 1) := by decide +kernel
theorem dX9_remembers_37 : decode cX9_remembers 37 = .ok (.isub, 1) := by decide +kernel
theorem dX9_remembers_38 : decode cX9_remembers 38 = .ok (.aload_n 0, 1) := by decide +kernel
theorem dX9_remembers_39 : decode cX9_remembers 39 = .ok (.getfield 23, 3) := by decide +kernel
theorem dX9_remembers_42 : decode cX9_remembers 42 = .ok (.iload_n 3, 1) := by decide +kernel
theorem dX9_remembers_43 : decode cX9_remembers 43 = .ok (.iaload, 1) := by decide +kernel
theorem dX9_remembers_44 : decode cX9_remembers 44 = .ok (.iastore, 1) := by decide +kernel
theorem dX9_remembers_45 : decode cX9_remembers 45 = .ok (.aload_n 0, 1) := by decide +kernel
theorem dX9_remembers_46 : decode cX9_remembers 46 = .ok (.getfield 26, 3) := by decide +kernel
theorem dX9_remembers_49 : decode cX9_remembers 49 = .ok (.iload_n 3, 1) := by decide +kernel
theorem dX9_remembers_50 : decode cX9_remembers 50 = .ok (.iconst 1, 1) := by decide +kernel
theorem dX9_remembers_51 : decode cX9_remembers 51 = .ok (.isub, 1) := by decide +kernel
theorem dX9_remembers_52 : decode cX9_remembers 52 = .ok (.aload_n 0, 1) := by decide +kernel
theorem dX9_remembers_53 : decode cX9_remembers 53 = .ok (.getfield 26, 3) := by decide +kernel
theorem dX9_remembers_56 : decode cX9_remembers 56 = .ok (.iload_n 3, 1) := by decide +kernel
theorem dX9_remembers_57 : decode cX9_remembers 57 = .ok (.iaload, 1) := by decide +kernel
theorem dX9_remembers_58 : decode cX9_remembers 58 = .ok (.iastore, 1) := by decide +kernel
theorem dX9_remembers_59 : decode cX9_remembers 59 = .ok (.iinc 3 1, 3) := by decide +kernel
theorem dX9_remembers_62 : decode cX9_remembers 62 = .ok (.goto (-51), 3) := by decide +kernel
theorem dX9_remembers_65 : decode cX9_remembers 65 = .ok (.aload_n 0, 1) := by decide +kernel
theorem dX9_remembers_66 : decode cX9_remembers 66 = .ok (.dup, 1) := by decide +kernel
theorem dX9_remembers_67 : decode cX9_remembers 67 = .ok (.getfield 59, 3) := by decide +kernel
theorem dX9_remembers_70 : decode cX9_remembers 70 = .ok (.iconst 1, 1) := by decide +kernel
theorem dX9_remembers_71 : decode cX9_remembers 71 = .ok (.isub, 1) := by decide +kernel
theorem dX9_remembers_72 : decode cX9_remembers 72 = .ok (.putfield 59, 3) := by decide +kernel
theorem dX9_remembers_75 : decode cX9_remembers 75 = .ok (.aload_n 0, 1) := by decide +kernel
theorem dX9_remembers_76 : decode cX9_remembers 76 = .ok (.dup, 1) := by decide +kernel
theorem dX9_remembers_77 : decode cX9_remembers 77 = .ok (.getfield 62, 3) := by decide +kernel
theorem dX9_remembers_80 : decode cX9_remembers 80 = .ok (.iconst 1, 1) := by decide +kernel
theorem dX9_remembers_81 : decode cX9_remembers 81 = .ok (.iadd, 1) := by decide +kernel
theorem dX9_remembers_82 : decode cX9_remembers 82 = .ok (.putfield 62, 3) := by decide +kernel
theorem dX9_remembers_85 : decode cX9_remembers 85 = .ok (.aload_n 0, 1) := by decide +kernel
theorem dX9_remembers_86 : decode cX9_remembers 86 = .ok (.getfield 20, 3) := by decide +kernel
theorem dX9_remembers_89 : decode cX9_remembers 89 = .ok (.aload_n 0, 1) := by decide +kernel
theorem dX9_remembers_90 : decode cX9_remembers 90 = .ok (.getfield 59, 3) := by decide +kernel
theorem dX9_remembers_93 : decode cX9_remembers 93 = .ok (.iload_n 1, 1) := by decide +kernel
theorem dX9_remembers_94 : decode cX9_remembers 94 = .ok (.iastore, 1) := by decide +kernel
theorem dX9_remembers_95 : decode cX9_remembers 95 = .ok (.aload_n 0, 1) := by decide +kernel
theorem dX9_remembers_96 : decode cX9_remembers 96 = .ok (.getfield 23, 3) := by decide +kernel
theorem dX9_remembers_99 : decode cX9_remembers 99 = .ok (.aload_n 0, 1) := by decide +kernel
theorem dX9_remembers_100 : decode cX9_remembers 100 = .ok (.getfield 59, 3) := by decide +kernel
theorem dX9_remembers_103 : decode cX9_remembers 103 = .ok (.iload_n 2, 1) := by decide +kernel
theorem dX9_remembers_104 : decode cX9_remembers 104 = .ok (.iastore, 1) := by decide +kernel
theorem dX9_remembers_105 : decode cX9_remembers 105 = .ok (.aload_n 0, 1) := by decide +kernel
theorem dX9_remembers_106 : decode cX9_remembers 106 = .ok (.getfield 26, 3) := by decide +kernel
theorem dX9_remembers_109 : decode cX9_remembers 109 = .ok (.aload_n 0, 1) := by decide +kernel
theorem dX9_remembers_110 : decode cX9_remembers 110 = .ok (.getfield 59, 3) := by decide +kernel
theorem dX9_remembers_113 : decode cX9_remembers 113 = .ok (.aload_n 0, 1) := by decide +kernel
theorem dX9_remembers_114 : decode cX9_remembers 114 = .ok (.getfield 62, 3) := by decide +kernel
theorem dX9_remembers_117 : decode cX9_remembers 117 = .ok (.iastore, 1) := by decide +kernel
theorem dX9_remembers_118 : decode cX9_remembers 118 = .ok (.aload_n 0, 1) := by decide +kernel
theorem dX9_remembers_119 : decode cX9_remembers 119 = .ok (.dup, 1) := by decide +kernel
theorem dX9_remembers_120 : decode cX9_remembers 120 = .ok (.getfield 59, 3) := by decide +kernel
theorem dX9_remembers_123 : decode cX9_remembers 123 = .ok (.iconst 1, 1) := by decide +kernel
theorem dX9_remembers_124 : decode cX9_remembers 124 = .ok (.iadd, 1) := by decide +kernel
theorem dX9_remembers_125 : decode cX9_remembers 125 = .ok (.putfield 59, 3) := by decide +kernel
theorem dX9_remembers_128 : decode cX9_remembers 128 = .ok (.return_, 1) := by decide +kernel
theorem dX9_entry_0 : decode cX9_entry 0 = .ok (.aload_n 0, 1) := by decide +kernel
theorem dX9_entry_1 : decode cX9_entry 1 = .ok (.iconst 0, 1) := by decide +kernel
theorem dX9_entry_2 : decode cX9_entry 2 = .ok (.putfield 1, 3) := by decide +kernel
theorem dX9_entry_5 : decode cX9_entry 5 = .ok (.iload_n 3, 1) := by decide +kernel
theorem dX9_entry_6 : decode cX9_entry 6 = .ok (.ifCond .eq 36, 3) := by decide +kernel
theorem dX9_entry_9 : decode cX9_entry 9 = .ok (.iload_n 3, 1) := by decide +kernel
theorem dX9_entry_10 : decode cX9_entry 10 = .ok (.iconst 1, 1) := by decide +kernel
theorem dX9_entry_11 : decode cX9_entry 11 = .ok (.if_icmp .ne 14, 3) := by decide +kernel
theorem dX9_entry_14 : decode cX9_entry 14 = .ok (.iload 4, 2) := by decide +kernel
theorem dX9_entry_16 : decode cX9_entry 16 = .ok (.iconst 0, 1) := by decide +kernel
theorem dX9_entry_17 : decode cX9_entry 17 = .ok (.bipush 11, 2) := by decide +kernel
theorem dX9_entry_19 : decode cX9_entry 19 = .ok (.invokestatic 51, 3) := by decide +kernel
theorem dX9_entry_22 : decode cX9_entry 22 = .ok (.ifCond .ne 20, 3) := by decide +kernel
theorem dX9_entry_25 : decode cX9_entry 25 = .ok (.iload_n 3, 1) := by decide +kernel
theorem dX9_entry_26 : decode cX9_entry 26 = .ok (.iconst 2, 1) := by decide +kernel
theorem dX9_entry_27 : decode cX9_entry 27 = .ok (.if_icmp .ne 19, 3) := by decide +kernel
theorem dX9_entry_30 : decode cX9_entry 30 = .ok (.iload 4, 2) := by decide +kernel
theorem dX9_entry_32 : decode cX9_entry 32 = .ok (.iconst 0, 1) := by decide +kernel
theorem dX9_entry_33 : decode cX9_entry 33 = .ok (.sipush 999, 3) := by decide +kernel
theorem dX9_entry_36 : decode cX9_entry 36 = .ok (.invokestatic 51, 3) := by decide +kernel
theorem dX9_entry_39 : decode cX9_entry 39 = .ok (.ifCond .eq 7, 3) := by decide +kernel
theorem dX9_entry_42 : decode cX9_entry 42 = .ok (.iconst 1, 1) := by decide +kernel
theorem dX9_entry_43 : decode cX9_entry 43 = .ok (.goto 4, 3) := by decide +kernel
theorem dX9_entry_46 : decode cX9_entry 46 = .ok (.iconst 0, 1) := by decide +kernel
theorem dX9_entry_47 : decode cX9_entry 47 = .ok (.istore 6, 2) := by decide +kernel
theorem dX9_entry_49 : decode cX9_entry 49 = .ok (.iload_n 1, 1) := by decide +kernel
theorem dX9_entry_50 : decode cX9_entry 50 = .ok (.iload_n 2, 1) := by decide +kernel
theorem dX9_entry_51 : decode cX9_entry 51 = .ok (.invokestatic 65, 3) := by decide +kernel
theorem dX9_entry_54 : decode cX9_entry 54 = .ok (.ifCond .eq 23, 3) := by decide +kernel
theorem dX9_entry_57 : decode cX9_entry 57 = .ok (.iload 6, 2) := by decide +kernel
theorem dX9_entry_59 : decode cX9_entry 59 = .ok (.ifCond .eq 18, 3) := by decide +kernel
theorem dX9_entry_62 : decode cX9_entry 62 = .ok (.iload_n 3, 1) := by decide +kernel
theorem dX9_entry_63 : decode cX9_entry 63 = .ok (.ifCond .le 16, 3) := by decide +kernel
theorem dX9_entry_66 : decode cX9_entry 66 = .ok (.iload 5, 2) := by decide +kernel
theorem dX9_entry_68 : decode cX9_entry 68 = .ok (.iconst 0, 1) := by decide +kernel
theorem dX9_entry_69 : decode cX9_entry 69 = .ok (.bipush 15, 2) := by decide +kernel
theorem dX9_entry_71 : decode cX9_entry 71 = .ok (.invokestatic 51, 3) := by decide +kernel
theorem dX9_entry_74 : decode cX9_entry 74 = .ok (.ifCond .ne 5, 3) := by decide +kernel
theorem dX9_entry_77 : decode cX9_entry 77 = .ok (.iconst (-1), 1) := by decide +kernel
theorem dX9_entry_78 : decode cX9_entry 78 = .ok (.ireturn, 1) := by decide +kernel
theorem dX9_entry_79 : decode cX9_entry 79 = .ok (.iload_n 3, 1) := by decide +kernel
theorem dX9_entry_80 : decode cX9_entry 80 = .ok (.ifCond .ne 7, 3) := by decide +kernel
theorem dX9_entry_83 : decode cX9_entry 83 = .ok (.iconst 0, 1) := by decide +kernel
theorem dX9_entry_84 : decode cX9_entry 84 = .ok (.goto 15, 3) := by decide +kernel
theorem dX9_entry_87 : decode cX9_entry 87 = .ok (.iload_n 3, 1) := by decide +kernel
theorem dX9_entry_88 : decode cX9_entry 88 = .ok (.iload 5, 2) := by decide +kernel
theorem dX9_entry_90 : decode cX9_entry 90 = .ok (.iconst 2, 1) := by decide +kernel
theorem dX9_entry_91 : decode cX9_entry 91 = .ok (.ishl, 1) := by decide +kernel
theorem dX9_entry_92 : decode cX9_entry 92 = .ok (.ior, 1) := by decide +kernel
theorem dX9_entry_93 : decode cX9_entry 93 = .ok (.iload 4, 2) := by decide +kernel
theorem dX9_entry_95 : decode cX9_entry 95 = .ok (.bipush 6, 2) := by decide +kernel
theorem dX9_entry_97 : decode cX9_entry 97 = .ok (.ishl, 1) := by decide +kernel
theorem dX9_entry_98 : decode cX9_entry 98 = .ok (.ior, 1) := by decide +kernel
theorem dX9_entry_99 : decode cX9_entry 99 = .ok (.istore 7, 2) := by decide +kernel
theorem dX9_entry_101 : decode cX9_entry 101 = .ok (.bipush 8, 2) := by decide +kernel
theorem dX9_entry_103 : decode cX9_entry 103 = .ok (.iload_n 1, 1) := by decide +kernel
theorem dX9_entry_104 : decode cX9_entry 104 = .ok (.imul, 1) := by decide +kernel
theorem dX9_entry_105 : decode cX9_entry 105 = .ok (.iload_n 2, 1) := by decide +kernel
theorem dX9_entry_106 : decode cX9_entry 106 = .ok (.iadd, 1) := by decide +kernel
theorem dX9_entry_107 : decode cX9_entry 107 = .ok (.istore 8, 2) := by decide +kernel
theorem dX9_entry_109 : decode cX9_entry 109 = .ok (.aload_n 0, 1) := by decide +kernel
theorem dX9_entry_110 : decode cX9_entry 110 = .ok (.getfield 13, 3) := by decide +kernel
theorem dX9_entry_113 : decode cX9_entry 113 = .ok (.iconst 0, 1) := by decide +kernel
theorem dX9_entry_114 : decode cX9_entry 114 = .ok (.iload 8, 2) := by decide +kernel
theorem dX9_entry_116 : decode cX9_entry 116 = .ok (.iadd, 1) := by decide +kernel
theorem dX9_entry_117 : decode cX9_entry 117 = .ok (.iaload, 1) := by decide +kernel
theorem dX9_entry_118 : decode cX9_entry 118 = .ok (.istore 9, 2) := by decide +kernel
theorem dX9_entry_120 : decode cX9_entry 120 = .ok (.iload 9, 2) := by decide +kernel
theorem dX9_entry_122 : decode cX9_entry 122 = .ok (.iload 7, 2) := by decide +kernel
theorem dX9_entry_124 : decode cX9_entry 124 = .ok (.if_icmp .eq 33, 3) := by decide +kernel
theorem dX9_entry_127 : decode cX9_entry 127 = .ok (.aload_n 0, 1) := by decide +kernel
theorem dX9_entry_128 : decode cX9_entry 128 = .ok (.iload 8, 2) := by decide +kernel
theorem dX9_entry_130 : decode cX9_entry 130 = .ok (.iload 9, 2) := by decide +kernel
theorem dX9_entry_132 : decode cX9_entry 132 = .ok (.invokevirtual 69, 3) := by decide +kernel
theorem dX9_entry_135 : decode cX9_entry 135 = .ok (.aload_n 0, 1) := by decide +kernel
theorem dX9_entry_136 : decode cX9_entry 136 = .ok (.getfield 13, 3) := by decide +kernel
theorem dX9_entry_139 : decode cX9_entry 139 = .ok (.iconst 0, 1) := by decide +kernel
theorem dX9_entry_140 : decode cX9_entry 140 = .ok (.iload 8, 2) := by decide +kernel
theorem dX9_entry_142 : decode cX9_entry 142 = .ok (.iadd, 1) := by decide +kernel
theorem dX9_entry_143 : decode cX9_entry 143 = .ok (.iload 7, 2) := by decide +kernel
theorem dX9_entry_145 : decode cX9_entry 145 = .ok (.iastore, 1) := by decide +kernel
theorem dX9_entry_146 : decode cX9_entry 146 = .ok (.aload_n 0, 1) := by decide +kernel
theorem dX9_entry_147 : decode cX9_entry 147 = .ok (.getfield 13, 3) := by decide +kernel
theorem dX9_entry_150 : decode cX9_entry 150 = .ok (.bipush 96, 2) := by decide +kernel
theorem dX9_entry_152 : decode cX9_entry 152 = .ok (.iload 8, 2) := by decide +kernel
theorem dX9_entry_154 : decode cX9_entry 154 = .ok (.iadd, 1) := by decide +kernel
theorem dX9_entry_155 : decode cX9_entry 155 = .ok (.iconst 0, 1) := by decide +kernel
theorem dX9_entry_156 : decode cX9_entry 156 = .ok (.iastore, 1) := by decide +kernel
theorem dX9_entry_157 : decode cX9_entry 157 = .ok (.iload 9, 2) := by decide +kernel
theorem dX9_entry_159 : decode cX9_entry 159 = .ok (.invokestatic 73, 3) := by decide +kernel
theorem dX9_entry_162 : decode cX9_entry 162 = .ok (.ireturn, 1) := by decide +kernel
theorem dX9_marks_0 : decode cX9_marks 0 = .ok (.aload_n 0, 1) := by decide +kernel
theorem dX9_marks_1 : decode cX9_marks 1 = .ok (.iconst 0, 1) := by decide +kernel
theorem dX9_marks_2 : decode cX9_marks 2 = .ok (.putfield 1, 3) := by decide +kernel
theorem dX9_marks_5 : decode cX9_marks 5 = .ok (.iload_n 1, 1) := by decide +kernel
theorem dX9_marks_6 : decode cX9_marks 6 = .ok (.iload_n 2, 1) := by decide +kernel
theorem dX9_marks_7 : decode cX9_marks 7 = .ok (.invokestatic 65, 3) := by decide +kernel
theorem dX9_marks_10 : decode cX9_marks 10 = .ok (.ifCond .eq 31, 3) := by decide +kernel
theorem dX9_marks_13 : decode cX9_marks 13 = .ok (.iload_n 3, 1) := by decide +kernel
theorem dX9_marks_14 : decode cX9_marks 14 = .ok (.iconst 0, 1) := by decide +kernel
theorem dX9_marks_15 : decode cX9_marks 15 = .ok (.iconst 3, 1) := by decide +kernel
theorem dX9_marks_16 : decode cX9_marks 16 = .ok (.invokestatic 51, 3) := by decide +kernel
theorem dX9_marks_19 : decode cX9_marks 19 = .ok (.ifCond .eq 22, 3) := by decide +kernel
theorem dX9_marks_22 : decode cX9_marks 22 = .ok (.aload_n 0, 1) := by decide +kernel
theorem dX9_marks_23 : decode cX9_marks 23 = .ok (.getfield 13, 3) := by decide +kernel
theorem dX9_marks_26 : decode cX9_marks 26 = .ok (.iconst 0, 1) := by decide +kernel
theorem dX9_marks_27 : decode cX9_marks 27 = .ok (.bipush 8, 2) := by decide +kernel
theorem dX9_marks_29 : decode cX9_marks 29 = .ok (.iload_n 1, 1) := by decide +kernel
theorem dX9_marks_30 : decode cX9_marks 30 = .ok (.imul, 1) := by decide +kernel
theorem dX9_marks_31 : decode cX9_marks 31 = .ok (.iadd, 1) := by decide +kernel
theorem dX9_marks_32 : decode cX9_marks 32 = .ok (.iload_n 2, 1) := by decide +kernel
theorem dX9_marks_33 : decode cX9_marks 33 = .ok (.iadd, 1) := by decide +kernel
theorem dX9_marks_34 : decode cX9_marks 34 = .ok (.iaload, 1) := by decide +kernel
theorem dX9_marks_35 : decode cX9_marks 35 = .ok (.invokestatic 73, 3) := by decide +kernel
theorem dX9_marks_38 : decode cX9_marks 38 = .ok (.ifCond .ne 5, 3) := by decide +kernel
theorem dX9_marks_41 : decode cX9_marks 41 = .ok (.iconst (-1), 1) := by decide +kernel
theorem dX9_marks_42 : decode cX9_marks 42 = .ok (.ireturn, 1) := by decide +kernel
theorem dX9_marks_43 : decode cX9_marks 43 = .ok (.aload_n 0, 1) := by decide +kernel
theorem dX9_marks_44 : decode cX9_marks 44 = .ok (.getfield 13, 3) := by decide +kernel
theorem dX9_marks_47 : decode cX9_marks 47 = .ok (.bipush 96, 2) := by decide +kernel
theorem dX9_marks_49 : decode cX9_marks 49 = .ok (.bipush 8, 2) := by decide +kernel
theorem dX9_marks_51 : decode cX9_marks 51 = .ok (.iload_n 1, 1) := by decide +kernel
theorem dX9_marks_52 : decode cX9_marks 52 = .ok (.imul, 1) := by decide +kernel
theorem dX9_marks_53 : decode cX9_marks 53 = .ok (.iadd, 1) := by decide +kernel
theorem dX9_marks_54 : decode cX9_marks 54 = .ok (.iload_n 2, 1) := by decide +kernel
theorem dX9_marks_55 : decode cX9_marks 55 = .ok (.iadd, 1) := by decide +kernel
theorem dX9_marks_56 : decode cX9_marks 56 = .ok (.iaload, 1) := by decide +kernel
theorem dX9_marks_57 : decode cX9_marks 57 = .ok (.istore 4, 2) := by decide +kernel
theorem dX9_marks_59 : decode cX9_marks 59 = .ok (.aload_n 0, 1) := by decide +kernel
theorem dX9_marks_60 : decode cX9_marks 60 = .ok (.getfield 13, 3) := by decide +kernel
theorem dX9_marks_63 : decode cX9_marks 63 = .ok (.bipush 96, 2) := by decide +kernel
theorem dX9_marks_65 : decode cX9_marks 65 = .ok (.bipush 8, 2) := by decide +kernel
theorem dX9_marks_67 : decode cX9_marks 67 = .ok (.iload_n 1, 1) := by decide +kernel
theorem dX9_marks_68 : decode cX9_marks 68 = .ok (.imul, 1) := by decide +kernel
theorem dX9_marks_69 : decode cX9_marks 69 = .ok (.iadd, 1) := by decide +kernel
theorem dX9_marks_70 : decode cX9_marks 70 = .ok (.iload_n 2, 1) := by decide +kernel
theorem dX9_marks_71 : decode cX9_marks 71 = .ok (.iadd, 1) := by decide +kernel
theorem dX9_marks_72 : decode cX9_marks 72 = .ok (.iload_n 3, 1) := by decide +kernel
theorem dX9_marks_73 : decode cX9_marks 73 = .ok (.iastore, 1) := by decide +kernel
theorem dX9_marks_74 : decode cX9_marks 74 = .ok (.iload 4, 2) := by decide +kernel
theorem dX9_marks_76 : decode cX9_marks 76 = .ok (.ireturn, 1) := by decide +kernel
theorem dX9_root_0 : decode cX9_root 0 = .ok (.aload_n 0, 1) := by decide +kernel
theorem dX9_root_1 : decode cX9_root 1 = .ok (.iconst 0, 1) := by decide +kernel
theorem dX9_root_2 : decode cX9_root 2 = .ok (.putfield 1, 3) := by decide +kernel
theorem dX9_root_5 : decode cX9_root 5 = .ok (.iload_n 1, 1) := by decide +kernel
theorem dX9_root_6 : decode cX9_root 6 = .ok (.invokestatic 76, 3) := by decide +kernel
theorem dX9_root_9 : decode cX9_root 9 = .ok (.ifCond .eq 13, 3) := by decide +kernel
theorem dX9_root_12 : decode cX9_root 12 = .ok (.iload_n 2, 1) := by decide +kernel
theorem dX9_root_13 : decode cX9_root 13 = .ok (.iconst (-1), 1) := by decide +kernel
theorem dX9_root_14 : decode cX9_root 14 = .ok (.bipush 11, 2) := by decide +kernel
theorem dX9_root_16 : decode cX9_root 16 = .ok (.invokestatic 51, 3) := by decide +kernel
theorem dX9_root_19 : decode cX9_root 19 = .ok (.ifCond .ne 6, 3) := by decide +kernel
theorem dX9_root_22 : decode cX9_root 22 = .ok (.bipush (-2), 2) := by decide +kernel
theorem dX9_root_24 : decode cX9_root 24 = .ok (.ireturn, 1) := by decide +kernel
theorem dX9_root_25 : decode cX9_root 25 = .ok (.aload_n 0, 1) := by decide +kernel
theorem dX9_root_26 : decode cX9_root 26 = .ok (.getfield 13, 3) := by decide +kernel
theorem dX9_root_29 : decode cX9_root 29 = .ok (.sipush 326, 3) := by decide +kernel
theorem dX9_root_32 : decode cX9_root 32 = .ok (.iload_n 1, 1) := by decide +kernel
theorem dX9_root_33 : decode cX9_root 33 = .ok (.iadd, 1) := by decide +kernel
theorem dX9_root_34 : decode cX9_root 34 = .ok (.iaload, 1) := by decide +kernel
theorem dX9_root_35 : decode cX9_root 35 = .ok (.istore_n 3, 1) := by decide +kernel
theorem dX9_root_36 : decode cX9_root 36 = .ok (.iload_n 3, 1) := by decide +kernel
theorem dX9_root_37 : decode cX9_root 37 = .ok (.iload_n 2, 1) := by decide +kernel
theorem dX9_root_38 : decode cX9_root 38 = .ok (.if_icmp .eq 23, 3) := by decide +kernel
theorem dX9_root_41 : decode cX9_root 41 = .ok (.aload_n 0, 1) := by decide +kernel
theorem dX9_root_42 : decode cX9_root 42 = .ok (.bipush 96, 2) := by decide +kernel
theorem dX9_root_44 : decode cX9_root 44 = .ok (.iload_n 1, 1) := by decide +kernel
theorem dX9_root_45 : decode cX9_root 45 = .ok (.iadd, 1) := by decide +kernel
theorem dX9_root_46 : decode cX9_root 46 = .ok (.iload_n 3, 1) := by decide +kernel
theorem dX9_root_47 : decode cX9_root 47 = .ok (.invokevirtual 69, 3) := by decide +kernel
theorem dX9_root_50 : decode cX9_root 50 = .ok (.aload_n 0, 1) := by decide +kernel
theorem dX9_root_51 : decode cX9_root 51 = .ok (.getfield 13, 3) := by decide +kernel
theorem dX9_root_54 : decode cX9_root 54 = .ok (.sipush 326, 3) := by decide +kernel
theorem dX9_root_57 : decode cX9_root 57 = .ok (.iload_n 1, 1) := by decide +kernel
theorem dX9_root_58 : decode cX9_root 58 = .ok (.iadd, 1) := by decide +kernel
theorem dX9_root_59 : decode cX9_root 59 = .ok (.iload_n 2, 1) := by decide +kernel
theorem dX9_root_60 : decode cX9_root 60 = .ok (.iastore, 1) := by decide +kernel
theorem dX9_root_61 : decode cX9_root 61 = .ok (.iload_n 3, 1) := by decide +kernel
theorem dX9_root_62 : decode cX9_root 62 = .ok (.ireturn, 1) := by decide +kernel
theorem dX9_holder_0 : decode cX9_holder 0 = .ok (.iconst (-1), 1) := by decide +kernel
theorem dX9_holder_1 : decode cX9_holder 1 = .ok (.istore_n 2, 1) := by decide +kernel
theorem dX9_holder_2 : decode cX9_holder 2 = .ok (.iconst 0, 1) := by decide +kernel
theorem dX9_holder_3 : decode cX9_holder 3 = .ok (.istore_n 3, 1) := by decide +kernel
theorem dX9_holder_4 : decode cX9_holder 4 = .ok (.iload_n 3, 1) := by decide +kernel
theorem dX9_holder_5 : decode cX9_holder 5 = .ok (.bipush 6, 2) := by decide +kernel
theorem dX9_holder_7 : decode cX9_holder 7 = .ok (.if_icmp .ge 29, 3) := by decide +kernel
theorem dX9_holder_10 : decode cX9_holder 10 = .ok (.aload_n 0, 1) := by decide +kernel
theorem dX9_holder_11 : decode cX9_holder 11 = .ok (.getfield 13, 3) := by decide +kernel
theorem dX9_holder_14 : decode cX9_holder 14 = .ok (.sipush 332, 3) := by decide +kernel
theorem dX9_holder_17 : decode cX9_holder 17 = .ok (.iload_n 3, 1) := by decide +kernel
theorem dX9_holder_18 : decode cX9_holder 18 = .ok (.iadd, 1) := by decide +kernel
theorem dX9_holder_19 : decode cX9_holder 19 = .ok (.iaload, 1) := by decide +kernel
theorem dX9_holder_20 : decode cX9_holder 20 = .ok (.iload_n 1, 1) := by decide +kernel
theorem dX9_holder_21 : decode cX9_holder 21 = .ok (.if_icmp .ne 7, 3) := by decide +kernel
theorem dX9_holder_24 : decode cX9_holder 24 = .ok (.iload_n 3, 1) := by decide +kernel
theorem dX9_holder_25 : decode cX9_holder 25 = .ok (.goto 4, 3) := by decide +kernel
theorem dX9_holder_28 : decode cX9_holder 28 = .ok (.iload_n 2, 1) := by decide +kernel
theorem dX9_holder_29 : decode cX9_holder 29 = .ok (.istore_n 2, 1) := by decide +kernel
theorem dX9_holder_30 : decode cX9_holder 30 = .ok (.iinc 3 1, 3) := by decide +kernel
theorem dX9_holder_33 : decode cX9_holder 33 = .ok (.goto (-29), 3) := by decide +kernel
theorem dX9_holder_36 : decode cX9_holder 36 = .ok (.iload_n 2, 1) := by decide +kernel
theorem dX9_holder_37 : decode cX9_holder 37 = .ok (.ireturn, 1) := by decide +kernel
theorem dX9_aborts_0 : decode cX9_aborts 0 = .ok (.aload_n 0, 1) := by decide +kernel
theorem dX9_aborts_1 : decode cX9_aborts 1 = .ok (.getfield 13, 3) := by decide +kernel
theorem dX9_aborts_4 : decode cX9_aborts 4 = .ok (.sipush 276, 3) := by decide +kernel
theorem dX9_aborts_7 : decode cX9_aborts 7 = .ok (.bipush 11, 2) := by decide +kernel
theorem dX9_aborts_9 : decode cX9_aborts 9 = .ok (.iload_n 1, 1) := by decide +kernel
theorem dX9_aborts_10 : decode cX9_aborts 10 = .ok (.imul, 1) := by decide +kernel
theorem dX9_aborts_11 : decode cX9_aborts 11 = .ok (.iadd, 1) := by decide +kernel
theorem dX9_aborts_12 : decode cX9_aborts 12 = .ok (.iconst 4, 1) := by decide +kernel
theorem dX9_aborts_13 : decode cX9_aborts 13 = .ok (.iastore, 1) := by decide +kernel
theorem dX9_aborts_14 : decode cX9_aborts 14 = .ok (.return_, 1) := by decide +kernel
theorem dX9_isGoing_0 : decode cX9_isGoing 0 = .ok (.aload_n 0, 1) := by decide +kernel
theorem dX9_isGoing_1 : decode cX9_isGoing 1 = .ok (.getfield 13, 3) := by decide +kernel
theorem dX9_isGoing_4 : decode cX9_isGoing 4 = .ok (.sipush 276, 3) := by decide +kernel
theorem dX9_isGoing_7 : decode cX9_isGoing 7 = .ok (.bipush 11, 2) := by decide +kernel
theorem dX9_isGoing_9 : decode cX9_isGoing 9 = .ok (.iload_n 1, 1) := by decide +kernel
theorem dX9_isGoing_10 : decode cX9_isGoing 10 = .ok (.imul, 1) := by decide +kernel
theorem dX9_isGoing_11 : decode cX9_isGoing 11 = .ok (.iadd, 1) := by decide +kernel
theorem dX9_isGoing_12 : decode cX9_isGoing 12 = .ok (.iaload, 1) := by decide +kernel
theorem dX9_isGoing_13 : decode cX9_isGoing 13 = .ok (.iconst 1, 1) := by decide +kernel
theorem dX9_isGoing_14 : decode cX9_isGoing 14 = .ok (.if_icmp .ne 7, 3) := by decide +kernel
theorem dX9_isGoing_17 : decode cX9_isGoing 17 = .ok (.iconst 1, 1) := by decide +kernel
theorem dX9_isGoing_18 : decode cX9_isGoing 18 = .ok (.goto 4, 3) := by decide +kernel
theorem dX9_isGoing_21 : decode cX9_isGoing 21 = .ok (.iconst 0, 1) := by decide +kernel
theorem dX9_isGoing_22 : decode cX9_isGoing 22 = .ok (.ireturn, 1) := by decide +kernel
theorem dX9_walkerOf_0 : decode cX9_walkerOf 0 = .ok (.aload_n 0, 1) := by decide +kernel
theorem dX9_walkerOf_1 : decode cX9_walkerOf 1 = .ok (.getfield 13, 3) := by decide +kernel
theorem dX9_walkerOf_4 : decode cX9_walkerOf 4 = .ok (.sipush 276, 3) := by decide +kernel
theorem dX9_walkerOf_7 : decode cX9_walkerOf 7 = .ok (.bipush 11, 2) := by decide +kernel
theorem dX9_walkerOf_9 : decode cX9_walkerOf 9 = .ok (.iload_n 1, 1) := by decide +kernel
theorem dX9_walkerOf_10 : decode cX9_walkerOf 10 = .ok (.imul, 1) := by decide +kernel
theorem dX9_walkerOf_11 : decode cX9_walkerOf 11 = .ok (.iadd, 1) := by decide +kernel
theorem dX9_walkerOf_12 : decode cX9_walkerOf 12 = .ok (.iload_n 2, 1) := by decide +kernel
theorem dX9_walkerOf_13 : decode cX9_walkerOf 13 = .ok (.iadd, 1) := by decide +kernel
theorem dX9_walkerOf_14 : decode cX9_walkerOf 14 = .ok (.iaload, 1) := by decide +kernel
theorem dX9_walkerOf_15 : decode cX9_walkerOf 15 = .ok (.ireturn, 1) := by decide +kernel
theorem dX9_clearsTag_0 : decode cX9_clearsTag 0 = .ok (.iconst 0, 1) := by decide +kernel
theorem dX9_clearsTag_1 : decode cX9_clearsTag 1 = .ok (.istore_n 2, 1) := by decide +kernel
theorem dX9_clearsTag_2 : decode cX9_clearsTag 2 = .ok (.iload_n 2, 1) := by decide +kernel
theorem dX9_clearsTag_3 : decode cX9_clearsTag 3 = .ok (.bipush 6, 2) := by decide +kernel
theorem dX9_clearsTag_5 : decode cX9_clearsTag 5 = .ok (.if_icmp .ge 103, 3) := by decide +kernel
theorem dX9_clearsTag_8 : decode cX9_clearsTag 8 = .ok (.aload_n 0, 1) := by decide +kernel
theorem dX9_clearsTag_9 : decode cX9_clearsTag 9 = .ok (.getfield 13, 3) := by decide +kernel
theorem dX9_clearsTag_12 : decode cX9_clearsTag 12 = .ok (.sipush 192, 3) := by decide +kernel
theorem dX9_clearsTag_15 : decode cX9_clearsTag 15 = .ok (.bipush 7, 2) := by decide +kernel
theorem dX9_clearsTag_17 : decode cX9_clearsTag 17 = .ok (.iload_n 2, 1) := by decide +kernel
theorem dX9_clearsTag_18 : decode cX9_clearsTag 18 = .ok (.imul, 1) := by decide +kernel
theorem dX9_clearsTag_19 : decode cX9_clearsTag 19 = .ok (.iadd, 1) := by decide +kernel
theorem dX9_clearsTag_20 : decode cX9_clearsTag 20 = .ok (.aload_n 0, 1) := by decide +kernel
theorem dX9_clearsTag_21 : decode cX9_clearsTag 21 = .ok (.getfield 13, 3) := by decide +kernel
theorem dX9_clearsTag_24 : decode cX9_clearsTag 24 = .ok (.sipush 192, 3) := by decide +kernel
theorem dX9_clearsTag_27 : decode cX9_clearsTag 27 = .ok (.bipush 7, 2) := by decide +kernel
theorem dX9_clearsTag_29 : decode cX9_clearsTag 29 = .ok (.iload_n 2, 1) := by decide +kernel
theorem dX9_clearsTag_30 : decode cX9_clearsTag 30 = .ok (.imul, 1) := by decide +kernel
theorem dX9_clearsTag_31 : decode cX9_clearsTag 31 = .ok (.iadd, 1) := by decide +kernel
theorem dX9_clearsTag_32 : decode cX9_clearsTag 32 = .ok (.iaload, 1) := by decide +kernel
theorem dX9_clearsTag_33 : decode cX9_clearsTag 33 = .ok (.iload_n 1, 1) := by decide +kernel
theorem dX9_clearsTag_34 : decode cX9_clearsTag 34 = .ok (.if_icmp .ne 7, 3) := by decide +kernel
theorem dX9_clearsTag_37 : decode cX9_clearsTag 37 = .ok (.iconst (-1), 1) := by decide +kernel
theorem dX9_clearsTag_38 : decode cX9_clearsTag 38 = .ok (.goto 16, 3) := by decide +kernel
theorem dX9_clearsTag_41 : decode cX9_clearsTag 41 = .ok (.aload_n 0, 1) := by decide +kernel
theorem dX9_clearsTag_42 : decode cX9_clearsTag 42 = .ok (.getfield 13, 3) := by decide +kernel
theorem dX9_clearsTag_45 : decode cX9_clearsTag 45 = .ok (.sipush 192, 3) := by decide +kernel
theorem dX9_clearsTag_48 : decode cX9_clearsTag 48 = .ok (.bipush 7, 2) := by decide +kernel
theorem dX9_clearsTag_50 : decode cX9_clearsTag 50 = .ok (.iload_n 2, 1) := by decide +kernel
theorem dX9_clearsTag_51 : decode cX9_clearsTag 51 = .ok (.imul, 1) := by decide +kernel
theorem dX9_clearsTag_52 : decode cX9_clearsTag 52 = .ok (.iadd, 1) := by decide +kernel
theorem dX9_clearsTag_53 : decode cX9_clearsTag 53 = .ok (.iaload, 1) := by decide +kernel
theorem dX9_clearsTag_54 : decode cX9_clearsTag 54 = .ok (.iastore, 1) := by decide +kernel
theorem dX9_clearsTag_55 : decode cX9_clearsTag 55 = .ok (.aload_n 0, 1) := by decide +kernel
theorem dX9_clearsTag_56 : decode cX9_clearsTag 56 = .ok (.getfield 13, 3) := by decide +kernel
theorem dX9_clearsTag_59 : decode cX9_clearsTag 59 = .ok (.sipush 234, 3) := by decide +kernel
theorem dX9_clearsTag_62 : decode cX9_clearsTag 62 = .ok (.bipush 7, 2) := by decide +kernel
theorem dX9_clearsTag_64 : decode cX9_clearsTag 64 = .ok (.iload_n 2, 1) := by decide +kernel
theorem dX9_clearsTag_65 : decode cX9_clearsTag 65 = .ok (.imul, 1) := by decide +kernel
theorem dX9_clearsTag_66 : decode cX9_clearsTag 66 = .ok (.iadd, 1) := by decide +kernel
theorem dX9_clearsTag_67 : decode cX9_clearsTag 67 = .ok (.aload_n 0, 1) := by decide +kernel
theorem dX9_clearsTag_68 : decode cX9_clearsTag 68 = .ok (.getfield 13, 3) := by decide +kernel
theorem dX9_clearsTag_71 : decode cX9_clearsTag 71 = .ok (.sipush 234, 3) := by decide +kernel
theorem dX9_clearsTag_74 : decode cX9_clearsTag 74 = .ok (.bipush 7, 2) := by decide +kernel
theorem dX9_clearsTag_76 : decode cX9_clearsTag 76 = .ok (.iload_n 2, 1) := by decide +kernel
theorem dX9_clearsTag_77 : decode cX9_clearsTag 77 = .ok (.imul, 1) := by decide +kernel
theorem dX9_clearsTag_78 : decode cX9_clearsTag 78 = .ok (.iadd, 1) := by decide +kernel
theorem dX9_clearsTag_79 : decode cX9_clearsTag 79 = .ok (.iaload, 1) := by decide +kernel
theorem dX9_clearsTag_80 : decode cX9_clearsTag 80 = .ok (.iload_n 1, 1) := by decide +kernel
theorem dX9_clearsTag_81 : decode cX9_clearsTag 81 = .ok (.if_icmp .ne 7, 3) := by decide +kernel
theorem dX9_clearsTag_84 : decode cX9_clearsTag 84 = .ok (.iconst (-1), 1) := by decide +kernel
theorem dX9_clearsTag_85 : decode cX9_clearsTag 85 = .ok (.goto 16, 3) := by decide +kernel
theorem dX9_clearsTag_88 : decode cX9_clearsTag 88 = .ok (.aload_n 0, 1) := by decide +kernel
theorem dX9_clearsTag_89 : decode cX9_clearsTag 89 = .ok (.getfield 13, 3) := by decide +kernel
theorem dX9_clearsTag_92 : decode cX9_clearsTag 92 = .ok (.sipush 234, 3) := by decide +kernel
theorem dX9_clearsTag_95 : decode cX9_clearsTag 95 = .ok (.bipush 7, 2) := by decide +kernel
theorem dX9_clearsTag_97 : decode cX9_clearsTag 97 = .ok (.iload_n 2, 1) := by decide +kernel
theorem dX9_clearsTag_98 : decode cX9_clearsTag 98 = .ok (.imul, 1) := by decide +kernel
theorem dX9_clearsTag_99 : decode cX9_clearsTag 99 = .ok (.iadd, 1) := by decide +kernel
theorem dX9_clearsTag_100 : decode cX9_clearsTag 100 = .ok (.iaload, 1) := by decide +kernel
theorem dX9_clearsTag_101 : decode cX9_clearsTag 101 = .ok (.iastore, 1) := by decide +kernel
theorem dX9_clearsTag_102 : decode cX9_clearsTag 102 = .ok (.iinc 2 1, 3) := by decide +kernel
theorem dX9_clearsTag_105 : decode cX9_clearsTag 105 = .ok (.goto (-103), 3) := by decide +kernel
theorem dX9_clearsTag_108 : decode cX9_clearsTag 108 = .ok (.iconst 0, 1) := by decide +kernel
theorem dX9_clearsTag_109 : decode cX9_clearsTag 109 = .ok (.istore_n 2, 1) := by decide +kernel
theorem dX9_clearsTag_110 : decode cX9_clearsTag 110 = .ok (.iload_n 2, 1) := by decide +kernel
theorem dX9_clearsTag_111 : decode cX9_clearsTag 111 = .ok (.iconst 4, 1) := by decide +kernel
theorem dX9_clearsTag_112 : decode cX9_clearsTag 112 = .ok (.if_icmp .ge 33, 3) := by decide +kernel
theorem dX9_clearsTag_115 : decode cX9_clearsTag 115 = .ok (.aload_n 0, 1) := by decide +kernel
theorem dX9_clearsTag_116 : decode cX9_clearsTag 116 = .ok (.iload_n 2, 1) := by decide +kernel
theorem dX9_clearsTag_117 : decode cX9_clearsTag 117 = .ok (.invokevirtual 80, 3) := by decide +kernel
theorem dX9_clearsTag_120 : decode cX9_clearsTag 120 = .ok (.ifCond .eq 19, 3) := by decide +kernel
theorem dX9_clearsTag_123 : decode cX9_clearsTag 123 = .ok (.aload_n 0, 1) := by decide +kernel
theorem dX9_clearsTag_124 : decode cX9_clearsTag 124 = .ok (.iload_n 2, 1) := by decide +kernel
theorem dX9_clearsTag_125 : decode cX9_clearsTag 125 = .ok (.bipush 9, 2) := by decide +kernel
theorem dX9_clearsTag_127 : decode cX9_clearsTag 127 = .ok (.invokevirtual 83, 3) := by decide +kernel
theorem dX9_clearsTag_130 : decode cX9_clearsTag 130 = .ok (.iload_n 1, 1) := by decide +kernel
theorem dX9_clearsTag_131 : decode cX9_clearsTag 131 = .ok (.if_icmp .ne 8, 3) := by decide +kernel
theorem dX9_clearsTag_134 : decode cX9_clearsTag 134 = .ok (.aload_n 0, 1) := by decide +kernel
theorem dX9_clearsTag_135 : decode cX9_clearsTag 135 = .ok (.iload_n 2, 1) := by decide +kernel
theorem dX9_clearsTag_136 : decode cX9_clearsTag 136 = .ok (.invokevirtual 87, 3) := by decide +kernel
theorem dX9_clearsTag_139 : decode cX9_clearsTag 139 = .ok (.iinc 2 1, 3) := by decide +kernel
theorem dX9_clearsTag_142 : decode cX9_clearsTag 142 = .ok (.goto (-32), 3) := by decide +kernel
theorem dX9_clearsTag_145 : decode cX9_clearsTag 145 = .ok (.return_, 1) := by decide +kernel
theorem dX9_freeTag_0 : decode cX9_freeTag 0 = .ok (.iconst 0, 1) := by decide +kernel
theorem dX9_freeTag_1 : decode cX9_freeTag 1 = .ok (.istore_n 1, 1) := by decide +kernel
theorem dX9_freeTag_2 : decode cX9_freeTag 2 = .ok (.iload_n 1, 1) := by decide +kernel
theorem dX9_freeTag_3 : decode cX9_freeTag 3 = .ok (.iconst 3, 1) := by decide +kernel
theorem dX9_freeTag_4 : decode cX9_freeTag 4 = .ok (.if_icmp .ge 17, 3) := by decide +kernel
theorem dX9_freeTag_7 : decode cX9_freeTag 7 = .ok (.aload_n 0, 1) := by decide +kernel
theorem dX9_freeTag_8 : decode cX9_freeTag 8 = .ok (.iload_n 1, 1) := by decide +kernel
theorem dX9_freeTag_9 : decode cX9_freeTag 9 = .ok (.invokevirtual 91, 3) := by decide +kernel
theorem dX9_freeTag_12 : decode cX9_freeTag 12 = .ok (.ifCond .lt 9, 3) := by decide +kernel
theorem dX9_freeTag_15 : decode cX9_freeTag 15 = .ok (.iinc 1 1, 3) := by decide +kernel
theorem dX9_freeTag_18 : decode cX9_freeTag 18 = .ok (.goto (-16), 3) := by decide +kernel
theorem dX9_freeTag_21 : decode cX9_freeTag 21 = .ok (.iload_n 1, 1) := by decide +kernel
theorem dX9_freeTag_22 : decode cX9_freeTag 22 = .ok (.iconst 3, 1) := by decide +kernel
theorem dX9_freeTag_23 : decode cX9_freeTag 23 = .ok (.if_icmp .ge 5, 3) := by decide +kernel
theorem dX9_freeTag_26 : decode cX9_freeTag 26 = .ok (.iload_n 1, 1) := by decide +kernel
theorem dX9_freeTag_27 : decode cX9_freeTag 27 = .ok (.ireturn, 1) := by decide +kernel
theorem dX9_freeTag_28 : decode cX9_freeTag 28 = .ok (.iconst (-1), 1) := by decide +kernel
theorem dX9_freeTag_29 : decode cX9_freeTag 29 = .ok (.istore_n 2, 1) := by decide +kernel
theorem dX9_freeTag_30 : decode cX9_freeTag 30 = .ok (.iconst 0, 1) := by decide +kernel
theorem dX9_freeTag_31 : decode cX9_freeTag 31 = .ok (.istore_n 3, 1) := by decide +kernel
theorem dX9_freeTag_32 : decode cX9_freeTag 32 = .ok (.iload_n 3, 1) := by decide +kernel
theorem dX9_freeTag_33 : decode cX9_freeTag 33 = .ok (.bipush 6, 2) := by decide +kernel
theorem dX9_freeTag_35 : decode cX9_freeTag 35 = .ok (.if_icmp .ge 67, 3) := by decide +kernel
theorem dX9_freeTag_38 : decode cX9_freeTag 38 = .ok (.aload_n 0, 1) := by decide +kernel
theorem dX9_freeTag_39 : decode cX9_freeTag 39 = .ok (.getfield 13, 3) := by decide +kernel
theorem dX9_freeTag_42 : decode cX9_freeTag 42 = .ok (.sipush 332, 3) := by decide +kernel
theorem dX9_freeTag_45 : decode cX9_freeTag 45 = .ok (.iload_n 3, 1) := by decide +kernel
theorem dX9_freeTag_46 : decode cX9_freeTag 46 = .ok (.iadd, 1) := by decide +kernel
theorem dX9_freeTag_47 : decode cX9_freeTag 47 = .ok (.iaload, 1) := by decide +kernel
theorem dX9_freeTag_48 : decode cX9_freeTag 48 = .ok (.ifCond .lt 34, 3) := by decide +kernel
theorem dX9_freeTag_51 : decode cX9_freeTag 51 = .ok (.iload_n 2, 1) := by decide +kernel
theorem dX9_freeTag_52 : decode cX9_freeTag 52 = .ok (.ifCond .lt 26, 3) := by decide +kernel
theorem dX9_freeTag_55 : decode cX9_freeTag 55 = .ok (.aload_n 0, 1) := by decide +kernel
theorem dX9_freeTag_56 : decode cX9_freeTag 56 = .ok (.getfield 13, 3) := by decide +kernel
theorem dX9_freeTag_59 : decode cX9_freeTag 59 = .ok (.sipush 338, 3) := by decide +kernel
theorem dX9_freeTag_62 : decode cX9_freeTag 62 = .ok (.iload_n 3, 1) := by decide +kernel
theorem dX9_freeTag_63 : decode cX9_freeTag 63 = .ok (.iadd, 1) := by decide +kernel
theorem dX9_freeTag_64 : decode cX9_freeTag 64 = .ok (.iaload, 1) := by decide +kernel
theorem dX9_freeTag_65 : decode cX9_freeTag 65 = .ok (.aload_n 0, 1) := by decide +kernel
theorem dX9_freeTag_66 : decode cX9_freeTag 66 = .ok (.getfield 13, 3) := by decide +kernel
theorem dX9_freeTag_69 : decode cX9_freeTag 69 = .ok (.sipush 338, 3) := by decide +kernel
theorem dX9_freeTag_72 : decode cX9_freeTag 72 = .ok (.iload_n 2, 1) := by decide +kernel
theorem dX9_freeTag_73 : decode cX9_freeTag 73 = .ok (.iadd, 1) := by decide +kernel
theorem dX9_freeTag_74 : decode cX9_freeTag 74 = .ok (.iaload, 1) := by decide +kernel
theorem dX9_freeTag_75 : decode cX9_freeTag 75 = .ok (.if_icmp .ge 7, 3) := by decide +kernel
theorem dX9_freeTag_78 : decode cX9_freeTag 78 = .ok (.iconst 1, 1) := by decide +kernel
theorem dX9_freeTag_79 : decode cX9_freeTag 79 = .ok (.goto 4, 3) := by decide +kernel
theorem dX9_freeTag_82 : decode cX9_freeTag 82 = .ok (.iconst 0, 1) := by decide +kernel
theorem dX9_freeTag_83 : decode cX9_freeTag 83 = .ok (.istore 4, 2) := by decide +kernel
theorem dX9_freeTag_85 : decode cX9_freeTag 85 = .ok (.iload 4, 2) := by decide +kernel
theorem dX9_freeTag_87 : decode cX9_freeTag 87 = .ok (.ifCond .eq 7, 3) := by decide +kernel
theorem dX9_freeTag_90 : decode cX9_freeTag 90 = .ok (.iload_n 3, 1) := by decide +kernel
theorem dX9_freeTag_91 : decode cX9_freeTag 91 = .ok (.goto 4, 3) := by decide +kernel
theorem dX9_freeTag_94 : decode cX9_freeTag 94 = .ok (.iload_n 2, 1) := by decide +kernel
theorem dX9_freeTag_95 : decode cX9_freeTag 95 = .ok (.istore_n 2, 1) := by decide +kernel
theorem dX9_freeTag_96 : decode cX9_freeTag 96 = .ok (.iinc 3 1, 3) := by decide +kernel
theorem dX9_freeTag_99 : decode cX9_freeTag 99 = .ok (.goto (-67), 3) := by decide +kernel
theorem dX9_freeTag_102 : decode cX9_freeTag 102 = .ok (.aload_n 0, 1) := by decide +kernel
theorem dX9_freeTag_103 : decode cX9_freeTag 103 = .ok (.getfield 13, 3) := by decide +kernel
theorem dX9_freeTag_106 : decode cX9_freeTag 106 = .ok (.sipush 332, 3) := by decide +kernel
theorem dX9_freeTag_109 : decode cX9_freeTag 109 = .ok (.iload_n 2, 1) := by decide +kernel
theorem dX9_freeTag_110 : decode cX9_freeTag 110 = .ok (.iadd, 1) := by decide +kernel
theorem dX9_freeTag_111 : decode cX9_freeTag 111 = .ok (.iaload, 1) := by decide +kernel
theorem dX9_freeTag_112 : decode cX9_freeTag 112 = .ok (.istore_n 3, 1) := by decide +kernel
theorem dX9_freeTag_113 : decode cX9_freeTag 113 = .ok (.aload_n 0, 1) := by decide +kernel
theorem dX9_freeTag_114 : decode cX9_freeTag 114 = .ok (.getfield 13, 3) := by decide +kernel
theorem dX9_freeTag_117 : decode cX9_freeTag 117 = .ok (.sipush 332, 3) := by decide +kernel
theorem dX9_freeTag_120 : decode cX9_freeTag 120 = .ok (.iload_n 2, 1) := by decide +kernel
theorem dX9_freeTag_121 : decode cX9_freeTag 121 = .ok (.iadd, 1) := by decide +kernel
theorem dX9_freeTag_122 : decode cX9_freeTag 122 = .ok (.iconst (-1), 1) := by decide +kernel
theorem dX9_freeTag_123 : decode cX9_freeTag 123 = .ok (.iastore, 1) := by decide +kernel
theorem dX9_freeTag_124 : decode cX9_freeTag 124 = .ok (.aload_n 0, 1) := by decide +kernel
theorem dX9_freeTag_125 : decode cX9_freeTag 125 = .ok (.iload_n 3, 1) := by decide +kernel
theorem dX9_freeTag_126 : decode cX9_freeTag 126 = .ok (.invokevirtual 94, 3) := by decide +kernel
theorem dX9_freeTag_129 : decode cX9_freeTag 129 = .ok (.iload_n 3, 1) := by decide +kernel
theorem dX9_freeTag_130 : decode cX9_freeTag 130 = .ok (.ireturn, 1) := by decide +kernel
theorem dX9_current_0 : decode cX9_current 0 = .ok (.aload_n 0, 1) := by decide +kernel
theorem dX9_current_1 : decode cX9_current 1 = .ok (.iconst 0, 1) := by decide +kernel
theorem dX9_current_2 : decode cX9_current 2 = .ok (.putfield 1, 3) := by decide +kernel
theorem dX9_current_5 : decode cX9_current 5 = .ok (.iload_n 1, 1) := by decide +kernel
theorem dX9_current_6 : decode cX9_current 6 = .ok (.invokestatic 76, 3) := by decide +kernel
theorem dX9_current_9 : decode cX9_current 9 = .ok (.ifCond .eq 16, 3) := by decide +kernel
theorem dX9_current_12 : decode cX9_current 12 = .ok (.aload_n 0, 1) := by decide +kernel
theorem dX9_current_13 : decode cX9_current 13 = .ok (.getfield 13, 3) := by decide +kernel
theorem dX9_current_16 : decode cX9_current 16 = .ok (.sipush 326, 3) := by decide +kernel
theorem dX9_current_19 : decode cX9_current 19 = .ok (.iload_n 1, 1) := by decide +kernel
theorem dX9_current_20 : decode cX9_current 20 = .ok (.iadd, 1) := by decide +kernel
theorem dX9_current_21 : decode cX9_current 21 = .ok (.iaload, 1) := by decide +kernel
theorem dX9_current_22 : decode cX9_current 22 = .ok (.ifCond .ge 5, 3) := by decide +kernel
theorem dX9_current_25 : decode cX9_current 25 = .ok (.iconst (-1), 1) := by decide +kernel
theorem dX9_current_26 : decode cX9_current 26 = .ok (.ireturn, 1) := by decide +kernel
theorem dX9_current_27 : decode cX9_current 27 = .ok (.aload_n 0, 1) := by decide +kernel
theorem dX9_current_28 : decode cX9_current 28 = .ok (.getfield 13, 3) := by decide +kernel
theorem dX9_current_31 : decode cX9_current 31 = .ok (.sipush 344, 3) := by decide +kernel
theorem dX9_current_34 : decode cX9_current 34 = .ok (.iaload, 1) := by decide +kernel
theorem dX9_current_35 : decode cX9_current 35 = .ok (.iload_n 1, 1) := by decide +kernel
theorem dX9_current_36 : decode cX9_current 36 = .ok (.if_icmp .eq 100, 3) := by decide +kernel
theorem dX9_current_39 : decode cX9_current 39 = .ok (.aload_n 0, 1) := by decide +kernel
theorem dX9_current_40 : decode cX9_current 40 = .ok (.getfield 13, 3) := by decide +kernel
theorem dX9_current_43 : decode cX9_current 43 = .ok (.sipush 320, 3) := by decide +kernel
theorem dX9_current_46 : decode cX9_current 46 = .ok (.dup2, 1) := by decide +kernel
theorem dX9_current_47 : decode cX9_current 47 = .ok (.iaload, 1) := by decide +kernel
theorem dX9_current_48 : decode cX9_current 48 = .ok (.iconst 1, 1) := by decide +kernel
theorem dX9_current_49 : decode cX9_current 49 = .ok (.iadd, 1) := by decide +kernel
theorem dX9_current_50 : decode cX9_current 50 = .ok (.iastore, 1) := by decide +kernel
theorem dX9_current_51 : decode cX9_current 51 = .ok (.aload_n 0, 1) := by decide +kernel
theorem dX9_current_52 : decode cX9_current 52 = .ok (.getfield 13, 3) := by decide +kernel
theorem dX9_current_55 : decode cX9_current 55 = .ok (.sipush 344, 3) := by decide +kernel
theorem dX9_current_58 : decode cX9_current 58 = .ok (.iaload, 1) := by decide +kernel
theorem dX9_current_59 : decode cX9_current 59 = .ok (.ifCond .lt 28, 3) := by decide +kernel
theorem dX9_current_62 : decode cX9_current 62 = .ok (.aload_n 0, 1) := by decide +kernel
theorem dX9_current_63 : decode cX9_current 63 = .ok (.getfield 13, 3) := by decide +kernel
theorem dX9_current_66 : decode cX9_current 66 = .ok (.sipush 338, 3) := by decide +kernel
theorem dX9_current_69 : decode cX9_current 69 = .ok (.aload_n 0, 1) := by decide +kernel
theorem dX9_current_70 : decode cX9_current 70 = .ok (.getfield 13, 3) := by decide +kernel
theorem dX9_current_73 : decode cX9_current 73 = .ok (.sipush 344, 3) := by decide +kernel
theorem dX9_current_76 : decode cX9_current 76 = .ok (.iaload, 1) := by decide +kernel
theorem dX9_current_77 : decode cX9_current 77 = .ok (.iadd, 1) := by decide +kernel
theorem dX9_current_78 : decode cX9_current 78 = .ok (.aload_n 0, 1) := by decide +kernel
theorem dX9_current_79 : decode cX9_current 79 = .ok (.getfield 13, 3) := by decide +kernel
theorem dX9_current_82 : decode cX9_current 82 = .ok (.sipush 320, 3) := by decide +kernel
theorem dX9_current_85 : decode cX9_current 85 = .ok (.iaload, 1) := by decide +kernel
theorem dX9_current_86 : decode cX9_current 86 = .ok (.iastore, 1) := by decide +kernel
theorem dX9_current_87 : decode cX9_current 87 = .ok (.aload_n 0, 1) := by decide +kernel
theorem dX9_current_88 : decode cX9_current 88 = .ok (.getfield 13, 3) := by decide +kernel
theorem dX9_current_91 : decode cX9_current 91 = .ok (.sipush 332, 3) := by decide +kernel
theorem dX9_current_94 : decode cX9_current 94 = .ok (.iload_n 1, 1) := by decide +kernel
theorem dX9_current_95 : decode cX9_current 95 = .ok (.iadd, 1) := by decide +kernel
theorem dX9_current_96 : decode cX9_current 96 = .ok (.aload_n 0, 1) := by decide +kernel
theorem dX9_current_97 : decode cX9_current 97 = .ok (.getfield 13, 3) := by decide +kernel
theorem dX9_current_100 : decode cX9_current 100 = .ok (.sipush 332, 3) := by decide +kernel
theorem dX9_current_103 : decode cX9_current 103 = .ok (.iload_n 1, 1) := by decide +kernel
theorem dX9_current_104 : decode cX9_current 104 = .ok (.iadd, 1) := by decide +kernel
theorem dX9_current_105 : decode cX9_current 105 = .ok (.iaload, 1) := by decide +kernel
theorem dX9_current_106 : decode cX9_current 106 = .ok (.ifCond .lt 16, 3) := by decide +kernel
theorem dX9_current_109 : decode cX9_current 109 = .ok (.aload_n 0, 1) := by decide +kernel
theorem dX9_current_110 : decode cX9_current 110 = .ok (.getfield 13, 3) := by decide +kernel
theorem dX9_current_113 : decode cX9_current 113 = .ok (.sipush 332, 3) := by decide +kernel
theorem dX9_current_116 : decode cX9_current 116 = .ok (.iload_n 1, 1) := by decide +kernel
theorem dX9_current_117 : decode cX9_current 117 = .ok (.iadd, 1) := by decide +kernel
theorem dX9_current_118 : decode cX9_current 118 = .ok (.iaload, 1) := by decide +kernel
theorem dX9_current_119 : decode cX9_current 119 = .ok (.goto 7, 3) := by decide +kernel
theorem dX9_current_122 : decode cX9_current 122 = .ok (.aload_n 0, 1) := by decide +kernel
theorem dX9_current_123 : decode cX9_current 123 = .ok (.invokevirtual 97, 3) := by decide +kernel
theorem dX9_current_126 : decode cX9_current 126 = .ok (.iastore, 1) := by decide +kernel
theorem dX9_current_127 : decode cX9_current 127 = .ok (.aload_n 0, 1) := by decide +kernel
theorem dX9_current_128 : decode cX9_current 128 = .ok (.getfield 13, 3) := by decide +kernel
theorem dX9_current_131 : decode cX9_current 131 = .ok (.sipush 344, 3) := by decide +kernel
theorem dX9_current_134 : decode cX9_current 134 = .ok (.iload_n 1, 1) := by decide +kernel
theorem dX9_current_135 : decode cX9_current 135 = .ok (.iastore, 1) := by decide +kernel
theorem dX9_current_136 : decode cX9_current 136 = .ok (.aload_n 0, 1) := by decide +kernel
theorem dX9_current_137 : decode cX9_current 137 = .ok (.getfield 13, 3) := by decide +kernel
theorem dX9_current_140 : decode cX9_current 140 = .ok (.sipush 332, 3) := by decide +kernel
theorem dX9_current_143 : decode cX9_current 143 = .ok (.iload_n 1, 1) := by decide +kernel
theorem dX9_current_144 : decode cX9_current 144 = .ok (.iadd, 1) := by decide +kernel
theorem dX9_current_145 : decode cX9_current 145 = .ok (.iaload, 1) := by decide +kernel
theorem dX9_current_146 : decode cX9_current 146 = .ok (.ireturn, 1) := by decide +kernel
theorem dX9_isEmpty_0 : decode cX9_isEmpty 0 = .ok (.aload_n 0, 1) := by decide +kernel
theorem dX9_isEmpty_1 : decode cX9_isEmpty 1 = .ok (.getfield 13, 3) := by decide +kernel
theorem dX9_isEmpty_4 : decode cX9_isEmpty 4 = .ok (.iload_n 1, 1) := by decide +kernel
theorem dX9_isEmpty_5 : decode cX9_isEmpty 5 = .ok (.iaload, 1) := by decide +kernel
theorem dX9_isEmpty_6 : decode cX9_isEmpty 6 = .ok (.ifCond .ge 7, 3) := by decide +kernel
theorem dX9_isEmpty_9 : decode cX9_isEmpty 9 = .ok (.iconst 1, 1) := by decide +kernel
theorem dX9_isEmpty_10 : decode cX9_isEmpty 10 = .ok (.goto 4, 3) := by decide +kernel
theorem dX9_isEmpty_13 : decode cX9_isEmpty 13 = .ok (.iconst 0, 1) := by decide +kernel
theorem dX9_isEmpty_14 : decode cX9_isEmpty 14 = .ok (.ireturn, 1) := by decide +kernel
theorem dX9_isUnder_0 : decode cX9_isUnder 0 = .ok (.aload_n 0, 1) := by decide +kernel
theorem dX9_isUnder_1 : decode cX9_isUnder 1 = .ok (.iload_n 1, 1) := by decide +kernel
theorem dX9_isUnder_2 : decode cX9_isUnder 2 = .ok (.invokevirtual 101, 3) := by decide +kernel
theorem dX9_isUnder_5 : decode cX9_isUnder 5 = .ok (.ifCond .ne 43, 3) := by decide +kernel
theorem dX9_isUnder_8 : decode cX9_isUnder 8 = .ok (.iload_n 2, 1) := by decide +kernel
theorem dX9_isUnder_9 : decode cX9_isUnder 9 = .ok (.aload_n 0, 1) := by decide +kernel
theorem dX9_isUnder_10 : decode cX9_isUnder 10 = .ok (.getfield 13, 3) := by decide +kernel
theorem dX9_isUnder_13 : decode cX9_isUnder 13 = .ok (.iload_n 1, 1) := by decide +kernel
theorem dX9_isUnder_14 : decode cX9_isUnder 14 = .ok (.iconst 1, 1) := by decide +kernel
theorem dX9_isUnder_15 : decode cX9_isUnder 15 = .ok (.iadd, 1) := by decide +kernel
theorem dX9_isUnder_16 : decode cX9_isUnder 16 = .ok (.iaload, 1) := by decide +kernel
theorem dX9_isUnder_17 : decode cX9_isUnder 17 = .ok (.invokestatic 55, 3) := by decide +kernel
theorem dX9_isUnder_20 : decode cX9_isUnder 20 = .ok (.idiv, 1) := by decide +kernel
theorem dX9_isUnder_21 : decode cX9_isUnder 21 = .ok (.aload_n 0, 1) := by decide +kernel
theorem dX9_isUnder_22 : decode cX9_isUnder 22 = .ok (.getfield 13, 3) := by decide +kernel
theorem dX9_isUnder_25 : decode cX9_isUnder 25 = .ok (.iload_n 1, 1) := by decide +kernel
theorem dX9_isUnder_26 : decode cX9_isUnder 26 = .ok (.iconst 2, 1) := by decide +kernel
theorem dX9_isUnder_27 : decode cX9_isUnder 27 = .ok (.iadd, 1) := by decide +kernel
theorem dX9_isUnder_28 : decode cX9_isUnder 28 = .ok (.iaload, 1) := by decide +kernel
theorem dX9_isUnder_29 : decode cX9_isUnder 29 = .ok (.aload_n 0, 1) := by decide +kernel
theorem dX9_isUnder_30 : decode cX9_isUnder 30 = .ok (.getfield 13, 3) := by decide +kernel
theorem dX9_isUnder_33 : decode cX9_isUnder 33 = .ok (.iload_n 1, 1) := by decide +kernel
theorem dX9_isUnder_34 : decode cX9_isUnder 34 = .ok (.iconst 1, 1) := by decide +kernel
theorem dX9_isUnder_35 : decode cX9_isUnder 35 = .ok (.iadd, 1) := by decide +kernel
theorem dX9_isUnder_36 : decode cX9_isUnder 36 = .ok (.iaload, 1) := by decide +kernel
theorem dX9_isUnder_37 : decode cX9_isUnder 37 = .ok (.invokestatic 55, 3) := by decide +kernel
theorem dX9_isUnder_40 : decode cX9_isUnder 40 = .ok (.idiv, 1) := by decide +kernel
theorem dX9_isUnder_41 : decode cX9_isUnder 41 = .ok (.if_icmp .ne 7, 3) := by decide +kernel
theorem dX9_isUnder_44 : decode cX9_isUnder 44 = .ok (.iconst 1, 1) := by decide +kernel
theorem dX9_isUnder_45 : decode cX9_isUnder 45 = .ok (.goto 4, 3) := by decide +kernel
theorem dX9_isUnder_48 : decode cX9_isUnder 48 = .ok (.iconst 0, 1) := by decide +kernel
theorem dX9_isUnder_49 : decode cX9_isUnder 49 = .ok (.ireturn, 1) := by decide +kernel
theorem dX9_isUsed_0 : decode cX9_isUsed 0 = .ok (.aload_n 0, 1) := by decide +kernel
theorem dX9_isUsed_1 : decode cX9_isUsed 1 = .ok (.getfield 13, 3) := by decide +kernel
theorem dX9_isUsed_4 : decode cX9_isUsed 4 = .ok (.sipush 320, 3) := by decide +kernel
theorem dX9_isUsed_7 : decode cX9_isUsed 7 = .ok (.dup2, 1) := by decide +kernel
theorem dX9_isUsed_8 : decode cX9_isUsed 8 = .ok (.iaload, 1) := by decide +kernel
theorem dX9_isUsed_9 : decode cX9_isUsed 9 = .ok (.iconst 1, 1) := by decide +kernel
theorem dX9_isUsed_10 : decode cX9_isUsed 10 = .ok (.iadd, 1) := by decide +kernel
theorem dX9_isUsed_11 : decode cX9_isUsed 11 = .ok (.iastore, 1) := by decide +kernel
theorem dX9_isUsed_12 : decode cX9_isUsed 12 = .ok (.aload_n 0, 1) := by decide +kernel
theorem dX9_isUsed_13 : decode cX9_isUsed 13 = .ok (.getfield 13, 3) := by decide +kernel
theorem dX9_isUsed_16 : decode cX9_isUsed 16 = .ok (.iload_n 1, 1) := by decide +kernel
theorem dX9_isUsed_17 : decode cX9_isUsed 17 = .ok (.bipush 6, 2) := by decide +kernel
theorem dX9_isUsed_19 : decode cX9_isUsed 19 = .ok (.iadd, 1) := by decide +kernel
theorem dX9_isUsed_20 : decode cX9_isUsed 20 = .ok (.aload_n 0, 1) := by decide +kernel
theorem dX9_isUsed_21 : decode cX9_isUsed 21 = .ok (.getfield 13, 3) := by decide +kernel
theorem dX9_isUsed_24 : decode cX9_isUsed 24 = .ok (.sipush 320, 3) := by decide +kernel
theorem dX9_isUsed_27 : decode cX9_isUsed 27 = .ok (.iaload, 1) := by decide +kernel
theorem dX9_isUsed_28 : decode cX9_isUsed 28 = .ok (.iastore, 1) := by decide +kernel
theorem dX9_isUsed_29 : decode cX9_isUsed 29 = .ok (.return_, 1) := by decide +kernel
theorem dX9_roomIn_0 : decode cX9_roomIn 0 = .ok (.iconst (-1), 1) := by decide +kernel
theorem dX9_roomIn_1 : decode cX9_roomIn 1 = .ok (.istore 5, 2) := by decide +kernel
theorem dX9_roomIn_3 : decode cX9_roomIn 3 = .ok (.iload_n 1, 1) := by decide +kernel
theorem dX9_roomIn_4 : decode cX9_roomIn 4 = .ok (.istore 6, 2) := by decide +kernel
theorem dX9_roomIn_6 : decode cX9_roomIn 6 = .ok (.iconst 5, 1) := by decide +kernel
theorem dX9_roomIn_7 : decode cX9_roomIn 7 = .ok (.istore 7, 2) := by decide +kernel
theorem dX9_roomIn_9 : decode cX9_roomIn 9 = .ok (.iload 7, 2) := by decide +kernel
theorem dX9_roomIn_11 : decode cX9_roomIn 11 = .ok (.ifCond .lt 109, 3) := by decide +kernel
theorem dX9_roomIn_14 : decode cX9_roomIn 14 = .ok (.iload_n 1, 1) := by decide +kernel
theorem dX9_roomIn_15 : decode cX9_roomIn 15 = .ok (.bipush 7, 2) := by decide +kernel
theorem dX9_roomIn_17 : decode cX9_roomIn 17 = .ok (.iload 7, 2) := by decide +kernel
theorem dX9_roomIn_19 : decode cX9_roomIn 19 = .ok (.imul, 1) := by decide +kernel
theorem dX9_roomIn_20 : decode cX9_roomIn 20 = .ok (.iadd, 1) := by decide +kernel
theorem dX9_roomIn_21 : decode cX9_roomIn 21 = .ok (.istore 8, 2) := by decide +kernel
theorem dX9_roomIn_23 : decode cX9_roomIn 23 = .ok (.aload_n 0, 1) := by decide +kernel
theorem dX9_roomIn_24 : decode cX9_roomIn 24 = .ok (.getfield 13, 3) := by decide +kernel
theorem dX9_roomIn_27 : decode cX9_roomIn 27 = .ok (.iload 8, 2) := by decide +kernel
theorem dX9_roomIn_29 : decode cX9_roomIn 29 = .ok (.iaload, 1) := by decide +kernel
theorem dX9_roomIn_30 : decode cX9_roomIn 30 = .ok (.iload_n 2, 1) := by decide +kernel
theorem dX9_roomIn_31 : decode cX9_roomIn 31 = .ok (.if_icmp .ne 33, 3) := by decide +kernel
theorem dX9_roomIn_34 : decode cX9_roomIn 34 = .ok (.aload_n 0, 1) := by decide +kernel
theorem dX9_roomIn_35 : decode cX9_roomIn 35 = .ok (.getfield 13, 3) := by decide +kernel
theorem dX9_roomIn_38 : decode cX9_roomIn 38 = .ok (.iload 8, 2) := by decide +kernel
theorem dX9_roomIn_40 : decode cX9_roomIn 40 = .ok (.iconst 1, 1) := by decide +kernel
theorem dX9_roomIn_41 : decode cX9_roomIn 41 = .ok (.iadd, 1) := by decide +kernel
theorem dX9_roomIn_42 : decode cX9_roomIn 42 = .ok (.iaload, 1) := by decide +kernel
theorem dX9_roomIn_43 : decode cX9_roomIn 43 = .ok (.iload_n 3, 1) := by decide +kernel
theorem dX9_roomIn_44 : decode cX9_roomIn 44 = .ok (.if_icmp .ne 20, 3) := by decide +kernel
theorem dX9_roomIn_47 : decode cX9_roomIn 47 = .ok (.aload_n 0, 1) := by decide +kernel
theorem dX9_roomIn_48 : decode cX9_roomIn 48 = .ok (.getfield 13, 3) := by decide +kernel
theorem dX9_roomIn_51 : decode cX9_roomIn 51 = .ok (.iload 8, 2) := by decide +kernel
theorem dX9_roomIn_53 : decode cX9_roomIn 53 = .ok (.iconst 2, 1) := by decide +kernel
theorem dX9_roomIn_54 : decode cX9_roomIn 54 = .ok (.iadd, 1) := by decide +kernel
theorem dX9_roomIn_55 : decode cX9_roomIn 55 = .ok (.iaload, 1) := by decide +kernel
theorem dX9_roomIn_56 : decode cX9_roomIn 56 = .ok (.iload 4, 2) := by decide +kernel
theorem dX9_roomIn_58 : decode cX9_roomIn 58 = .ok (.if_icmp .ne 6, 3) := by decide +kernel
theorem dX9_roomIn_61 : decode cX9_roomIn 61 = .ok (.iload 8, 2) := by decide +kernel
theorem dX9_roomIn_63 : decode cX9_roomIn 63 = .ok (.ireturn, 1) := by decide +kernel
theorem dX9_roomIn_64 : decode cX9_roomIn 64 = .ok (.aload_n 0, 1) := by decide +kernel
theorem dX9_roomIn_65 : decode cX9_roomIn 65 = .ok (.iload 8, 2) := by decide +kernel
theorem dX9_roomIn_67 : decode cX9_roomIn 67 = .ok (.invokevirtual 101, 3) := by decide +kernel
theorem dX9_roomIn_70 : decode cX9_roomIn 70 = .ok (.ifCond .eq 8, 3) := by decide +kernel
theorem dX9_roomIn_73 : decode cX9_roomIn 73 = .ok (.iload 8, 2) := by decide +kernel
theorem dX9_roomIn_75 : decode cX9_roomIn 75 = .ok (.goto 5, 3) := by decide +kernel
theorem dX9_roomIn_78 : decode cX9_roomIn 78 = .ok (.iload 5, 2) := by decide +kernel
theorem dX9_roomIn_80 : decode cX9_roomIn 80 = .ok (.istore 5, 2) := by decide +kernel
theorem dX9_roomIn_82 : decode cX9_roomIn 82 = .ok (.aload_n 0, 1) := by decide +kernel
theorem dX9_roomIn_83 : decode cX9_roomIn 83 = .ok (.getfield 13, 3) := by decide +kernel
theorem dX9_roomIn_86 : decode cX9_roomIn 86 = .ok (.iload 8, 2) := by decide +kernel
theorem dX9_roomIn_88 : decode cX9_roomIn 88 = .ok (.bipush 6, 2) := by decide +kernel
theorem dX9_roomIn_90 : decode cX9_roomIn 90 = .ok (.iadd, 1) := by decide +kernel
theorem dX9_roomIn_91 : decode cX9_roomIn 91 = .ok (.iaload, 1) := by decide +kernel
theorem dX9_roomIn_92 : decode cX9_roomIn 92 = .ok (.aload_n 0, 1) := by decide +kernel
theorem dX9_roomIn_93 : decode cX9_roomIn 93 = .ok (.getfield 13, 3) := by decide +kernel
theorem dX9_roomIn_96 : decode cX9_roomIn 96 = .ok (.iload 6, 2) := by decide +kernel
theorem dX9_roomIn_98 : decode cX9_roomIn 98 = .ok (.bipush 6, 2) := by decide +kernel
theorem dX9_roomIn_100 : decode cX9_roomIn 100 = .ok (.iadd, 1) := by decide +kernel
theorem dX9_roomIn_101 : decode cX9_roomIn 101 = .ok (.iaload, 1) := by decide +kernel
theorem dX9_roomIn_102 : decode cX9_roomIn 102 = .ok (.if_icmp .ge 8, 3) := by decide +kernel
theorem dX9_roomIn_105 : decode cX9_roomIn 105 = .ok (.iload 8, 2) := by decide +kernel
theorem dX9_roomIn_107 : decode cX9_roomIn 107 = .ok (.goto 5, 3) := by decide +kernel
theorem dX9_roomIn_110 : decode cX9_roomIn 110 = .ok (.iload 6, 2) := by decide +kernel
theorem dX9_roomIn_112 : decode cX9_roomIn 112 = .ok (.istore 6, 2) := by decide +kernel
theorem dX9_roomIn_114 : decode cX9_roomIn 114 = .ok (.iinc 7 (-1), 3) := by decide +kernel
theorem dX9_roomIn_117 : decode cX9_roomIn 117 = .ok (.goto (-108), 3) := by decide +kernel
theorem dX9_roomIn_120 : decode cX9_roomIn 120 = .ok (.iload 5, 2) := by decide +kernel
theorem dX9_roomIn_122 : decode cX9_roomIn 122 = .ok (.ifCond .lt 8, 3) := by decide +kernel
theorem dX9_roomIn_125 : decode cX9_roomIn 125 = .ok (.iload 5, 2) := by decide +kernel
theorem dX9_roomIn_127 : decode cX9_roomIn 127 = .ok (.goto 5, 3) := by decide +kernel
theorem dX9_roomIn_130 : decode cX9_roomIn 130 = .ok (.iload 6, 2) := by decide +kernel
theorem dX9_roomIn_132 : decode cX9_roomIn 132 = .ok (.ireturn, 1) := by decide +kernel
theorem dX9_comes_0 : decode cX9_comes 0 = .ok (.iload 4, 2) := by decide +kernel
theorem dX9_comes_2 : decode cX9_comes 2 = .ok (.iload_n 3, 1) := by decide +kernel
theorem dX9_comes_3 : decode cX9_comes 3 = .ok (.invokestatic 55, 3) := by decide +kernel
theorem dX9_comes_6 : decode cX9_comes 6 = .ok (.idiv, 1) := by decide +kernel
theorem dX9_comes_7 : decode cX9_comes 7 = .ok (.iload_n 3, 1) := by decide +kernel
theorem dX9_comes_8 : decode cX9_comes 8 = .ok (.invokestatic 55, 3) := by decide +kernel
theorem dX9_comes_11 : decode cX9_comes 11 = .ok (.imul, 1) := by decide +kernel
theorem dX9_comes_12 : decode cX9_comes 12 = .ok (.istore 8, 2) := by decide +kernel
theorem dX9_comes_14 : decode cX9_comes 14 = .ok (.aload_n 0, 1) := by decide +kernel
theorem dX9_comes_15 : decode cX9_comes 15 = .ok (.iload_n 1, 1) := by decide +kernel
theorem dX9_comes_16 : decode cX9_comes 16 = .ok (.iload_n 2, 1) := by decide +kernel
theorem dX9_comes_17 : decode cX9_comes 17 = .ok (.iload_n 3, 1) := by decide +kernel
theorem dX9_comes_18 : decode cX9_comes 18 = .ok (.iload 8, 2) := by decide +kernel
theorem dX9_comes_20 : decode cX9_comes 20 = .ok (.invokevirtual 104, 3) := by decide +kernel
theorem dX9_comes_23 : decode cX9_comes 23 = .ok (.istore 9, 2) := by decide +kernel
theorem dX9_comes_25 : decode cX9_comes 25 = .ok (.aload_n 0, 1) := by decide +kernel
theorem dX9_comes_26 : decode cX9_comes 26 = .ok (.getfield 13, 3) := by decide +kernel
theorem dX9_comes_29 : decode cX9_comes 29 = .ok (.iload 9, 2) := by decide +kernel
theorem dX9_comes_31 : decode cX9_comes 31 = .ok (.iload_n 2, 1) := by decide +kernel
theorem dX9_comes_32 : decode cX9_comes 32 = .ok (.iastore, 1) := by decide +kernel
theorem dX9_comes_33 : decode cX9_comes 33 = .ok (.aload_n 0, 1) := by decide +kernel
theorem dX9_comes_34 : decode cX9_comes 34 = .ok (.getfield 13, 3) := by decide +kernel
theorem dX9_comes_37 : decode cX9_comes 37 = .ok (.iload 9, 2) := by decide +kernel
theorem dX9_comes_39 : decode cX9_comes 39 = .ok (.iconst 1, 1) := by decide +kernel
theorem dX9_comes_40 : decode cX9_comes 40 = .ok (.iadd, 1) := by decide +kernel
theorem dX9_comes_41 : decode cX9_comes 41 = .ok (.iload_n 3, 1) := by decide +kernel
theorem dX9_comes_42 : decode cX9_comes 42 = .ok (.iastore, 1) := by decide +kernel
theorem dX9_comes_43 : decode cX9_comes 43 = .ok (.aload_n 0, 1) := by decide +kernel
theorem dX9_comes_44 : decode cX9_comes 44 = .ok (.getfield 13, 3) := by decide +kernel
theorem dX9_comes_47 : decode cX9_comes 47 = .ok (.iload 9, 2) := by decide +kernel
theorem dX9_comes_49 : decode cX9_comes 49 = .ok (.iconst 2, 1) := by decide +kernel
theorem dX9_comes_50 : decode cX9_comes 50 = .ok (.iadd, 1) := by decide +kernel
theorem dX9_comes_51 : decode cX9_comes 51 = .ok (.iload 8, 2) := by decide +kernel
theorem dX9_comes_53 : decode cX9_comes 53 = .ok (.iastore, 1) := by decide +kernel
theorem dX9_comes_54 : decode cX9_comes 54 = .ok (.aload_n 0, 1) := by decide +kernel
theorem dX9_comes_55 : decode cX9_comes 55 = .ok (.getfield 13, 3) := by decide +kernel
theorem dX9_comes_58 : decode cX9_comes 58 = .ok (.iload 9, 2) := by decide +kernel
theorem dX9_comes_60 : decode cX9_comes 60 = .ok (.iconst 3, 1) := by decide +kernel
theorem dX9_comes_61 : decode cX9_comes 61 = .ok (.iadd, 1) := by decide +kernel
theorem dX9_comes_62 : decode cX9_comes 62 = .ok (.iload 5, 2) := by decide +kernel
theorem dX9_comes_64 : decode cX9_comes 64 = .ok (.iastore, 1) := by decide +kernel
theorem dX9_comes_65 : decode cX9_comes 65 = .ok (.aload_n 0, 1) := by decide +kernel
theorem dX9_comes_66 : decode cX9_comes 66 = .ok (.getfield 13, 3) := by decide +kernel
theorem dX9_comes_69 : decode cX9_comes 69 = .ok (.iload 9, 2) := by decide +kernel
theorem dX9_comes_71 : decode cX9_comes 71 = .ok (.iconst 4, 1) := by decide +kernel
theorem dX9_comes_72 : decode cX9_comes 72 = .ok (.iadd, 1) := by decide +kernel
theorem dX9_comes_73 : decode cX9_comes 73 = .ok (.iload 6, 2) := by decide +kernel
theorem dX9_comes_75 : decode cX9_comes 75 = .ok (.iastore, 1) := by decide +kernel
theorem dX9_comes_76 : decode cX9_comes 76 = .ok (.aload_n 0, 1) := by decide +kernel
theorem dX9_comes_77 : decode cX9_comes 77 = .ok (.getfield 13, 3) := by decide +kernel
theorem dX9_comes_80 : decode cX9_comes 80 = .ok (.iload 9, 2) := by decide +kernel
theorem dX9_comes_82 : decode cX9_comes 82 = .ok (.iconst 5, 1) := by decide +kernel
