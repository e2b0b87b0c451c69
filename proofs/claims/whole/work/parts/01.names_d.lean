theorem dX8_begin_19 : decode cX8_begin 19 = .ok (.getfield 35, 3) := by decide +kernel
theorem dX8_begin_22 : decode cX8_begin 22 = .ok (.iload_n 1, 1) := by decide +kernel
theorem dX8_begin_23 : decode cX8_begin 23 = .ok (.aaload, 1) := by decide +kernel
theorem dX8_begin_24 : decode cX8_begin 24 = .ok (.astore 5, 2) := by decide +kernel
theorem dX8_begin_26 : decode cX8_begin 26 = .ok (.aload 5, 2) := by decide +kernel
theorem dX8_begin_28 : decode cX8_begin 28 = .ok (.getfield 164, 3) := by decide +kernel
theorem dX8_begin_31 : decode cX8_begin 31 = .ok (.iconst 1, 1) := by decide +kernel
theorem dX8_begin_32 : decode cX8_begin 32 = .ok (.if_icmp .ne 5, 3) := by decide +kernel
theorem dX8_begin_35 : decode cX8_begin 35 = .ok (.iconst (-1), 1) := by decide +kernel
theorem dX8_begin_36 : decode cX8_begin 36 = .ok (.ireturn, 1) := by decide +kernel
theorem dX8_begin_37 : decode cX8_begin 37 = .ok (.aload_n 0, 1) := by decide +kernel
theorem dX8_begin_38 : decode cX8_begin 38 = .ok (.aload 5, 2) := by decide +kernel
theorem dX8_begin_40 : decode cX8_begin 40 = .ok (.iload_n 2, 1) := by decide +kernel
theorem dX8_begin_41 : decode cX8_begin 41 = .ok (.iload_n 3, 1) := by decide +kernel
theorem dX8_begin_42 : decode cX8_begin 42 = .ok (.iload 4, 2) := by decide +kernel
theorem dX8_begin_44 : decode cX8_begin 44 = .ok (.invokevirtual 150, 3) := by decide +kernel
theorem dX8_begin_47 : decode cX8_begin 47 = .ok (.aload 5, 2) := by decide +kernel
theorem dX8_begin_49 : decode cX8_begin 49 = .ok (.getfield 164, 3) := by decide +kernel
theorem dX8_begin_52 : decode cX8_begin 52 = .ok (.ireturn, 1) := by decide +kernel
theorem dX8_turn_0 : decode cX8_turn 0 = .ok (.iload_n 1, 1) := by decide +kernel
theorem dX8_turn_1 : decode cX8_turn 1 = .ok (.invokestatic 176, 3) := by decide +kernel
theorem dX8_turn_4 : decode cX8_turn 4 = .ok (.ifCond .ne 5, 3) := by decide +kernel
theorem dX8_turn_7 : decode cX8_turn 7 = .ok (.iconst (-1), 1) := by decide +kernel
theorem dX8_turn_8 : decode cX8_turn 8 = .ok (.ireturn, 1) := by decide +kernel
theorem dX8_turn_9 : decode cX8_turn 9 = .ok (.aload_n 0, 1) := by decide +kernel
theorem dX8_turn_10 : decode cX8_turn 10 = .ok (.getfield 35, 3) := by decide +kernel
theorem dX8_turn_13 : decode cX8_turn 13 = .ok (.iload_n 1, 1) := by decide +kernel
theorem dX8_turn_14 : decode cX8_turn 14 = .ok (.aaload, 1) := by decide +kernel
theorem dX8_turn_15 : decode cX8_turn 15 = .ok (.astore_n 2, 1) := by decide +kernel
theorem dX8_turn_16 : decode cX8_turn 16 = .ok (.aload_n 2, 1) := by decide +kernel
theorem dX8_turn_17 : decode cX8_turn 17 = .ok (.getfield 164, 3) := by decide +kernel
theorem dX8_turn_20 : decode cX8_turn 20 = .ok (.iconst 1, 1) := by decide +kernel
theorem dX8_turn_21 : decode cX8_turn 21 = .ok (.if_icmp .eq 5, 3) := by decide +kernel
theorem dX8_turn_24 : decode cX8_turn 24 = .ok (.iconst (-1), 1) := by decide +kernel
theorem dX8_turn_25 : decode cX8_turn 25 = .ok (.ireturn, 1) := by decide +kernel
theorem dX8_turn_26 : decode cX8_turn 26 = .ok (.aload_n 2, 1) := by decide +kernel
theorem dX8_turn_27 : decode cX8_turn 27 = .ok (.getfield 161, 3) := by decide +kernel
theorem dX8_turn_30 : decode cX8_turn 30 = .ok (.istore_n 3, 1) := by decide +kernel
theorem dX8_turn_31 : decode cX8_turn 31 = .ok (.aload_n 0, 1) := by decide +kernel
theorem dX8_turn_32 : decode cX8_turn 32 = .ok (.aload_n 2, 1) := by decide +kernel
theorem dX8_turn_33 : decode cX8_turn 33 = .ok (.iconst 1, 1) := by decide +kernel
theorem dX8_turn_34 : decode cX8_turn 34 = .ok (.invokevirtual 179, 3) := by decide +kernel
theorem dX8_turn_37 : decode cX8_turn 37 = .ok (.aload_n 0, 1) := by decide +kernel
theorem dX8_turn_38 : decode cX8_turn 38 = .ok (.dup, 1) := by decide +kernel
theorem dX8_turn_39 : decode cX8_turn 39 = .ok (.getfield 158, 3) := by decide +kernel
theorem dX8_turn_42 : decode cX8_turn 42 = .ok (.aload_n 2, 1) := by decide +kernel
theorem dX8_turn_43 : decode cX8_turn 43 = .ok (.getfield 161, 3) := by decide +kernel
theorem dX8_turn_46 : decode cX8_turn 46 = .ok (.iload_n 3, 1) := by decide +kernel
theorem dX8_turn_47 : decode cX8_turn 47 = .ok (.isub, 1) := by decide +kernel
theorem dX8_turn_48 : decode cX8_turn 48 = .ok (.iadd, 1) := by decide +kernel
theorem dX8_turn_49 : decode cX8_turn 49 = .ok (.putfield 158, 3) := by decide +kernel
theorem dX8_turn_52 : decode cX8_turn 52 = .ok (.aload_n 2, 1) := by decide +kernel
theorem dX8_turn_53 : decode cX8_turn 53 = .ok (.getfield 164, 3) := by decide +kernel
theorem dX8_turn_56 : decode cX8_turn 56 = .ok (.ireturn, 1) := by decide +kernel
theorem dX8_walker_0 : decode cX8_walker 0 = .ok (.iload_n 1, 1) := by decide +kernel
theorem dX8_walker_1 : decode cX8_walker 1 = .ok (.invokestatic 176, 3) := by decide +kernel
theorem dX8_walker_4 : decode cX8_walker 4 = .ok (.ifCond .ne 5, 3) := by decide +kernel
theorem dX8_walker_7 : decode cX8_walker 7 = .ok (.iconst (-1), 1) := by decide +kernel
theorem dX8_walker_8 : decode cX8_walker 8 = .ok (.ireturn, 1) := by decide +kernel
theorem dX8_walker_9 : decode cX8_walker 9 = .ok (.aload_n 0, 1) := by decide +kernel
theorem dX8_walker_10 : decode cX8_walker 10 = .ok (.getfield 35, 3) := by decide +kernel
theorem dX8_walker_13 : decode cX8_walker 13 = .ok (.iload_n 1, 1) := by decide +kernel
theorem dX8_walker_14 : decode cX8_walker 14 = .ok (.aaload, 1) := by decide +kernel
theorem dX8_walker_15 : decode cX8_walker 15 = .ok (.astore_n 3, 1) := by decide +kernel
theorem dX8_walker_16 : decode cX8_walker 16 = .ok (.iload_n 2, 1) := by decide +kernel
theorem dX8_walker_17 : decode cX8_walker 17 = .ok (.ifCond .ne 8, 3) := by decide +kernel
theorem dX8_walker_20 : decode cX8_walker 20 = .ok (.aload_n 3, 1) := by decide +kernel
theorem dX8_walker_21 : decode cX8_walker 21 = .ok (.getfield 164, 3) := by decide +kernel
theorem dX8_walker_24 : decode cX8_walker 24 = .ok (.ireturn, 1) := by decide +kernel
theorem dX8_walker_25 : decode cX8_walker 25 = .ok (.aload_n 3, 1) := by decide +kernel
theorem dX8_walker_26 : decode cX8_walker 26 = .ok (.getfield 164, 3) := by decide +kernel
theorem dX8_walker_29 : decode cX8_walker 29 = .ok (.ifCond .ne 5, 3) := by decide +kernel
theorem dX8_walker_32 : decode cX8_walker 32 = .ok (.iconst (-1), 1) := by decide +kernel
theorem dX8_walker_33 : decode cX8_walker 33 = .ok (.ireturn, 1) := by decide +kernel
theorem dX8_walker_34 : decode cX8_walker 34 = .ok (.iload_n 2, 1) := by decide +kernel
theorem dX8_walker_35 : decode cX8_walker 35 = .ok (.tableswitch 90 1 5 #[33, 38, 43, 68, 85], 33) := by decide +kernel
theorem dX8_walker_68 : decode cX8_walker 68 = .ok (.aload_n 3, 1) := by decide +kernel
theorem dX8_walker_69 : decode cX8_walker 69 = .ok (.getfield 182, 3) := by decide +kernel
theorem dX8_walker_72 : decode cX8_walker 72 = .ok (.ireturn, 1) := by decide +kernel
theorem dX8_walker_73 : decode cX8_walker 73 = .ok (.aload_n 3, 1) := by decide +kernel
theorem dX8_walker_74 : decode cX8_walker 74 = .ok (.getfield 161, 3) := by decide +kernel
theorem dX8_walker_77 : decode cX8_walker 77 = .ok (.ireturn, 1) := by decide +kernel
theorem dX8_walker_78 : decode cX8_walker 78 = .ok (.aload_n 3, 1) := by decide +kernel
theorem dX8_walker_79 : decode cX8_walker 79 = .ok (.getfield 164, 3) := by decide +kernel
theorem dX8_walker_82 : decode cX8_walker 82 = .ok (.iconst 2, 1) := by decide +kernel
theorem dX8_walker_83 : decode cX8_walker 83 = .ok (.if_icmp .eq 11, 3) := by decide +kernel
theorem dX8_walker_86 : decode cX8_walker 86 = .ok (.aload_n 3, 1) := by decide +kernel
theorem dX8_walker_87 : decode cX8_walker 87 = .ok (.getfield 164, 3) := by decide +kernel
theorem dX8_walker_90 : decode cX8_walker 90 = .ok (.iconst 3, 1) := by decide +kernel
theorem dX8_walker_91 : decode cX8_walker 91 = .ok (.if_icmp .ne 10, 3) := by decide +kernel
theorem dX8_walker_94 : decode cX8_walker 94 = .ok (.aload_n 3, 1) := by decide +kernel
theorem dX8_walker_95 : decode cX8_walker 95 = .ok (.getfield 185, 3) := by decide +kernel
theorem dX8_walker_98 : decode cX8_walker 98 = .ok (.goto 4, 3) := by decide +kernel
theorem dX8_walker_101 : decode cX8_walker 101 = .ok (.iconst (-1), 1) := by decide +kernel
theorem dX8_walker_102 : decode cX8_walker 102 = .ok (.ireturn, 1) := by decide +kernel
theorem dX8_walker_103 : decode cX8_walker 103 = .ok (.aload_n 3, 1) := by decide +kernel
theorem dX8_walker_104 : decode cX8_walker 104 = .ok (.getfield 164, 3) := by decide +kernel
theorem dX8_walker_107 : decode cX8_walker 107 = .ok (.iconst 1, 1) := by decide +kernel
theorem dX8_walker_108 : decode cX8_walker 108 = .ok (.if_icmp .ne 10, 3) := by decide +kernel
theorem dX8_walker_111 : decode cX8_walker 111 = .ok (.aload_n 3, 1) := by decide +kernel
theorem dX8_walker_112 : decode cX8_walker 112 = .ok (.getfield 188, 3) := by decide +kernel
theorem dX8_walker_115 : decode cX8_walker 115 = .ok (.goto 4, 3) := by decide +kernel
theorem dX8_walker_118 : decode cX8_walker 118 = .ok (.iconst (-1), 1) := by decide +kernel
theorem dX8_walker_119 : decode cX8_walker 119 = .ok (.ireturn, 1) := by decide +kernel
theorem dX8_walker_120 : decode cX8_walker 120 = .ok (.aload_n 3, 1) := by decide +kernel
theorem dX8_walker_121 : decode cX8_walker 121 = .ok (.getfield 191, 3) := by decide +kernel
theorem dX8_walker_124 : decode cX8_walker 124 = .ok (.ireturn, 1) := by decide +kernel
theorem dX8_walker_125 : decode cX8_walker 125 = .ok (.iconst (-1), 1) := by decide +kernel
theorem dX8_walker_126 : decode cX8_walker 126 = .ok (.ireturn, 1) := by decide +kernel
theorem dX8_fence_0 : decode cX8_fence 0 = .ok (.iload_n 1, 1) := by decide +kernel
theorem dX8_fence_1 : decode cX8_fence 1 = .ok (.invokestatic 194, 3) := by decide +kernel
theorem dX8_fence_4 : decode cX8_fence 4 = .ok (.ifCond .eq 10, 3) := by decide +kernel
theorem dX8_fence_7 : decode cX8_fence 7 = .ok (.iload_n 2, 1) := by decide +kernel
theorem dX8_fence_8 : decode cX8_fence 8 = .ok (.invokestatic 96, 3) := by decide +kernel
theorem dX8_fence_11 : decode cX8_fence 11 = .ok (.ifCond .ne 5, 3) := by decide +kernel
theorem dX8_fence_14 : decode cX8_fence 14 = .ok (.iconst (-1), 1) := by decide +kernel
theorem dX8_fence_15 : decode cX8_fence 15 = .ok (.ireturn, 1) := by decide +kernel
theorem dX8_fence_16 : decode cX8_fence 16 = .ok (.aload_n 0, 1) := by decide +kernel
theorem dX8_fence_17 : decode cX8_fence 17 = .ok (.getfield 19, 3) := by decide +kernel
theorem dX8_fence_20 : decode cX8_fence 20 = .ok (.getfield 110, 3) := by decide +kernel
theorem dX8_fence_23 : decode cX8_fence 23 = .ok (.iload_n 2, 1) := by decide +kernel
theorem dX8_fence_24 : decode cX8_fence 24 = .ok (.iaload, 1) := by decide +kernel
theorem dX8_fence_25 : decode cX8_fence 25 = .ok (.istore_n 3, 1) := by decide +kernel
theorem dX8_fence_26 : decode cX8_fence 26 = .ok (.iconst 0, 1) := by decide +kernel
theorem dX8_fence_27 : decode cX8_fence 27 = .ok (.istore 4, 2) := by decide +kernel
theorem dX8_fence_29 : decode cX8_fence 29 = .ok (.iload 4, 2) := by decide +kernel
theorem dX8_fence_31 : decode cX8_fence 31 = .ok (.iconst 4, 1) := by decide +kernel
theorem dX8_fence_32 : decode cX8_fence 32 = .ok (.if_icmp .ge 47, 3) := by decide +kernel
theorem dX8_fence_35 : decode cX8_fence 35 = .ok (.aload_n 0, 1) := by decide +kernel
theorem dX8_fence_36 : decode cX8_fence 36 = .ok (.getfield 35, 3) := by decide +kernel
theorem dX8_fence_39 : decode cX8_fence 39 = .ok (.iload 4, 2) := by decide +kernel
theorem dX8_fence_41 : decode cX8_fence 41 = .ok (.aaload, 1) := by decide +kernel
theorem dX8_fence_42 : decode cX8_fence 42 = .ok (.getfield 191, 3) := by decide +kernel
theorem dX8_fence_45 : decode cX8_fence 45 = .ok (.iload_n 3, 1) := by decide +kernel
theorem dX8_fence_46 : decode cX8_fence 46 = .ok (.if_icmp .eq 17, 3) := by decide +kernel
theorem dX8_fence_49 : decode cX8_fence 49 = .ok (.aload_n 0, 1) := by decide +kernel
theorem dX8_fence_50 : decode cX8_fence 50 = .ok (.getfield 35, 3) := by decide +kernel
theorem dX8_fence_53 : decode cX8_fence 53 = .ok (.iload 4, 2) := by decide +kernel
theorem dX8_fence_55 : decode cX8_fence 55 = .ok (.aaload, 1) := by decide +kernel
theorem dX8_fence_56 : decode cX8_fence 56 = .ok (.getfield 182, 3) := by decide +kernel
theorem dX8_fence_59 : decode cX8_fence 59 = .ok (.iload_n 1, 1) := by decide +kernel
theorem dX8_fence_60 : decode cX8_fence 60 = .ok (.if_icmp .ne 13, 3) := by decide +kernel
theorem dX8_fence_63 : decode cX8_fence 63 = .ok (.aload_n 0, 1) := by decide +kernel
theorem dX8_fence_64 : decode cX8_fence 64 = .ok (.getfield 35, 3) := by decide +kernel
theorem dX8_fence_67 : decode cX8_fence 67 = .ok (.iload 4, 2) := by decide +kernel
theorem dX8_fence_69 : decode cX8_fence 69 = .ok (.aaload, 1) := by decide +kernel
theorem dX8_fence_70 : decode cX8_fence 70 = .ok (.invokevirtual 197, 3) := by decide +kernel
theorem dX8_fence_73 : decode cX8_fence 73 = .ok (.iinc 4 1, 3) := by decide +kernel
theorem dX8_fence_76 : decode cX8_fence 76 = .ok (.goto (-47), 3) := by decide +kernel
theorem dX8_fence_79 : decode cX8_fence 79 = .ok (.aload_n 0, 1) := by decide +kernel
theorem dX8_fence_80 : decode cX8_fence 80 = .ok (.getfield 61, 3) := by decide +kernel
theorem dX8_fence_83 : decode cX8_fence 83 = .ok (.iload_n 2, 1) := by decide +kernel
theorem dX8_fence_84 : decode cX8_fence 84 = .ok (.iload_n 1, 1) := by decide +kernel
theorem dX8_fence_85 : decode cX8_fence 85 = .ok (.aload_n 0, 1) := by decide +kernel
theorem dX8_fence_86 : decode cX8_fence 86 = .ok (.getfield 54, 3) := by decide +kernel
theorem dX8_fence_89 : decode cX8_fence 89 = .ok (.getfield 200, 3) := by decide +kernel
theorem dX8_fence_92 : decode cX8_fence 92 = .ok (.invokevirtual 203, 3) := by decide +kernel
theorem dX8_fence_95 : decode cX8_fence 95 = .ok (.aload_n 0, 1) := by decide +kernel
theorem dX8_fence_96 : decode cX8_fence 96 = .ok (.getfield 26, 3) := by decide +kernel
theorem dX8_fence_99 : decode cX8_fence 99 = .ok (.iload_n 3, 1) := by decide +kernel
theorem dX8_fence_100 : decode cX8_fence 100 = .ok (.iload_n 1, 1) := by decide +kernel
theorem dX8_fence_101 : decode cX8_fence 101 = .ok (.invokevirtual 207, 3) := by decide +kernel
theorem dX8_fence_104 : decode cX8_fence 104 = .ok (.aload_n 0, 1) := by decide +kernel
theorem dX8_fence_105 : decode cX8_fence 105 = .ok (.getfield 30, 3) := by decide +kernel
theorem dX8_fence_108 : decode cX8_fence 108 = .ok (.iload_n 3, 1) := by decide +kernel
theorem dX8_fence_109 : decode cX8_fence 109 = .ok (.iload_n 1, 1) := by decide +kernel
theorem dX8_fence_110 : decode cX8_fence 110 = .ok (.invokevirtual 207, 3) := by decide +kernel
theorem dX8_fence_113 : decode cX8_fence 113 = .ok (.iadd, 1) := by decide +kernel
theorem dX8_fence_114 : decode cX8_fence 114 = .ok (.ireturn, 1) := by decide +kernel
theorem dX8_fenceSpace_0 : decode cX8_fenceSpace 0 = .ok (.iload_n 1, 1) := by decide +kernel
theorem dX8_fenceSpace_1 : decode cX8_fenceSpace 1 = .ok (.invokestatic 96, 3) := by decide +kernel
theorem dX8_fenceSpace_4 : decode cX8_fenceSpace 4 = .ok (.ifCond .ne 5, 3) := by decide +kernel
theorem dX8_fenceSpace_7 : decode cX8_fenceSpace 7 = .ok (.iconst (-1), 1) := by decide +kernel
theorem dX8_fenceSpace_8 : decode cX8_fenceSpace 8 = .ok (.ireturn, 1) := by decide +kernel
theorem dX8_fenceSpace_9 : decode cX8_fenceSpace 9 = .ok (.aload_n 0, 1) := by decide +kernel
theorem dX8_fenceSpace_10 : decode cX8_fenceSpace 10 = .ok (.getfield 19, 3) := by decide +kernel
theorem dX8_fenceSpace_13 : decode cX8_fenceSpace 13 = .ok (.getfield 110, 3) := by decide +kernel
theorem dX8_fenceSpace_16 : decode cX8_fenceSpace 16 = .ok (.iload_n 1, 1) := by decide +kernel
theorem dX8_fenceSpace_17 : decode cX8_fenceSpace 17 = .ok (.iaload, 1) := by decide +kernel
theorem dX8_fenceSpace_18 : decode cX8_fenceSpace 18 = .ok (.istore_n 2, 1) := by decide +kernel
theorem dX8_fenceSpace_19 : decode cX8_fenceSpace 19 = .ok (.aload_n 0, 1) := by decide +kernel
theorem dX8_fenceSpace_20 : decode cX8_fenceSpace 20 = .ok (.iload_n 2, 1) := by decide +kernel
theorem dX8_fenceSpace_21 : decode cX8_fenceSpace 21 = .ok (.invokevirtual 210, 3) := by decide +kernel
theorem dX8_fenceSpace_24 : decode cX8_fenceSpace 24 = .ok (.aload_n 0, 1) := by decide +kernel
theorem dX8_fenceSpace_25 : decode cX8_fenceSpace 25 = .ok (.getfield 61, 3) := by decide +kernel
theorem dX8_fenceSpace_28 : decode cX8_fenceSpace 28 = .ok (.getfield 213, 3) := by decide +kernel
theorem dX8_fenceSpace_31 : decode cX8_fenceSpace 31 = .ok (.iload_n 1, 1) := by decide +kernel
theorem dX8_fenceSpace_32 : decode cX8_fenceSpace 32 = .ok (.aload_n 0, 1) := by decide +kernel
theorem dX8_fenceSpace_33 : decode cX8_fenceSpace 33 = .ok (.getfield 54, 3) := by decide +kernel
theorem dX8_fenceSpace_36 : decode cX8_fenceSpace 36 = .ok (.getfield 200, 3) := by decide +kernel
theorem dX8_fenceSpace_39 : decode cX8_fenceSpace 39 = .ok (.iastore, 1) := by decide +kernel
theorem dX8_fenceSpace_40 : decode cX8_fenceSpace 40 = .ok (.aload_n 0, 1) := by decide +kernel
theorem dX8_fenceSpace_41 : decode cX8_fenceSpace 41 = .ok (.getfield 26, 3) := by decide +kernel
theorem dX8_fenceSpace_44 : decode cX8_fenceSpace 44 = .ok (.iload_n 2, 1) := by decide +kernel
theorem dX8_fenceSpace_45 : decode cX8_fenceSpace 45 = .ok (.iconst 0, 1) := by decide +kernel
theorem dX8_fenceSpace_46 : decode cX8_fenceSpace 46 = .ok (.invokevirtual 216, 3) := by decide +kernel
theorem dX8_fenceSpace_49 : decode cX8_fenceSpace 49 = .ok (.aload_n 0, 1) := by decide +kernel
theorem dX8_fenceSpace_50 : decode cX8_fenceSpace 50 = .ok (.getfield 30, 3) := by decide +kernel
theorem dX8_fenceSpace_53 : decode cX8_fenceSpace 53 = .ok (.iload_n 2, 1) := by decide +kernel
theorem dX8_fenceSpace_54 : decode cX8_fenceSpace 54 = .ok (.iconst 0, 1) := by decide +kernel
theorem dX8_fenceSpace_55 : decode cX8_fenceSpace 55 = .ok (.invokevirtual 216, 3) := by decide +kernel
theorem dX8_fenceSpace_58 : decode cX8_fenceSpace 58 = .ok (.iadd, 1) := by decide +kernel
theorem dX8_fenceSpace_59 : decode cX8_fenceSpace 59 = .ok (.ireturn, 1) := by decide +kernel
theorem dX8_fenceAll_0 : decode cX8_fenceAll 0 = .ok (.iconst 0, 1) := by decide +kernel
theorem dX8_fenceAll_1 : decode cX8_fenceAll 1 = .ok (.istore_n 1, 1) := by decide +kernel
theorem dX8_fenceAll_2 : decode cX8_fenceAll 2 = .ok (.iload_n 1, 1) := by decide +kernel
theorem dX8_fenceAll_3 : decode cX8_fenceAll 3 = .ok (.iconst 4, 1) := by decide +kernel
theorem dX8_fenceAll_4 : decode cX8_fenceAll 4 = .ok (.if_icmp .ge 18, 3) := by decide +kernel
theorem dX8_fenceAll_7 : decode cX8_fenceAll 7 = .ok (.aload_n 0, 1) := by decide +kernel
theorem dX8_fenceAll_8 : decode cX8_fenceAll 8 = .ok (.getfield 35, 3) := by decide +kernel
theorem dX8_fenceAll_11 : decode cX8_fenceAll 11 = .ok (.iload_n 1, 1) := by decide +kernel
theorem dX8_fenceAll_12 : decode cX8_fenceAll 12 = .ok (.aaload, 1) := by decide +kernel
theorem dX8_fenceAll_13 : decode cX8_fenceAll 13 = .ok (.invokevirtual 197, 3) := by decide +kernel
theorem dX8_fenceAll_16 : decode cX8_fenceAll 16 = .ok (.iinc 1 1, 3) := by decide +kernel
theorem dX8_fenceAll_19 : decode cX8_fenceAll 19 = .ok (.goto (-17), 3) := by decide +kernel
theorem dX8_fenceAll_22 : decode cX8_fenceAll 22 = .ok (.aload_n 0, 1) := by decide +kernel
theorem dX8_fenceAll_23 : decode cX8_fenceAll 23 = .ok (.getfield 61, 3) := by decide +kernel
theorem dX8_fenceAll_26 : decode cX8_fenceAll 26 = .ok (.aload_n 0, 1) := by decide +kernel
theorem dX8_fenceAll_27 : decode cX8_fenceAll 27 = .ok (.getfield 54, 3) := by decide +kernel
theorem dX8_fenceAll_30 : decode cX8_fenceAll 30 = .ok (.getfield 200, 3) := by decide +kernel
theorem dX8_fenceAll_33 : decode cX8_fenceAll 33 = .ok (.putfield 220, 3) := by decide +kernel
theorem dX8_fenceAll_36 : decode cX8_fenceAll 36 = .ok (.aload_n 0, 1) := by decide +kernel
theorem dX8_fenceAll_37 : decode cX8_fenceAll 37 = .ok (.getfield 26, 3) := by decide +kernel
theorem dX8_fenceAll_40 : decode cX8_fenceAll 40 = .ok (.invokevirtual 223, 3) := by decide +kernel
theorem dX8_fenceAll_43 : decode cX8_fenceAll 43 = .ok (.aload_n 0, 1) := by decide +kernel
theorem dX8_fenceAll_44 : decode cX8_fenceAll 44 = .ok (.getfield 30, 3) := by decide +kernel
theorem dX8_fenceAll_47 : decode cX8_fenceAll 47 = .ok (.invokevirtual 223, 3) := by decide +kernel
theorem dX8_fenceAll_50 : decode cX8_fenceAll 50 = .ok (.iadd, 1) := by decide +kernel
theorem dX8_fenceAll_51 : decode cX8_fenceAll 51 = .ok (.ireturn, 1) := by decide +kernel
theorem dX8_way_0 : decode cX8_way 0 = .ok (.iload_n 1, 1) := by decide +kernel
theorem dX8_way_1 : decode cX8_way 1 = .ok (.invokestatic 96, 3) := by decide +kernel
theorem dX8_way_4 : decode cX8_way 4 = .ok (.ifCond .eq 10, 3) := by decide +kernel
theorem dX8_way_7 : decode cX8_way 7 = .ok (.iload_n 2, 1) := by decide +kernel
theorem dX8_way_8 : decode cX8_way 8 = .ok (.invokestatic 194, 3) := by decide +kernel
theorem dX8_way_11 : decode cX8_way 11 = .ok (.ifCond .ne 5, 3) := by decide +kernel
theorem dX8_way_14 : decode cX8_way 14 = .ok (.iconst (-1), 1) := by decide +kernel
theorem dX8_way_15 : decode cX8_way 15 = .ok (.ireturn, 1) := by decide +kernel
theorem dX8_way_16 : decode cX8_way 16 = .ok (.aload_n 0, 1) := by decide +kernel
theorem dX8_way_17 : decode cX8_way 17 = .ok (.iload_n 1, 1) := by decide +kernel
theorem dX8_way_18 : decode cX8_way 18 = .ok (.iload_n 2, 1) := by decide +kernel
theorem dX8_way_19 : decode cX8_way 19 = .ok (.invokevirtual 226, 3) := by decide +kernel
theorem dX8_way_22 : decode cX8_way 22 = .ok (.iload_n 3, 1) := by decide +kernel
theorem dX8_way_23 : decode cX8_way 23 = .ok (.ifCond .ne 35, 3) := by decide +kernel
theorem dX8_way_26 : decode cX8_way 26 = .ok (.aload_n 0, 1) := by decide +kernel
theorem dX8_way_27 : decode cX8_way 27 = .ok (.getfield 47, 3) := by decide +kernel
theorem dX8_way_30 : decode cX8_way 30 = .ok (.getfield 229, 3) := by decide +kernel
theorem dX8_way_33 : decode cX8_way 33 = .ok (.ifCond .ne 14, 3) := by decide +kernel
theorem dX8_way_36 : decode cX8_way 36 = .ok (.aload_n 0, 1) := by decide +kernel
theorem dX8_way_37 : decode cX8_way 37 = .ok (.getfield 47, 3) := by decide +kernel
theorem dX8_way_40 : decode cX8_way 40 = .ok (.iload_n 2, 1) := by decide +kernel
theorem dX8_way_41 : decode cX8_way 41 = .ok (.invokevirtual 232, 3) := by decide +kernel
theorem dX8_way_44 : decode cX8_way 44 = .ok (.goto 13, 3) := by decide +kernel
theorem dX8_way_47 : decode cX8_way 47 = .ok (.bipush (-2), 2) := by decide +kernel
theorem dX8_way_49 : decode cX8_way 49 = .ok (.aload_n 0, 1) := by decide +kernel
theorem dX8_way_50 : decode cX8_way 50 = .ok (.getfield 47, 3) := by decide +kernel
theorem dX8_way_53 : decode cX8_way 53 = .ok (.getfield 229, 3) := by decide +kernel
theorem dX8_way_56 : decode cX8_way 56 = .ok (.isub, 1) := by decide +kernel
theorem dX8_way_57 : decode cX8_way 57 = .ok (.ireturn, 1) := by decide +kernel
theorem dX8_way_58 : decode cX8_way 58 = .ok (.aload_n 0, 1) := by decide +kernel
theorem dX8_way_59 : decode cX8_way 59 = .ok (.getfield 47, 3) := by decide +kernel
theorem dX8_way_62 : decode cX8_way 62 = .ok (.getfield 229, 3) := by decide +kernel
theorem dX8_way_65 : decode cX8_way 65 = .ok (.ifCond .eq 5, 3) := by decide +kernel
theorem dX8_way_68 : decode cX8_way 68 = .ok (.iconst (-1), 1) := by decide +kernel
theorem dX8_way_69 : decode cX8_way 69 = .ok (.ireturn, 1) := by decide +kernel
theorem dX8_way_70 : decode cX8_way 70 = .ok (.iload_n 3, 1) := by decide +kernel
theorem dX8_way_71 : decode cX8_way 71 = .ok (.tableswitch 62 1 3 #[25, 33, 41], 25) := by decide +kernel
theorem dX8_way_96 : decode cX8_way 96 = .ok (.aload_n 0, 1) := by decide +kernel
theorem dX8_way_97 : decode cX8_way 97 = .ok (.getfield 47, 3) := by decide +kernel
theorem dX8_way_100 : decode cX8_way 100 = .ok (.getfield 233, 3) := by decide +kernel
theorem dX8_way_103 : decode cX8_way 103 = .ok (.ireturn, 1) := by decide +kernel
theorem dX8_way_104 : decode cX8_way 104 = .ok (.aload_n 0, 1) := by decide +kernel
theorem dX8_way_105 : decode cX8_way 105 = .ok (.getfield 47, 3) := by decide +kernel
theorem dX8_way_108 : decode cX8_way 108 = .ok (.getfield 234, 3) := by decide +kernel
theorem dX8_way_111 : decode cX8_way 111 = .ok (.ireturn, 1) := by decide +kernel
theorem dX8_way_112 : decode cX8_way 112 = .ok (.aload_n 0, 1) := by decide +kernel
theorem dX8_way_113 : decode cX8_way 113 = .ok (.getfield 13, 3) := by decide +kernel
theorem dX8_way_116 : decode cX8_way 116 = .ok (.aload_n 0, 1) := by decide +kernel
theorem dX8_way_117 : decode cX8_way 117 = .ok (.getfield 47, 3) := by decide +kernel
theorem dX8_way_120 : decode cX8_way 120 = .ok (.getfield 237, 3) := by decide +kernel
theorem dX8_way_123 : decode cX8_way 123 = .ok (.aload_n 0, 1) := by decide +kernel
theorem dX8_way_124 : decode cX8_way 124 = .ok (.getfield 47, 3) := by decide +kernel
theorem dX8_way_127 : decode cX8_way 127 = .ok (.getfield 233, 3) := by decide +kernel
theorem dX8_way_130 : decode cX8_way 130 = .ok (.iaload, 1) := by decide +kernel
theorem dX8_way_131 : decode cX8_way 131 = .ok (.iaload, 1) := by decide +kernel
theorem dX8_way_132 : decode cX8_way 132 = .ok (.ireturn, 1) := by decide +kernel
theorem dX8_way_133 : decode cX8_way 133 = .ok (.iconst (-1), 1) := by decide +kernel
theorem dX8_way_134 : decode cX8_way 134 = .ok (.ireturn, 1) := by decide +kernel
theorem dX8_of_0 : decode cX8_of 0 = .ok (.iload_n 1, 1) := by decide +kernel
theorem dX8_of_1 : decode cX8_of 1 = .ok (.iload_n 2, 1) := by decide +kernel
theorem dX8_of_2 : decode cX8_of 2 = .ok (.invokestatic 72, 3) := by decide +kernel
theorem dX8_of_5 : decode cX8_of 5 = .ok (.ifCond .ne 5, 3) := by decide +kernel
theorem dX8_of_8 : decode cX8_of 8 = .ok (.iconst (-1), 1) := by decide +kernel
theorem dX8_of_9 : decode cX8_of 9 = .ok (.ireturn, 1) := by decide +kernel
theorem dX8_of_10 : decode cX8_of 10 = .ok (.iload_n 1, 1) := by decide +kernel
theorem dX8_of_11 : decode cX8_of 11 = .ok (.iload_n 2, 1) := by decide +kernel
theorem dX8_of_12 : decode cX8_of 12 = .ok (.invokestatic 80, 3) := by decide +kernel
theorem dX8_of_15 : decode cX8_of 15 = .ok (.istore 4, 2) := by decide +kernel
theorem dX8_of_17 : decode cX8_of 17 = .ok (.aload_n 0, 1) := by decide +kernel
theorem dX8_of_18 : decode cX8_of 18 = .ok (.getfield 9, 3) := by decide +kernel
theorem dX8_of_21 : decode cX8_of 21 = .ok (.iload 4, 2) := by decide +kernel
theorem dX8_of_23 : decode cX8_of 23 = .ok (.iaload, 1) := by decide +kernel
theorem dX8_of_24 : decode cX8_of 24 = .ok (.istore 5, 2) := by decide +kernel
theorem dX8_of_26 : decode cX8_of 26 = .ok (.iload_n 3, 1) := by decide +kernel
theorem dX8_of_27 : decode cX8_of 27 = .ok (.ifCond .ne 9, 3) := by decide +kernel
theorem dX8_of_30 : decode cX8_of 30 = .ok (.iload 5, 2) := by decide +kernel
theorem dX8_of_32 : decode cX8_of 32 = .ok (.invokestatic 92, 3) := by decide +kernel
theorem dX8_of_35 : decode cX8_of 35 = .ok (.ireturn, 1) := by decide +kernel
theorem dX8_of_36 : decode cX8_of 36 = .ok (.iload 5, 2) := by decide +kernel
theorem dX8_of_38 : decode cX8_of 38 = .ok (.invokestatic 92, 3) := by decide +kernel
theorem dX8_of_41 : decode cX8_of 41 = .ok (.ifCond .ne 5, 3) := by decide +kernel
theorem dX8_of_44 : decode cX8_of 44 = .ok (.iconst (-1), 1) := by decide +kernel
theorem dX8_of_45 : decode cX8_of 45 = .ok (.ireturn, 1) := by decide +kernel
theorem dX8_of_46 : decode cX8_of 46 = .ok (.iload_n 3, 1) := by decide +kernel
theorem dX8_of_47 : decode cX8_of 47 = .ok (.tableswitch 45 1 3 #[25, 31, 37], 25) := by decide +kernel
theorem dX8_of_72 : decode cX8_of 72 = .ok (.iload 5, 2) := by decide +kernel
theorem dX8_of_74 : decode cX8_of 74 = .ok (.invokestatic 240, 3) := by decide +kernel
theorem dX8_of_77 : decode cX8_of 77 = .ok (.ireturn, 1) := by decide +kernel
theorem dX8_of_78 : decode cX8_of 78 = .ok (.iload 5, 2) := by decide +kernel
theorem dX8_of_80 : decode cX8_of 80 = .ok (.invokestatic 243, 3) := by decide +kernel
theorem dX8_of_83 : decode cX8_of 83 = .ok (.ireturn, 1) := by decide +kernel
theorem dX8_of_84 : decode cX8_of 84 = .ok (.aload_n 0, 1) := by decide +kernel
theorem dX8_of_85 : decode cX8_of 85 = .ok (.getfield 13, 3) := by decide +kernel
theorem dX8_of_88 : decode cX8_of 88 = .ok (.iload 4, 2) := by decide +kernel
theorem dX8_of_90 : decode cX8_of 90 = .ok (.iaload, 1) := by decide +kernel
theorem dX8_of_91 : decode cX8_of 91 = .ok (.ireturn, 1) := by decide +kernel
theorem dX8_of_92 : decode cX8_of 92 = .ok (.iconst (-1), 1) := by decide +kernel
theorem dX8_of_93 : decode cX8_of 93 = .ok (.ireturn, 1) := by decide +kernel
theorem dX8_cached_0 : decode cX8_cached 0 = .ok (.aload_n 0, 1) := by decide +kernel
theorem dX8_cached_1 : decode cX8_cached 1 = .ok (.getfield 26, 3) := by decide +kernel
theorem dX8_cached_4 : decode cX8_cached 4 = .ok (.iload_n 1, 1) := by decide +kernel
theorem dX8_cached_5 : decode cX8_cached 5 = .ok (.invokevirtual 246, 3) := by decide +kernel
theorem dX8_cached_8 : decode cX8_cached 8 = .ok (.astore_n 3, 1) := by decide +kernel
theorem dX8_cached_9 : decode cX8_cached 9 = .ok (.aload_n 3, 1) := by decide +kernel
theorem dX8_cached_10 : decode cX8_cached 10 = .ok (.ifnull 13, 3) := by decide +kernel
theorem dX8_cached_13 : decode cX8_cached 13 = .ok (.iload_n 2, 1) := by decide +kernel
theorem dX8_cached_14 : decode cX8_cached 14 = .ok (.ifCond .lt 9, 3) := by decide +kernel
theorem dX8_cached_17 : decode cX8_cached 17 = .ok (.iload_n 2, 1) := by decide +kernel
theorem dX8_cached_18 : decode cX8_cached 18 = .ok (.bipush 7, 2) := by decide +kernel
theorem dX8_cached_20 : decode cX8_cached 20 = .ok (.if_icmp .le 11, 3) := by decide +kernel
theorem dX8_cached_23 : decode cX8_cached 23 = .ok (.new 250, 3) := by decide +kernel
theorem dX8_cached_26 : decode cX8_cached 26 = .ok (.dup, 1) := by decide +kernel
theorem dX8_cached_27 : decode cX8_cached 27 = .ok (.invokespecial 252, 3) := by decide +kernel
theorem dX8_cached_30 : decode cX8_cached 30 = .ok (.athrow, 1) := by decide +kernel
theorem dX8_cached_31 : decode cX8_cached 31 = .ok (.iload_n 2, 1) := by decide +kernel
theorem dX8_cached_32 : decode cX8_cached 32 = .ok (.tableswitch 56 5 7 #[28, 33, 42], 28) := by decide +kernel
theorem dX8_cached_60 : decode cX8_cached 60 = .ok (.aload_n 3, 1) := by decide +kernel
theorem dX8_cached_61 : decode cX8_cached 61 = .ok (.getfield 253, 3) := by decide +kernel
theorem dX8_cached_64 : decode cX8_cached 64 = .ok (.ireturn, 1) := by decide +kernel
theorem dX8_cached_65 : decode cX8_cached 65 = .ok (.aload_n 0, 1) := by decide +kernel
theorem dX8_cached_66 : decode cX8_cached 66 = .ok (.getfield 26, 3) := by decide +kernel
theorem dX8_cached_69 : decode cX8_cached 69 = .ok (.aload_n 3, 1) := by decide +kernel
theorem dX8_cached_70 : decode cX8_cached 70 = .ok (.invokevirtual 256, 3) := by decide +kernel
theorem dX8_cached_73 : decode cX8_cached 73 = .ok (.ireturn, 1) := by decide +kernel
theorem dX8_cached_74 : decode cX8_cached 74 = .ok (.aload_n 0, 1) := by decide +kernel
theorem dX8_cached_75 : decode cX8_cached 75 = .ok (.aload_n 3, 1) := by decide +kernel
theorem dX8_cached_76 : decode cX8_cached 76 = .ok (.invokevirtual 260, 3) := by decide +kernel
theorem dX8_cached_79 : decode cX8_cached 79 = .ok (.ifCond .eq 7, 3) := by decide +kernel
theorem dX8_cached_82 : decode cX8_cached 82 = .ok (.iconst 1, 1) := by decide +kernel
theorem dX8_cached_83 : decode cX8_cached 83 = .ok (.goto 4, 3) := by decide +kernel
theorem dX8_cached_86 : decode cX8_cached 86 = .ok (.iconst 0, 1) := by decide +kernel
theorem dX8_cached_87 : decode cX8_cached 87 = .ok (.ireturn, 1) := by decide +kernel
theorem dX8_cached_88 : decode cX8_cached 88 = .ok (.aload_n 3, 1) := by decide +kernel
theorem dX8_cached_89 : decode cX8_cached 89 = .ok (.iload_n 2, 1) := by decide +kernel
theorem dX8_cached_90 : decode cX8_cached 90 = .ok (.invokevirtual 264, 3) := by decide +kernel
theorem dX8_cached_93 : decode cX8_cached 93 = .ok (.ireturn, 1) := by decide +kernel
theorem dX8_upper_0 : decode cX8_upper 0 = .ok (.aload_n 0, 1) := by decide +kernel
theorem dX8_upper_1 : decode cX8_upper 1 = .ok (.getfield 30, 3) := by decide +kernel
theorem dX8_upper_4 : decode cX8_upper 4 = .ok (.iload_n 1, 1) := by decide +kernel
theorem dX8_upper_5 : decode cX8_upper 5 = .ok (.invokevirtual 246, 3) := by decide +kernel
theorem dX8_upper_8 : decode cX8_upper 8 = .ok (.astore_n 3, 1) := by decide +kernel
theorem dX8_upper_9 : decode cX8_upper 9 = .ok (.aload_n 3, 1) := by decide +kernel
theorem dX8_upper_10 : decode cX8_upper 10 = .ok (.ifnull 13, 3) := by decide +kernel
theorem dX8_upper_13 : decode cX8_upper 13 = .ok (.iload_n 2, 1) := by decide +kernel
theorem dX8_upper_14 : decode cX8_upper 14 = .ok (.ifCond .lt 9, 3) := by decide +kernel
theorem dX8_upper_17 : decode cX8_upper 17 = .ok (.iload_n 2, 1) := by decide +kernel
theorem dX8_upper_18 : decode cX8_upper 18 = .ok (.bipush 6, 2) := by decide +kernel
theorem dX8_upper_20 : decode cX8_upper 20 = .ok (.if_icmp .le 11, 3) := by decide +kernel
theorem dX8_upper_23 : decode cX8_upper 23 = .ok (.new 250, 3) := by decide +kernel
theorem dX8_upper_26 : decode cX8_upper 26 = .ok (.dup, 1) := by decide +kernel
theorem dX8_upper_27 : decode cX8_upper 27 = .ok (.invokespecial 252, 3) := by decide +kernel
theorem dX8_upper_30 : decode cX8_upper 30 = .ok (.athrow, 1) := by decide +kernel
theorem dX8_upper_31 : decode cX8_upper 31 = .ok (.iload_n 2, 1) := by decide +kernel
theorem dX8_upper_32 : decode cX8_upper 32 = .ok (.lookupswitch 51 #[(5, 28), (6, 37)], 28) := by decide +kernel
theorem dX8_upper_60 : decode cX8_upper 60 = .ok (.aload_n 0, 1) := by decide +kernel
theorem dX8_upper_61 : decode cX8_upper 61 = .ok (.getfield 30, 3) := by decide +kernel
theorem dX8_upper_64 : decode cX8_upper 64 = .ok (.aload_n 3, 1) := by decide +kernel
theorem dX8_upper_65 : decode cX8_upper 65 = .ok (.invokevirtual 256, 3) := by decide +kernel
theorem dX8_upper_68 : decode cX8_upper 68 = .ok (.ireturn, 1) := by decide +kernel
theorem dX8_upper_69 : decode cX8_upper 69 = .ok (.aload_n 0, 1) := by decide +kernel
theorem dX8_upper_70 : decode cX8_upper 70 = .ok (.aload_n 3, 1) := by decide +kernel
theorem dX8_upper_71 : decode cX8_upper 71 = .ok (.invokevirtual 267, 3) := by decide +kernel
theorem dX8_upper_74 : decode cX8_upper 74 = .ok (.ifCond .eq 7, 3) := by decide +kernel
theorem dX8_upper_77 : decode cX8_upper 77 = .ok (.iconst 1, 1) := by decide +kernel
theorem dX8_upper_78 : decode cX8_upper 78 = .ok (.goto 4, 3) := by decide +kernel
theorem dX8_upper_81 : decode cX8_upper 81 = .ok (.iconst 0, 1) := by decide +kernel
theorem dX8_upper_82 : decode cX8_upper 82 = .ok (.ireturn, 1) := by decide +kernel
theorem dX8_upper_83 : decode cX8_upper 83 = .ok (.aload_n 3, 1) := by decide +kernel
theorem dX8_upper_84 : decode cX8_upper 84 = .ok (.iload_n 2, 1) := by decide +kernel
theorem dX8_upper_85 : decode cX8_upper 85 = .ok (.invokevirtual 264, 3) := by decide +kernel
theorem dX8_upper_88 : decode cX8_upper 88 = .ok (.ireturn, 1) := by decide +kernel
theorem dX8_permitted_0 : decode cX8_permitted 0 = .ok (.iload_n 1, 1) := by decide +kernel
theorem dX8_permitted_1 : decode cX8_permitted 1 = .ok (.invokestatic 96, 3) := by decide +kernel
theorem dX8_permitted_4 : decode cX8_permitted 4 = .ok (.ifCond .eq 10, 3) := by decide +kernel
theorem dX8_permitted_7 : decode cX8_permitted 7 = .ok (.iload_n 2, 1) := by decide +kernel
theorem dX8_permitted_8 : decode cX8_permitted 8 = .ok (.invokestatic 194, 3) := by decide +kernel
theorem dX8_permitted_11 : decode cX8_permitted 11 = .ok (.ifCond .ne 5, 3) := by decide +kernel
theorem dX8_permitted_14 : decode cX8_permitted 14 = .ok (.iconst 0, 1) := by decide +kernel
theorem dX8_permitted_15 : decode cX8_permitted 15 = .ok (.ireturn, 1) := by decide +kernel
theorem dX8_permitted_16 : decode cX8_permitted 16 = .ok (.aload_n 0, 1) := by decide +kernel
theorem dX8_permitted_17 : decode cX8_permitted 17 = .ok (.iload_n 1, 1) := by decide +kernel
theorem dX8_permitted_18 : decode cX8_permitted 18 = .ok (.iload_n 2, 1) := by decide +kernel
theorem dX8_permitted_19 : decode cX8_permitted 19 = .ok (.invokevirtual 270, 3) := by decide +kernel
theorem dX8_permitted_22 : decode cX8_permitted 22 = .ok (.aload_n 0, 1) := by decide +kernel
theorem dX8_permitted_23 : decode cX8_permitted 23 = .ok (.getfield 68, 3) := by decide +kernel
theorem dX8_permitted_26 : decode cX8_permitted 26 = .ok (.iload_n 3, 1) := by decide +kernel
theorem dX8_permitted_27 : decode cX8_permitted 27 = .ok (.invokevirtual 273, 3) := by decide +kernel
theorem dX8_permitted_30 : decode cX8_permitted 30 = .ok (.ireturn, 1) := by decide +kernel
theorem dX8_many_0 : decode cX8_many 0 = .ok (.iload_n 1, 1) := by decide +kernel
theorem dX8_many_1 : decode cX8_many 1 = .ok (.invokestatic 96, 3) := by decide +kernel
theorem dX8_many_4 : decode cX8_many 4 = .ok (.ifCond .eq 10, 3) := by decide +kernel
theorem dX8_many_7 : decode cX8_many 7 = .ok (.iload_n 2, 1) := by decide +kernel
theorem dX8_many_8 : decode cX8_many 8 = .ok (.invokestatic 194, 3) := by decide +kernel
theorem dX8_many_11 : decode cX8_many 11 = .ok (.ifCond .ne 5, 3) := by decide +kernel
theorem dX8_many_14 : decode cX8_many 14 = .ok (.iconst (-1), 1) := by decide +kernel
theorem dX8_many_15 : decode cX8_many 15 = .ok (.ireturn, 1) := by decide +kernel
theorem dX8_many_16 : decode cX8_many 16 = .ok (.aload_n 0, 1) := by decide +kernel
theorem dX8_many_17 : decode cX8_many 17 = .ok (.iload_n 1, 1) := by decide +kernel
theorem dX8_many_18 : decode cX8_many 18 = .ok (.iload_n 2, 1) := by decide +kernel
theorem dX8_many_19 : decode cX8_many 19 = .ok (.invokevirtual 270, 3) := by decide +kernel
theorem dX8_many_22 : decode cX8_many 22 = .ok (.aload_n 0, 1) := by decide +kernel
theorem dX8_many_23 : decode cX8_many 23 = .ok (.getfield 68, 3) := by decide +kernel
theorem dX8_many_26 : decode cX8_many 26 = .ok (.invokevirtual 276, 3) := by decide +kernel
theorem dX8_many_29 : decode cX8_many 29 = .ok (.ireturn, 1) := by decide +kernel
theorem dX8_reverse_0 : decode cX8_reverse 0 = .ok (.iload_n 1, 1) := by decide +kernel
theorem dX8_reverse_1 : decode cX8_reverse 1 = .ok (.invokestatic 96, 3) := by decide +kernel
theorem dX8_reverse_4 : decode cX8_reverse 4 = .ok (.ifCond .eq 8, 3) := by decide +kernel
theorem dX8_reverse_7 : decode cX8_reverse 7 = .ok (.iload_n 3, 1) := by decide +kernel
theorem dX8_reverse_8 : decode cX8_reverse 8 = .ok (.iconst (-1), 1) := by decide +kernel
theorem dX8_reverse_9 : decode cX8_reverse 9 = .ok (.if_icmp .ge 5, 3) := by decide +kernel
theorem dX8_reverse_12 : decode cX8_reverse 12 = .ok (.iconst (-1), 1) := by decide +kernel
theorem dX8_reverse_13 : decode cX8_reverse 13 = .ok (.ireturn, 1) := by decide +kernel
theorem dX8_reverse_14 : decode cX8_reverse 14 = .ok (.iconst 0, 1) := by decide +kernel
theorem dX8_reverse_15 : decode cX8_reverse 15 = .ok (.istore 4, 2) := by decide +kernel
theorem dX8_reverse_17 : decode cX8_reverse 17 = .ok (.iconst 0, 1) := by decide +kernel
theorem dX8_reverse_18 : decode cX8_reverse 18 = .ok (.istore 5, 2) := by decide +kernel
theorem dX8_reverse_20 : decode cX8_reverse 20 = .ok (.iload 5, 2) := by decide +kernel
theorem dX8_reverse_22 : decode cX8_reverse 22 = .ok (.sipush 512, 3) := by decide +kernel
theorem dX8_reverse_25 : decode cX8_reverse 25 = .ok (.if_icmp .ge 51, 3) := by decide +kernel
theorem dX8_reverse_28 : decode cX8_reverse 28 = .ok (.aload_n 0, 1) := by decide +kernel
theorem dX8_reverse_29 : decode cX8_reverse 29 = .ok (.iload_n 1, 1) := by decide +kernel
theorem dX8_reverse_30 : decode cX8_reverse 30 = .ok (.iload 5, 2) := by decide +kernel
theorem dX8_reverse_32 : decode cX8_reverse 32 = .ok (.invokevirtual 226, 3) := by decide +kernel
theorem dX8_reverse_35 : decode cX8_reverse 35 = .ok (.aload_n 0, 1) := by decide +kernel
theorem dX8_reverse_36 : decode cX8_reverse 36 = .ok (.getfield 47, 3) := by decide +kernel
theorem dX8_reverse_39 : decode cX8_reverse 39 = .ok (.getfield 229, 3) := by decide +kernel
theorem dX8_reverse_42 : decode cX8_reverse 42 = .ok (.ifCond .ne 28, 3) := by decide +kernel
theorem dX8_reverse_45 : decode cX8_reverse 45 = .ok (.aload_n 0, 1) := by decide +kernel
theorem dX8_reverse_46 : decode cX8_reverse 46 = .ok (.getfield 47, 3) := by decide +kernel
theorem dX8_reverse_49 : decode cX8_reverse 49 = .ok (.iload 5, 2) := by decide +kernel
theorem dX8_reverse_51 : decode cX8_reverse 51 = .ok (.invokevirtual 232, 3) := by decide +kernel
theorem dX8_reverse_54 : decode cX8_reverse 54 = .ok (.iload_n 2, 1) := by decide +kernel
theorem dX8_reverse_55 : decode cX8_reverse 55 = .ok (.if_icmp .ne 15, 3) := by decide +kernel
theorem dX8_reverse_58 : decode cX8_reverse 58 = .ok (.iload 4, 2) := by decide +kernel
theorem dX8_reverse_60 : decode cX8_reverse 60 = .ok (.iload_n 3, 1) := by decide +kernel
theorem dX8_reverse_61 : decode cX8_reverse 61 = .ok (.if_icmp .ne 6, 3) := by decide +kernel
theorem dX8_reverse_64 : decode cX8_reverse 64 = .ok (.iload 5, 2) := by decide +kernel
theorem dX8_reverse_66 : decode cX8_reverse 66 = .ok (.ireturn, 1) := by decide +kernel
theorem dX8_reverse_67 : decode cX8_reverse 67 = .ok (.iinc 4 1, 3) := by decide +kernel
theorem dX8_reverse_70 : decode cX8_reverse 70 = .ok (.iinc 5 1, 3) := by decide +kernel
theorem dX8_reverse_73 : decode cX8_reverse 73 = .ok (.goto (-53), 3) := by decide +kernel
theorem dX8_reverse_76 : decode cX8_reverse 76 = .ok (.iload_n 3, 1) := by decide +kernel
theorem dX8_reverse_77 : decode cX8_reverse 77 = .ok (.iconst (-1), 1) := by decide +kernel
theorem dX8_reverse_78 : decode cX8_reverse 78 = .ok (.if_icmp .ne 8, 3) := by decide +kernel
theorem dX8_reverse_81 : decode cX8_reverse 81 = .ok (.iload 4, 2) := by decide +kernel
theorem dX8_reverse_83 : decode cX8_reverse 83 = .ok (.goto 4, 3) := by decide +kernel
theorem dX8_reverse_86 : decode cX8_reverse 86 = .ok (.iconst (-1), 1) := by decide +kernel
theorem dX8_reverse_87 : decode cX8_reverse 87 = .ok (.ireturn, 1) := by decide +kernel
theorem dX8_through_0 : decode cX8_through 0 = .ok (.iload_n 1, 1) := by decide +kernel
theorem dX8_through_1 : decode cX8_through 1 = .ok (.invokestatic 96, 3) := by decide +kernel
theorem dX8_through_4 : decode cX8_through 4 = .ok (.ifCond .eq 11, 3) := by decide +kernel
theorem dX8_through_7 : decode cX8_through 7 = .ok (.iload_n 2, 1) := by decide +kernel
theorem dX8_through_8 : decode cX8_through 8 = .ok (.iload_n 3, 1) := by decide +kernel
theorem dX8_through_9 : decode cX8_through 9 = .ok (.invokestatic 72, 3) := by decide +kernel
theorem dX8_through_12 : decode cX8_through 12 = .ok (.ifCond .ne 5, 3) := by decide +kernel
theorem dX8_through_15 : decode cX8_through 15 = .ok (.iconst (-1), 1) := by decide +kernel
theorem dX8_through_16 : decode cX8_through 16 = .ok (.ireturn, 1) := by decide +kernel
theorem dX8_through_17 : decode cX8_through 17 = .ok (.iload_n 2, 1) := by decide +kernel
theorem dX8_through_18 : decode cX8_through 18 = .ok (.iload_n 3, 1) := by decide +kernel
theorem dX8_through_19 : decode cX8_through 19 = .ok (.invokestatic 80, 3) := by decide +kernel
theorem dX8_through_22 : decode cX8_through 22 = .ok (.istore 4, 2) := by decide +kernel
theorem dX8_through_24 : decode cX8_through 24 = .ok (.iconst 0, 1) := by decide +kernel
theorem dX8_through_25 : decode cX8_through 25 = .ok (.istore 5, 2) := by decide +kernel
theorem dX8_through_27 : decode cX8_through 27 = .ok (.iconst 0, 1) := by decide +kernel
theorem dX8_through_28 : decode cX8_through 28 = .ok (.istore 6, 2) := by decide +kernel
theorem dX8_through_30 : decode cX8_through 30 = .ok (.iload 6, 2) := by decide +kernel
theorem dX8_through_32 : decode cX8_through 32 = .ok (.sipush 512, 3) := by decide +kernel
theorem dX8_through_35 : decode cX8_through 35 = .ok (.if_icmp .ge 31, 3) := by decide +kernel
theorem dX8_through_38 : decode cX8_through 38 = .ok (.aload_n 0, 1) := by decide +kernel
theorem dX8_through_39 : decode cX8_through 39 = .ok (.iload_n 1, 1) := by decide +kernel
theorem dX8_through_40 : decode cX8_through 40 = .ok (.iload 6, 2) := by decide +kernel
theorem dX8_through_42 : decode cX8_through 42 = .ok (.invokevirtual 226, 3) := by decide +kernel
theorem dX8_through_45 : decode cX8_through 45 = .ok (.aload_n 0, 1) := by decide +kernel
theorem dX8_through_46 : decode cX8_through 46 = .ok (.getfield 47, 3) := by decide +kernel
theorem dX8_through_49 : decode cX8_through 49 = .ok (.iload 4, 2) := by decide +kernel
theorem dX8_through_51 : decode cX8_through 51 = .ok (.invokevirtual 279, 3) := by decide +kernel
theorem dX8_through_54 : decode cX8_through 54 = .ok (.ifCond .eq 6, 3) := by decide +kernel
theorem dX8_through_57 : decode cX8_through 57 = .ok (.iinc 5 1, 3) := by decide +kernel
theorem dX8_through_60 : decode cX8_through 60 = .ok (.iinc 6 1, 3) := by decide +kernel
theorem dX8_through_63 : decode cX8_through 63 = .ok (.goto (-33), 3) := by decide +kernel
theorem dX8_through_66 : decode cX8_through 66 = .ok (.iload 5, 2) := by decide +kernel
theorem dX8_through_68 : decode cX8_through 68 = .ok (.ireturn, 1) := by decide +kernel
theorem dX8_space_0 : decode cX8_space 0 = .ok (.iload_n 1, 1) := by decide +kernel
theorem dX8_space_1 : decode cX8_space 1 = .ok (.invokestatic 96, 3) := by decide +kernel
theorem dX8_space_4 : decode cX8_space 4 = .ok (.ifCond .ne 5, 3) := by decide +kernel
theorem dX8_space_7 : decode cX8_space 7 = .ok (.iconst (-1), 1) := by decide +kernel
theorem dX8_space_8 : decode cX8_space 8 = .ok (.ireturn, 1) := by decide +kernel
theorem dX8_space_9 : decode cX8_space 9 = .ok (.iload_n 2, 1) := by decide +kernel
theorem dX8_space_10 : decode cX8_space 10 = .ok (.tableswitch 63 0 2 #[26, 36, 46], 26) := by decide +kernel
theorem dX8_space_36 : decode cX8_space 36 = .ok (.aload_n 0, 1) := by decide +kernel
theorem dX8_space_37 : decode cX8_space 37 = .ok (.getfield 19, 3) := by decide +kernel
theorem dX8_space_40 : decode cX8_space 40 = .ok (.getfield 100, 3) := by decide +kernel
theorem dX8_space_43 : decode cX8_space 43 = .ok (.iload_n 1, 1) := by decide +kernel
theorem dX8_space_44 : decode cX8_space 44 = .ok (.iaload, 1) := by decide +kernel
theorem dX8_space_45 : decode cX8_space 45 = .ok (.ireturn, 1) := by decide +kernel
theorem dX8_space_46 : decode cX8_space 46 = .ok (.aload_n 0, 1) := by decide +kernel
theorem dX8_space_47 : decode cX8_space 47 = .ok (.getfield 19, 3) := by decide +kernel
theorem dX8_space_50 : decode cX8_space 50 = .ok (.getfield 110, 3) := by decide +kernel
theorem dX8_space_53 : decode cX8_space 53 = .ok (.iload_n 1, 1) := by decide +kernel
theorem dX8_space_54 : decode cX8_space 54 = .ok (.iaload, 1) := by decide +kernel
theorem dX8_space_55 : decode cX8_space 55 = .ok (.ireturn, 1) := by decide +kernel
theorem dX8_space_56 : decode cX8_space 56 = .ok (.aload_n 0, 1) := by decide +kernel
theorem dX8_space_57 : decode cX8_space 57 = .ok (.getfield 19, 3) := by decide +kernel
theorem dX8_space_60 : decode cX8_space 60 = .ok (.getfield 282, 3) := by decide +kernel
theorem dX8_space_63 : decode cX8_space 63 = .ok (.iload_n 1, 1) := by decide +kernel
theorem dX8_space_64 : decode cX8_space 64 = .ok (.if_icmp .ne 7, 3) := by decide +kernel
theorem dX8_space_67 : decode cX8_space 67 = .ok (.iconst 1, 1) := by decide +kernel
theorem dX8_space_68 : decode cX8_space 68 = .ok (.goto 4, 3) := by decide +kernel
theorem dX8_space_71 : decode cX8_space 71 = .ok (.iconst 0, 1) := by decide +kernel
theorem dX8_space_72 : decode cX8_space 72 = .ok (.ireturn, 1) := by decide +kernel
theorem dX8_space_73 : decode cX8_space 73 = .ok (.iconst (-1), 1) := by decide +kernel
theorem dX8_space_74 : decode cX8_space 74 = .ok (.ireturn, 1) := by decide +kernel
theorem dX8_count_0 : decode cX8_count 0 = .ok (.iload_n 1, 1) := by decide +kernel
theorem dX8_count_1 : decode cX8_count 1 = .ok (.tableswitch 155 0 13 #[71, 79, 87, 95, 100, 105, 110, 115, 120, 125, 130, 138, 144, 150], 71) := by decide +kernel
theorem dX8_count_72 : decode cX8_count 72 = .ok (.aload_n 0, 1) := by decide +kernel
theorem dX8_count_73 : decode cX8_count 73 = .ok (.getfield 19, 3) := by decide +kernel
theorem dX8_count_76 : decode cX8_count 76 = .ok (.getfield 282, 3) := by decide +kernel
theorem dX8_count_79 : decode cX8_count 79 = .ok (.ireturn, 1) := by decide +kernel
theorem dX8_count_80 : decode cX8_count 80 = .ok (.aload_n 0, 1) := by decide +kernel
theorem dX8_count_81 : decode cX8_count 81 = .ok (.getfield 26, 3) := by decide +kernel
theorem dX8_count_84 : decode cX8_count 84 = .ok (.invokevirtual 285, 3) := by decide +kernel
theorem dX8_count_87 : decode cX8_count 87 = .ok (.ireturn, 1) := by decide +kernel
theorem dX8_count_88 : decode cX8_count 88 = .ok (.aload_n 0, 1) := by decide +kernel
theorem dX8_count_89 : decode cX8_count 89 = .ok (.getfield 30, 3) := by decide +kernel
theorem dX8_count_92 : decode cX8_count 92 = .ok (.invokevirtual 285, 3) := by decide +kernel
theorem dX8_count_95 : decode cX8_count 95 = .ok (.ireturn, 1) := by decide +kernel
theorem dX8_count_96 : decode cX8_count 96 = .ok (.aload_n 0, 1) := by decide +kernel
theorem dX8_count_97 : decode cX8_count 97 = .ok (.invokevirtual 288, 3) := by decide +kernel
theorem dX8_count_100 : decode cX8_count 100 = .ok (.ireturn, 1) := by decide +kernel
theorem dX8_count_101 : decode cX8_count 101 = .ok (.aload_n 0, 1) := by decide +kernel
theorem dX8_count_102 : decode cX8_count 102 = .ok (.invokevirtual 291, 3) := by decide +kernel
theorem dX8_count_105 : decode cX8_count 105 = .ok (.ireturn, 1) := by decide +kernel
theorem dX8_count_106 : decode cX8_count 106 = .ok (.aload_n 0, 1) := by decide +kernel
theorem dX8_count_107 : decode cX8_count 107 = .ok (.getfield 126, 3) := by decide +kernel
theorem dX8_count_110 : decode cX8_count 110 = .ok (.ireturn, 1) := by decide +kernel
theorem dX8_count_111 : decode cX8_count 111 = .ok (.aload_n 0, 1) := by decide +kernel
theorem dX8_count_112 : decode cX8_count 112 = .ok (.getfield 138, 3) := by decide +kernel
theorem dX8_count_115 : decode cX8_count 115 = .ok (.ireturn, 1) := by decide +kernel
theorem dX8_count_116 : decode cX8_count 116 = .ok (.aload_n 0, 1) := by decide +kernel
theorem dX8_count_117 : decode cX8_count 117 = .ok (.getfield 158, 3) := by decide +kernel
theorem dX8_count_120 : decode cX8_count 120 = .ok (.ireturn, 1) := by decide +kernel
theorem dX8_count_121 : decode cX8_count 121 = .ok (.aload_n 0, 1) := by decide +kernel
theorem dX8_count_122 : decode cX8_count 122 = .ok (.getfield 294, 3) := by decide +kernel
theorem dX8_count_125 : decode cX8_count 125 = .ok (.ireturn, 1) := by decide +kernel
theorem dX8_count_126 : decode cX8_count 126 = .ok (.aload_n 0, 1) := by decide +kernel
theorem dX8_count_127 : decode cX8_count 127 = .ok (.getfield 167, 3) := by decide +kernel
theorem dX8_count_130 : decode cX8_count 130 = .ok (.ireturn, 1) := by decide +kernel
theorem dX8_count_131 : decode cX8_count 131 = .ok (.aload_n 0, 1) := by decide +kernel
theorem dX8_count_132 : decode cX8_count 132 = .ok (.getfield 54, 3) := by decide +kernel
theorem dX8_count_135 : decode cX8_count 135 = .ok (.invokevirtual 297, 3) := by decide +kernel
theorem dX8_count_138 : decode cX8_count 138 = .ok (.ireturn, 1) := by decide +kernel
theorem dX8_count_139 : decode cX8_count 139 = .ok (.aload_n 0, 1) := by decide +kernel
theorem dX8_count_140 : decode cX8_count 140 = .ok (.iconst 1, 1) := by decide +kernel
theorem dX8_count_141 : decode cX8_count 141 = .ok (.invokevirtual 300, 3) := by decide +kernel
theorem dX8_count_144 : decode cX8_count 144 = .ok (.ireturn, 1) := by decide +kernel
theorem dX8_count_145 : decode cX8_count 145 = .ok (.aload_n 0, 1) := by decide +kernel
theorem dX8_count_146 : decode cX8_count 146 = .ok (.iconst 2, 1) := by decide +kernel
theorem dX8_count_147 : decode cX8_count 147 = .ok (.invokevirtual 300, 3) := by decide +kernel
theorem dX8_count_150 : decode cX8_count 150 = .ok (.ireturn, 1) := by decide +kernel
theorem dX8_count_151 : decode cX8_count 151 = .ok (.aload_n 0, 1) := by decide +kernel
theorem dX8_count_152 : decode cX8_count 152 = .ok (.invokevirtual 303, 3) := by decide +kernel
theorem dX8_count_155 : decode cX8_count 155 = .ok (.ireturn, 1) := by decide +kernel
theorem dX8_count_156 : decode cX8_count 156 = .ok (.iconst (-1), 1) := by decide +kernel
theorem dX8_count_157 : decode cX8_count 157 = .ok (.ireturn, 1) := by decide +kernel
theorem dX8_isCell_0 : decode cX8_isCell 0 = .ok (.iload_n 0, 1) := by decide +kernel
theorem dX8_isCell_1 : decode cX8_isCell 1 = .ok (.ifCond .lt 23, 3) := by decide +kernel
theorem dX8_isCell_4 : decode cX8_isCell 4 = .ok (.iload_n 0, 1) := by decide +kernel
theorem dX8_isCell_5 : decode cX8_isCell 5 = .ok (.bipush 12, 2) := by decide +kernel
theorem dX8_isCell_7 : decode cX8_isCell 7 = .ok (.if_icmp .ge 17, 3) := by decide +kernel
theorem dX8_isCell_10 : decode cX8_isCell 10 = .ok (.iload_n 1, 1) := by decide +kernel
theorem dX8_isCell_11 : decode cX8_isCell 11 = .ok (.ifCond .lt 13, 3) := by decide +kernel
theorem dX8_isCell_14 : decode cX8_isCell 14 = .ok (.iload_n 1, 1) := by decide +kernel
theorem dX8_isCell_15 : decode cX8_isCell 15 = .ok (.bipush 8, 2) := by decide +kernel
theorem dX8_isCell_17 : decode cX8_isCell 17 = .ok (.if_icmp .ge 7, 3) := by decide +kernel
theorem dX8_isCell_20 : decode cX8_isCell 20 = .ok (.iconst 1, 1) := by decide +kernel
theorem dX8_isCell_21 : decode cX8_isCell 21 = .ok (.goto 4, 3) := by decide +kernel
theorem dX8_isCell_24 : decode cX8_isCell 24 = .ok (.iconst 0, 1) := by decide +kernel
theorem dX8_isCell_25 : decode cX8_isCell 25 = .ok (.ireturn, 1) := by decide +kernel
theorem dX8_isEntry_0 : decode cX8_isEntry 0 = .ok (.iload_n 0, 1) := by decide +kernel
theorem dX8_isEntry_1 : decode cX8_isEntry 1 = .ok (.ifCond .ne 5, 3) := by decide +kernel
theorem dX8_isEntry_4 : decode cX8_isEntry 4 = .ok (.iconst 1, 1) := by decide +kernel
theorem dX8_isEntry_5 : decode cX8_isEntry 5 = .ok (.ireturn, 1) := by decide +kernel
theorem dX8_isEntry_6 : decode cX8_isEntry 6 = .ok (.iload_n 2, 1) := by decide +kernel
theorem dX8_isEntry_7 : decode cX8_isEntry 7 = .ok (.ifCond .lt 13, 3) := by decide +kernel
theorem dX8_isEntry_10 : decode cX8_isEntry 10 = .ok (.iload_n 2, 1) := by decide +kernel
theorem dX8_isEntry_11 : decode cX8_isEntry 11 = .ok (.bipush 15, 2) := by decide +kernel
theorem dX8_isEntry_13 : decode cX8_isEntry 13 = .ok (.if_icmp .gt 7, 3) := by decide +kernel
theorem dX8_isEntry_16 : decode cX8_isEntry 16 = .ok (.iload_n 1, 1) := by decide +kernel
theorem dX8_isEntry_17 : decode cX8_isEntry 17 = .ok (.ifCond .ge 5, 3) := by decide +kernel
theorem dX8_isEntry_20 : decode cX8_isEntry 20 = .ok (.iconst 0, 1) := by decide +kernel
theorem dX8_isEntry_21 : decode cX8_isEntry 21 = .ok (.ireturn, 1) := by decide +kernel
theorem dX8_isEntry_22 : decode cX8_isEntry 22 = .ok (.iload_n 0, 1) := by decide +kernel
theorem dX8_isEntry_23 : decode cX8_isEntry 23 = .ok (.iconst 1, 1) := by decide +kernel
theorem dX8_isEntry_24 : decode cX8_isEntry 24 = .ok (.if_icmp .ne 9, 3) := by decide +kernel
theorem dX8_isEntry_27 : decode cX8_isEntry 27 = .ok (.iload_n 1, 1) := by decide +kernel
theorem dX8_isEntry_28 : decode cX8_isEntry 28 = .ok (.bipush 12, 2) := by decide +kernel
theorem dX8_isEntry_30 : decode cX8_isEntry 30 = .ok (.if_icmp .lt 15, 3) := by decide +kernel
theorem dX8_isEntry_33 : decode cX8_isEntry 33 = .ok (.iload_n 0, 1) := by decide +kernel
theorem dX8_isEntry_34 : decode cX8_isEntry 34 = .ok (.iconst 2, 1) := by decide +kernel
theorem dX8_isEntry_35 : decode cX8_isEntry 35 = .ok (.if_icmp .ne 14, 3) := by decide +kernel
theorem dX8_isEntry_38 : decode cX8_isEntry 38 = .ok (.iload_n 1, 1) := by decide +kernel
theorem dX8_isEntry_39 : decode cX8_isEntry 39 = .ok (.sipush 1000, 3) := by decide +kernel
theorem dX8_isEntry_42 : decode cX8_isEntry 42 = .ok (.if_icmp .ge 7, 3) := by decide +kernel
theorem dX8_isEntry_45 : decode cX8_isEntry 45 = .ok (.iconst 1, 1) := by decide +kernel
theorem dX8_isEntry_46 : decode cX8_isEntry 46 = .ok (.goto 4, 3) := by decide +kernel
theorem dX8_isEntry_49 : decode cX8_isEntry 49 = .ok (.iconst 0, 1) := by decide +kernel
theorem dX8_isEntry_50 : decode cX8_isEntry 50 = .ok (.ireturn, 1) := by decide +kernel
theorem dX8_isSpace_0 : decode cX8_isSpace 0 = .ok (.iload_n 0, 1) := by decide +kernel
theorem dX8_isSpace_1 : decode cX8_isSpace 1 = .ok (.ifCond .lt 13, 3) := by decide +kernel
theorem dX8_isSpace_4 : decode cX8_isSpace 4 = .ok (.iload_n 0, 1) := by decide +kernel
theorem dX8_isSpace_5 : decode cX8_isSpace 5 = .ok (.bipush 6, 2) := by decide +kernel
theorem dX8_isSpace_7 : decode cX8_isSpace 7 = .ok (.if_icmp .ge 7, 3) := by decide +kernel
theorem dX8_isSpace_10 : decode cX8_isSpace 10 = .ok (.iconst 1, 1) := by decide +kernel
theorem dX8_isSpace_11 : decode cX8_isSpace 11 = .ok (.goto 4, 3) := by decide +kernel
theorem dX8_isSpace_14 : decode cX8_isSpace 14 = .ok (.iconst 0, 1) := by decide +kernel
theorem dX8_isSpace_15 : decode cX8_isSpace 15 = .ok (.ireturn, 1) := by decide +kernel
theorem dX8_isAddress_0 : decode cX8_isAddress 0 = .ok (.iload_n 0, 1) := by decide +kernel
theorem dX8_isAddress_1 : decode cX8_isAddress 1 = .ok (.ifCond .lt 14, 3) := by decide +kernel
theorem dX8_isAddress_4 : decode cX8_isAddress 4 = .ok (.iload_n 0, 1) := by decide +kernel
theorem dX8_isAddress_5 : decode cX8_isAddress 5 = .ok (.sipush 512, 3) := by decide +kernel
theorem dX8_isAddress_8 : decode cX8_isAddress 8 = .ok (.if_icmp .ge 7, 3) := by decide +kernel
theorem dX8_isAddress_11 : decode cX8_isAddress 11 = .ok (.iconst 1, 1) := by decide +kernel
theorem dX8_isAddress_12 : decode cX8_isAddress 12 = .ok (.goto 4, 3) := by decide +kernel
theorem dX8_isAddress_15 : decode cX8_isAddress 15 = .ok (.iconst 0, 1) := by decide +kernel
theorem dX8_isAddress_16 : decode cX8_isAddress 16 = .ok (.ireturn, 1) := by decide +kernel
theorem dX8_isWalker_0 : decode cX8_isWalker 0 = .ok (.iload_n 0, 1) := by decide +kernel
theorem dX8_isWalker_1 : decode cX8_isWalker 1 = .ok (.ifCond .lt 12, 3) := by decide +kernel
theorem dX8_isWalker_4 : decode cX8_isWalker 4 = .ok (.iload_n 0, 1) := by decide +kernel
theorem dX8_isWalker_5 : decode cX8_isWalker 5 = .ok (.iconst 4, 1) := by decide +kernel
theorem dX8_isWalker_6 : decode cX8_isWalker 6 = .ok (.if_icmp .ge 7, 3) := by decide +kernel
theorem dX8_isWalker_9 : decode cX8_isWalker 9 = .ok (.iconst 1, 1) := by decide +kernel
theorem dX8_isWalker_10 : decode cX8_isWalker 10 = .ok (.goto 4, 3) := by decide +kernel
theorem dX8_isWalker_13 : decode cX8_isWalker 13 = .ok (.iconst 0, 1) := by decide +kernel
theorem dX8_isWalker_14 : decode cX8_isWalker 14 = .ok (.ireturn, 1) := by decide +kernel
theorem dX8_mayAccess_0 : decode cX8_mayAccess 0 = .ok (.iload_n 1, 1) := by decide +kernel
theorem dX8_mayAccess_1 : decode cX8_mayAccess 1 = .ok (.invokestatic 194, 3) := by decide +kernel
theorem dX8_mayAccess_4 : decode cX8_mayAccess 4 = .ok (.ifCond .eq 28, 3) := by decide +kernel
theorem dX8_mayAccess_7 : decode cX8_mayAccess 7 = .ok (.iload_n 2, 1) := by decide +kernel
theorem dX8_mayAccess_8 : decode cX8_mayAccess 8 = .ok (.ifCond .lt 24, 3) := by decide +kernel
theorem dX8_mayAccess_11 : decode cX8_mayAccess 11 = .ok (.iload_n 2, 1) := by decide +kernel
theorem dX8_mayAccess_12 : decode cX8_mayAccess 12 = .ok (.bipush 7, 2) := by decide +kernel
theorem dX8_mayAccess_14 : decode cX8_mayAccess 14 = .ok (.if_icmp .gt 18, 3) := by decide +kernel
theorem dX8_mayAccess_17 : decode cX8_mayAccess 17 = .ok (.aload_n 0, 1) := by decide +kernel
theorem dX8_mayAccess_18 : decode cX8_mayAccess 18 = .ok (.getfield 19, 3) := by decide +kernel
theorem dX8_mayAccess_21 : decode cX8_mayAccess 21 = .ok (.getfield 282, 3) := by decide +kernel
theorem dX8_mayAccess_24 : decode cX8_mayAccess 24 = .ok (.iconst (-1), 1) := by decide +kernel
theorem dX8_mayAccess_25 : decode cX8_mayAccess 25 = .ok (.if_icmp .eq 7, 3) := by decide +kernel
theorem dX8_mayAccess_28 : decode cX8_mayAccess 28 = .ok (.iconst 1, 1) := by decide +kernel
theorem dX8_mayAccess_29 : decode cX8_mayAccess 29 = .ok (.goto 4, 3) := by decide +kernel
theorem dX8_mayAccess_32 : decode cX8_mayAccess 32 = .ok (.iconst 0, 1) := by decide +kernel
theorem dX8_mayAccess_33 : decode cX8_mayAccess 33 = .ok (.ireturn, 1) := by decide +kernel
theorem dX8_codeOf_0 : decode cX8_codeOf 0 = .ok (.iload_n 0, 1) := by decide +kernel
theorem dX8_codeOf_1 : decode cX8_codeOf 1 = .ok (.iload_n 2, 1) := by decide +kernel
theorem dX8_codeOf_2 : decode cX8_codeOf 2 = .ok (.iconst 2, 1) := by decide +kernel
theorem dX8_codeOf_3 : decode cX8_codeOf 3 = .ok (.ishl, 1) := by decide +kernel
theorem dX8_codeOf_4 : decode cX8_codeOf 4 = .ok (.ior, 1) := by decide +kernel
theorem dX8_codeOf_5 : decode cX8_codeOf 5 = .ok (.iload_n 1, 1) := by decide +kernel
theorem dX8_codeOf_6 : decode cX8_codeOf 6 = .ok (.bipush 6, 2) := by decide +kernel
theorem dX8_codeOf_8 : decode cX8_codeOf 8 = .ok (.ishl, 1) := by decide +kernel
theorem dX8_codeOf_9 : decode cX8_codeOf 9 = .ok (.ior, 1) := by decide +kernel
theorem dX8_codeOf_10 : decode cX8_codeOf 10 = .ok (.ireturn, 1) := by decide +kernel
theorem dX8_kindOf_0 : decode cX8_kindOf 0 = .ok (.iload_n 0, 1) := by decide +kernel
theorem dX8_kindOf_1 : decode cX8_kindOf 1 = .ok (.iconst 3, 1) := by decide +kernel
theorem dX8_kindOf_2 : decode cX8_kindOf 2 = .ok (.iand, 1) := by decide +kernel
theorem dX8_kindOf_3 : decode cX8_kindOf 3 = .ok (.ireturn, 1) := by decide +kernel
theorem dX8_rightsOf_0 : decode cX8_rightsOf 0 = .ok (.iload_n 0, 1) := by decide +kernel
theorem dX8_rightsOf_1 : decode cX8_rightsOf 1 = .ok (.iconst 2, 1) := by decide +kernel
theorem dX8_rightsOf_2 : decode cX8_rightsOf 2 = .ok (.ishr, 1) := by decide +kernel
theorem dX8_rightsOf_3 : decode cX8_rightsOf 3 = .ok (.bipush 15, 2) := by decide +kernel
theorem dX8_rightsOf_5 : decode cX8_rightsOf 5 = .ok (.iand, 1) := by decide +kernel
theorem dX8_rightsOf_6 : decode cX8_rightsOf 6 = .ok (.ireturn, 1) := by decide +kernel
theorem dX8_targetOf_0 : decode cX8_targetOf 0 = .ok (.iload_n 0, 1) := by decide +kernel
theorem dX8_targetOf_1 : decode cX8_targetOf 1 = .ok (.bipush 6, 2) := by decide +kernel
theorem dX8_targetOf_3 : decode cX8_targetOf 3 = .ok (.ishr, 1) := by decide +kernel
theorem dX8_targetOf_4 : decode cX8_targetOf 4 = .ok (.ireturn, 1) := by decide +kernel
theorem dX8_cellOf_0 : decode cX8_cellOf 0 = .ok (.iload_n 0, 1) := by decide +kernel
theorem dX8_cellOf_1 : decode cX8_cellOf 1 = .ok (.bipush 8, 2) := by decide +kernel
theorem dX8_cellOf_3 : decode cX8_cellOf 3 = .ok (.imul, 1) := by decide +kernel
theorem dX8_cellOf_4 : decode cX8_cellOf 4 = .ok (.iload_n 1, 1) := by decide +kernel
theorem dX8_cellOf_5 : decode cX8_cellOf 5 = .ok (.iadd, 1) := by decide +kernel
theorem dX8_cellOf_6 : decode cX8_cellOf 6 = .ok (.ireturn, 1) := by decide +kernel
theorem dX8_rootKey_0 : decode cX8_rootKey 0 = .ok (.bipush 96, 2) := by decide +kernel
theorem dX8_rootKey_2 : decode cX8_rootKey 2 = .ok (.iload_n 0, 1) := by decide +kernel
theorem dX8_rootKey_3 : decode cX8_rootKey 3 = .ok (.iadd, 1) := by decide +kernel
theorem dX8_rootKey_4 : decode cX8_rootKey 4 = .ok (.ireturn, 1) := by decide +kernel
theorem dX8_widthOf_0 : decode cX8_widthOf 0 = .ok (.iconst 1, 1) := by decide +kernel
theorem dX8_widthOf_1 : decode cX8_widthOf 1 = .ok (.iconst 3, 1) := by decide +kernel
theorem dX8_widthOf_2 : decode cX8_widthOf 2 = .ok (.iload_n 0, 1) := by decide +kernel
theorem dX8_widthOf_3 : decode cX8_widthOf 3 = .ok (.imul, 1) := by decide +kernel
theorem dX8_widthOf_4 : decode cX8_widthOf 4 = .ok (.ishl, 1) := by decide +kernel
theorem dX8_widthOf_5 : decode cX8_widthOf 5 = .ok (.ireturn, 1) := by decide +kernel
theorem dX8_firstOf_0 : decode cX8_firstOf 0 = .ok (.iload_n 0, 1) := by decide +kernel
theorem dX8_firstOf_1 : decode cX8_firstOf 1 = .ok (.iload_n 0, 1) := by decide +kernel
theorem dX8_firstOf_2 : decode cX8_firstOf 2 = .ok (.iload_n 1, 1) := by decide +kernel
theorem dX8_firstOf_3 : decode cX8_firstOf 3 = .ok (.invokestatic 306, 3) := by decide +kernel
theorem dX8_firstOf_6 : decode cX8_firstOf 6 = .ok (.isub, 1) := by decide +kernel
theorem dX8_firstOf_7 : decode cX8_firstOf 7 = .ok (.ireturn, 1) := by decide +kernel
theorem dX8_restOf_0 : decode cX8_restOf 0 = .ok (.iload_n 0, 1) := by decide +kernel
theorem dX8_restOf_1 : decode cX8_restOf 1 = .ok (.iload_n 1, 1) := by decide +kernel
theorem dX8_restOf_2 : decode cX8_restOf 2 = .ok (.invokestatic 309, 3) := by decide +kernel
theorem dX8_restOf_5 : decode cX8_restOf 5 = .ok (.iconst 1, 1) := by decide +kernel
theorem dX8_restOf_6 : decode cX8_restOf 6 = .ok (.isub, 1) := by decide +kernel
theorem dX8_restOf_7 : decode cX8_restOf 7 = .ok (.iand, 1) := by decide +kernel
theorem dX8_restOf_8 : decode cX8_restOf 8 = .ok (.ireturn, 1) := by decide +kernel
theorem dX8_digitOf_0 : decode cX8_digitOf 0 = .ok (.iload_n 0, 1) := by decide +kernel
theorem dX8_digitOf_1 : decode cX8_digitOf 1 = .ok (.iconst 3, 1) := by decide +kernel
theorem dX8_digitOf_2 : decode cX8_digitOf 2 = .ok (.iload_n 1, 1) := by decide +kernel
theorem dX8_digitOf_3 : decode cX8_digitOf 3 = .ok (.imul, 1) := by decide +kernel
theorem dX8_digitOf_4 : decode cX8_digitOf 4 = .ok (.ishr, 1) := by decide +kernel
theorem dX8_digitOf_5 : decode cX8_digitOf 5 = .ok (.bipush 7, 2) := by decide +kernel
theorem dX8_digitOf_7 : decode cX8_digitOf 7 = .ok (.iand, 1) := by decide +kernel
theorem dX8_digitOf_8 : decode cX8_digitOf 8 = .ok (.ireturn, 1) := by decide +kernel
theorem dX8_fits_0 : decode cX8_fits 0 = .ok (.aload_n 1, 1) := by decide +kernel
theorem dX8_fits_1 : decode cX8_fits 1 = .ok (.iload_n 2, 1) := by decide +kernel
theorem dX8_fits_2 : decode cX8_fits 2 = .ok (.invokevirtual 312, 3) := by decide +kernel
theorem dX8_fits_5 : decode cX8_fits 5 = .ok (.ifCond .eq 28, 3) := by decide +kernel
theorem dX8_fits_8 : decode cX8_fits 8 = .ok (.aload_n 1, 1) := by decide +kernel
theorem dX8_fits_9 : decode cX8_fits 9 = .ok (.getfield 313, 3) := by decide +kernel
theorem dX8_fits_12 : decode cX8_fits 12 = .ok (.aload_n 0, 1) := by decide +kernel
theorem dX8_fits_13 : decode cX8_fits 13 = .ok (.getfield 19, 3) := by decide +kernel
theorem dX8_fits_16 : decode cX8_fits 16 = .ok (.invokevirtual 314, 3) := by decide +kernel
theorem dX8_fits_19 : decode cX8_fits 19 = .ok (.if_icmp .eq 10, 3) := by decide +kernel
theorem dX8_fits_22 : decode cX8_fits 22 = .ok (.aload_n 1, 1) := by decide +kernel
theorem dX8_fits_23 : decode cX8_fits 23 = .ok (.invokevirtual 317, 3) := by decide +kernel
theorem dX8_fits_26 : decode cX8_fits 26 = .ok (.ifCond .eq 7, 3) := by decide +kernel
theorem dX8_fits_29 : decode cX8_fits 29 = .ok (.iconst 1, 1) := by decide +kernel
theorem dX8_fits_30 : decode cX8_fits 30 = .ok (.goto 4, 3) := by decide +kernel
theorem dX8_fits_33 : decode cX8_fits 33 = .ok (.iconst 0, 1) := by decide +kernel
theorem dX8_fits_34 : decode cX8_fits 34 = .ok (.ireturn, 1) := by decide +kernel
theorem dX8_latestFit_0 : decode cX8_latestFit 0 = .ok (.aconst_null, 1) := by decide +kernel
theorem dX8_latestFit_1 : decode cX8_latestFit 1 = .ok (.astore_n 3, 1) := by decide +kernel
theorem dX8_latestFit_2 : decode cX8_latestFit 2 = .ok (.iconst 0, 1) := by decide +kernel
theorem dX8_latestFit_3 : decode cX8_latestFit 3 = .ok (.istore 4, 2) := by decide +kernel
theorem dX8_latestFit_5 : decode cX8_latestFit 5 = .ok (.iload 4, 2) := by decide +kernel
theorem dX8_latestFit_7 : decode cX8_latestFit 7 = .ok (.bipush 6, 2) := by decide +kernel
theorem dX8_latestFit_9 : decode cX8_latestFit 9 = .ok (.if_icmp .ge 59, 3) := by decide +kernel
theorem dX8_latestFit_12 : decode cX8_latestFit 12 = .ok (.aload_n 0, 1) := by decide +kernel
theorem dX8_latestFit_13 : decode cX8_latestFit 13 = .ok (.getfield 26, 3) := by decide +kernel
theorem dX8_latestFit_16 : decode cX8_latestFit 16 = .ok (.getfield 321, 3) := by decide +kernel
theorem dX8_latestFit_19 : decode cX8_latestFit 19 = .ok (.iload 4, 2) := by decide +kernel
theorem dX8_latestFit_21 : decode cX8_latestFit 21 = .ok (.aaload, 1) := by decide +kernel
theorem dX8_latestFit_22 : decode cX8_latestFit 22 = .ok (.astore 5, 2) := by decide +kernel
theorem dX8_latestFit_24 : decode cX8_latestFit 24 = .ok (.aload_n 0, 1) := by decide +kernel
theorem dX8_latestFit_25 : decode cX8_latestFit 25 = .ok (.aload 5, 2) := by decide +kernel
theorem dX8_latestFit_27 : decode cX8_latestFit 27 = .ok (.iload_n 1, 1) := by decide +kernel
theorem dX8_latestFit_28 : decode cX8_latestFit 28 = .ok (.invokevirtual 325, 3) := by decide +kernel
theorem dX8_latestFit_31 : decode cX8_latestFit 31 = .ok (.ifCond .eq 31, 3) := by decide +kernel
theorem dX8_latestFit_34 : decode cX8_latestFit 34 = .ok (.aload 5, 2) := by decide +kernel
theorem dX8_latestFit_36 : decode cX8_latestFit 36 = .ok (.iload_n 2, 1) := by decide +kernel
theorem dX8_latestFit_37 : decode cX8_latestFit 37 = .ok (.invokevirtual 329, 3) := by decide +kernel
theorem dX8_latestFit_40 : decode cX8_latestFit 40 = .ok (.ifCond .eq 22, 3) := by decide +kernel
theorem dX8_latestFit_43 : decode cX8_latestFit 43 = .ok (.aload_n 3, 1) := by decide +kernel
theorem dX8_latestFit_44 : decode cX8_latestFit 44 = .ok (.ifnull 15, 3) := by decide +kernel
theorem dX8_latestFit_47 : decode cX8_latestFit 47 = .ok (.aload 5, 2) := by decide +kernel
theorem dX8_latestFit_49 : decode cX8_latestFit 49 = .ok (.getfield 332, 3) := by decide +kernel
theorem dX8_latestFit_52 : decode cX8_latestFit 52 = .ok (.aload_n 3, 1) := by decide +kernel
theorem dX8_latestFit_53 : decode cX8_latestFit 53 = .ok (.getfield 332, 3) := by decide +kernel
theorem dX8_latestFit_56 : decode cX8_latestFit 56 = .ok (.if_icmp .le 6, 3) := by decide +kernel
theorem dX8_latestFit_59 : decode cX8_latestFit 59 = .ok (.aload 5, 2) := by decide +kernel
theorem dX8_latestFit_61 : decode cX8_latestFit 61 = .ok (.astore_n 3, 1) := by decide +kernel
theorem dX8_latestFit_62 : decode cX8_latestFit 62 = .ok (.iinc 4 1, 3) := by decide +kernel
theorem dX8_latestFit_65 : decode cX8_latestFit 65 = .ok (.goto (-60), 3) := by decide +kernel
theorem dX8_latestFit_68 : decode cX8_latestFit 68 = .ok (.aload_n 3, 1) := by decide +kernel
theorem dX8_latestFit_69 : decode cX8_latestFit 69 = .ok (.areturn, 1) := by decide +kernel
theorem dX8_clearFitsUsedLater_0 : decode cX8_clearFitsUsedLater 0 = .ok (.iconst 0, 1) := by decide +kernel
theorem dX8_clearFitsUsedLater_1 : decode cX8_clearFitsUsedLater 1 = .ok (.istore_n 3, 1) := by decide +kernel
theorem dX8_clearFitsUsedLater_2 : decode cX8_clearFitsUsedLater 2 = .ok (.iload_n 3, 1) := by decide +kernel
theorem dX8_clearFitsUsedLater_3 : decode cX8_clearFitsUsedLater 3 = .ok (.bipush 6, 2) := by decide +kernel
theorem dX8_clearFitsUsedLater_5 : decode cX8_clearFitsUsedLater 5 = .ok (.if_icmp .ge 52, 3) := by decide +kernel
theorem dX8_clearFitsUsedLater_8 : decode cX8_clearFitsUsedLater 8 = .ok (.aload_n 0, 1) := by decide +kernel
theorem dX8_clearFitsUsedLater_9 : decode cX8_clearFitsUsedLater 9 = .ok (.getfield 26, 3) := by decide +kernel
theorem dX8_clearFitsUsedLater_12 : decode cX8_clearFitsUsedLater 12 = .ok (.getfield 321, 3) := by decide +kernel
theorem dX8_clearFitsUsedLater_15 : decode cX8_clearFitsUsedLater 15 = .ok (.iload_n 3, 1) := by decide +kernel
theorem dX8_clearFitsUsedLater_16 : decode cX8_clearFitsUsedLater 16 = .ok (.aaload, 1) := by decide +kernel
theorem dX8_clearFitsUsedLater_17 : decode cX8_clearFitsUsedLater 17 = .ok (.astore 4, 2) := by decide +kernel
theorem dX8_clearFitsUsedLater_19 : decode cX8_clearFitsUsedLater 19 = .ok (.aload_n 0, 1) := by decide +kernel
theorem dX8_clearFitsUsedLater_20 : decode cX8_clearFitsUsedLater 20 = .ok (.aload 4, 2) := by decide +kernel
theorem dX8_clearFitsUsedLater_22 : decode cX8_clearFitsUsedLater 22 = .ok (.iload_n 1, 1) := by decide +kernel
theorem dX8_clearFitsUsedLater_23 : decode cX8_clearFitsUsedLater 23 = .ok (.invokevirtual 325, 3) := by decide +kernel
theorem dX8_clearFitsUsedLater_26 : decode cX8_clearFitsUsedLater 26 = .ok (.ifCond .eq 25, 3) := by decide +kernel
theorem dX8_clearFitsUsedLater_29 : decode cX8_clearFitsUsedLater 29 = .ok (.aload_n 2, 1) := by decide +kernel
theorem dX8_clearFitsUsedLater_30 : decode cX8_clearFitsUsedLater 30 = .ok (.ifnull 15, 3) := by decide +kernel
theorem dX8_clearFitsUsedLater_33 : decode cX8_clearFitsUsedLater 33 = .ok (.aload 4, 2) := by decide +kernel
theorem dX8_clearFitsUsedLater_35 : decode cX8_clearFitsUsedLater 35 = .ok (.getfield 332, 3) := by decide +kernel
theorem dX8_clearFitsUsedLater_38 : decode cX8_clearFitsUsedLater 38 = .ok (.aload_n 2, 1) := by decide +kernel
theorem dX8_clearFitsUsedLater_39 : decode cX8_clearFitsUsedLater 39 = .ok (.getfield 332, 3) := by decide +kernel
theorem dX8_clearFitsUsedLater_42 : decode cX8_clearFitsUsedLater 42 = .ok (.if_icmp .le 9, 3) := by decide +kernel
theorem dX8_clearFitsUsedLater_45 : decode cX8_clearFitsUsedLater 45 = .ok (.aload 4, 2) := by decide +kernel
theorem dX8_clearFitsUsedLater_47 : decode cX8_clearFitsUsedLater 47 = .ok (.iconst 0, 1) := by decide +kernel
theorem dX8_clearFitsUsedLater_48 : decode cX8_clearFitsUsedLater 48 = .ok (.putfield 335, 3) := by decide +kernel
theorem dX8_clearFitsUsedLater_51 : decode cX8_clearFitsUsedLater 51 = .ok (.iinc 3 1, 3) := by decide +kernel
theorem dX8_clearFitsUsedLater_54 : decode cX8_clearFitsUsedLater 54 = .ok (.goto (-52), 3) := by decide +kernel
theorem dX8_clearFitsUsedLater_57 : decode cX8_clearFitsUsedLater 57 = .ok (.return_, 1) := by decide +kernel
theorem dX8_upperAhead_0 : decode cX8_upperAhead 0 = .ok (.aload_n 0, 1) := by decide +kernel
theorem dX8_upperAhead_1 : decode cX8_upperAhead 1 = .ok (.getfield 30, 3) := by decide +kernel
theorem dX8_upperAhead_4 : decode cX8_upperAhead 4 = .ok (.iload_n 1, 1) := by decide +kernel
theorem dX8_upperAhead_5 : decode cX8_upperAhead 5 = .ok (.iconst 1, 1) := by decide +kernel
theorem dX8_upperAhead_6 : decode cX8_upperAhead 6 = .ok (.iload_n 2, 1) := by decide +kernel
theorem dX8_upperAhead_7 : decode cX8_upperAhead 7 = .ok (.iconst 1, 1) := by decide +kernel
theorem dX8_upperAhead_8 : decode cX8_upperAhead 8 = .ok (.invokestatic 339, 3) := by decide +kernel
theorem dX8_upperAhead_11 : decode cX8_upperAhead 11 = .ok (.invokevirtual 342, 3) := by decide +kernel
theorem dX8_upperAhead_14 : decode cX8_upperAhead 14 = .ok (.astore_n 3, 1) := by decide +kernel
theorem dX8_upperAhead_15 : decode cX8_upperAhead 15 = .ok (.aload_n 3, 1) := by decide +kernel
theorem dX8_upperAhead_16 : decode cX8_upperAhead 16 = .ok (.ifnull 7, 3) := by decide +kernel
theorem dX8_upperAhead_19 : decode cX8_upperAhead 19 = .ok (.aload_n 3, 1) := by decide +kernel
theorem dX8_upperAhead_20 : decode cX8_upperAhead 20 = .ok (.goto 17, 3) := by decide +kernel
theorem dX8_upperAhead_23 : decode cX8_upperAhead 23 = .ok (.aload_n 0, 1) := by decide +kernel
theorem dX8_upperAhead_24 : decode cX8_upperAhead 24 = .ok (.getfield 30, 3) := by decide +kernel
theorem dX8_upperAhead_27 : decode cX8_upperAhead 27 = .ok (.iload_n 1, 1) := by decide +kernel
theorem dX8_upperAhead_28 : decode cX8_upperAhead 28 = .ok (.iconst 2, 1) := by decide +kernel
theorem dX8_upperAhead_29 : decode cX8_upperAhead 29 = .ok (.iload_n 2, 1) := by decide +kernel
theorem dX8_upperAhead_30 : decode cX8_upperAhead 30 = .ok (.iconst 2, 1) := by decide +kernel
theorem dX8_upperAhead_31 : decode cX8_upperAhead 31 = .ok (.invokestatic 339, 3) := by decide +kernel
theorem dX8_upperAhead_34 : decode cX8_upperAhead 34 = .ok (.invokevirtual 342, 3) := by decide +kernel
theorem dX8_upperAhead_37 : decode cX8_upperAhead 37 = .ok (.areturn, 1) := by decide +kernel
theorem dX8_placeWalk_0 : decode cX8_placeWalk 0 = .ok (.aload_n 0, 1) := by decide +kernel
theorem dX8_placeWalk_1 : decode cX8_placeWalk 1 = .ok (.getfield 19, 3) := by decide +kernel
theorem dX8_placeWalk_4 : decode cX8_placeWalk 4 = .ok (.invokevirtual 314, 3) := by decide +kernel
theorem dX8_placeWalk_7 : decode cX8_placeWalk 7 = .ok (.istore 5, 2) := by decide +kernel
theorem dX8_placeWalk_9 : decode cX8_placeWalk 9 = .ok (.aload_n 1, 1) := by decide +kernel
theorem dX8_placeWalk_10 : decode cX8_placeWalk 10 = .ok (.iload_n 2, 1) := by decide +kernel
theorem dX8_placeWalk_11 : decode cX8_placeWalk 11 = .ok (.iload_n 3, 1) := by decide +kernel
theorem dX8_placeWalk_12 : decode cX8_placeWalk 12 = .ok (.iload 4, 2) := by decide +kernel
theorem dX8_placeWalk_14 : decode cX8_placeWalk 14 = .ok (.iload 5, 2) := by decide +kernel
theorem dX8_placeWalk_16 : decode cX8_placeWalk 16 = .ok (.invokevirtual 346, 3) := by decide +kernel
theorem dX8_placeWalk_19 : decode cX8_placeWalk 19 = .ok (.aload_n 0, 1) := by decide +kernel
theorem dX8_placeWalk_20 : decode cX8_placeWalk 20 = .ok (.iload 5, 2) := by decide +kernel
theorem dX8_placeWalk_22 : decode cX8_placeWalk 22 = .ok (.iload_n 2, 1) := by decide +kernel
theorem dX8_placeWalk_23 : decode cX8_placeWalk 23 = .ok (.invokevirtual 350, 3) := by decide +kernel
theorem dX8_placeWalk_26 : decode cX8_placeWalk 26 = .ok (.astore 6, 2) := by decide +kernel
theorem dX8_placeWalk_28 : decode cX8_placeWalk 28 = .ok (.aload 6, 2) := by decide +kernel
theorem dX8_placeWalk_30 : decode cX8_placeWalk 30 = .ok (.ifnull 27, 3) := by decide +kernel
theorem dX8_placeWalk_33 : decode cX8_placeWalk 33 = .ok (.aload_n 1, 1) := by decide +kernel
theorem dX8_placeWalk_34 : decode cX8_placeWalk 34 = .ok (.aload 6, 2) := by decide +kernel
theorem dX8_placeWalk_36 : decode cX8_placeWalk 36 = .ok (.getfield 353, 3) := by decide +kernel
theorem dX8_placeWalk_39 : decode cX8_placeWalk 39 = .ok (.iconst 1, 1) := by decide +kernel
theorem dX8_placeWalk_40 : decode cX8_placeWalk 40 = .ok (.isub, 1) := by decide +kernel
theorem dX8_placeWalk_41 : decode cX8_placeWalk 41 = .ok (.aload 6, 2) := by decide +kernel
theorem dX8_placeWalk_43 : decode cX8_placeWalk 43 = .ok (.getfield 354, 3) := by decide +kernel
theorem dX8_placeWalk_46 : decode cX8_placeWalk 46 = .ok (.aload 6, 2) := by decide +kernel
theorem dX8_placeWalk_48 : decode cX8_placeWalk 48 = .ok (.getfield 357, 3) := by decide +kernel
theorem dX8_placeWalk_51 : decode cX8_placeWalk 51 = .ok (.invokevirtual 358, 3) := by decide +kernel
theorem dX8_placeWalk_54 : decode cX8_placeWalk 54 = .ok (.goto 36, 3) := by decide +kernel
theorem dX8_placeWalk_57 : decode cX8_placeWalk 57 = .ok (.aload_n 0, 1) := by decide +kernel
theorem dX8_placeWalk_58 : decode cX8_placeWalk 58 = .ok (.getfield 19, 3) := by decide +kernel
theorem dX8_placeWalk_61 : decode cX8_placeWalk 61 = .ok (.invokevirtual 361, 3) := by decide +kernel
theorem dX8_placeWalk_64 : decode cX8_placeWalk 64 = .ok (.iconst (-1), 1) := by decide +kernel
theorem dX8_placeWalk_65 : decode cX8_placeWalk 65 = .ok (.if_icmp .ne 11, 3) := by decide +kernel
theorem dX8_placeWalk_68 : decode cX8_placeWalk 68 = .ok (.aload_n 1, 1) := by decide +kernel
theorem dX8_placeWalk_69 : decode cX8_placeWalk 69 = .ok (.iconst 1, 1) := by decide +kernel
theorem dX8_placeWalk_70 : decode cX8_placeWalk 70 = .ok (.invokevirtual 364, 3) := by decide +kernel
theorem dX8_placeWalk_73 : decode cX8_placeWalk 73 = .ok (.goto 17, 3) := by decide +kernel
theorem dX8_placeWalk_76 : decode cX8_placeWalk 76 = .ok (.aload_n 1, 1) := by decide +kernel
theorem dX8_placeWalk_77 : decode cX8_placeWalk 77 = .ok (.iconst 2, 1) := by decide +kernel
theorem dX8_placeWalk_78 : decode cX8_placeWalk 78 = .ok (.aload_n 0, 1) := by decide +kernel
theorem dX8_placeWalk_79 : decode cX8_placeWalk 79 = .ok (.getfield 19, 3) := by decide +kernel
theorem dX8_placeWalk_82 : decode cX8_placeWalk 82 = .ok (.invokevirtual 361, 3) := by decide +kernel
theorem dX8_placeWalk_85 : decode cX8_placeWalk 85 = .ok (.bipush 7, 2) := by decide +kernel
theorem dX8_placeWalk_87 : decode cX8_placeWalk 87 = .ok (.invokevirtual 358, 3) := by decide +kernel
theorem dX8_placeWalk_90 : decode cX8_placeWalk 90 = .ok (.aload 6, 2) := by decide +kernel
theorem dX8_placeWalk_92 : decode cX8_placeWalk 92 = .ok (.areturn, 1) := by decide +kernel
theorem dX8_startWalk_0 : decode cX8_startWalk 0 = .ok (.aload_n 0, 1) := by decide +kernel
theorem dX8_startWalk_1 : decode cX8_startWalk 1 = .ok (.aload_n 1, 1) := by decide +kernel
theorem dX8_startWalk_2 : decode cX8_startWalk 2 = .ok (.iload_n 2, 1) := by decide +kernel
theorem dX8_startWalk_3 : decode cX8_startWalk 3 = .ok (.iload_n 3, 1) := by decide +kernel
theorem dX8_startWalk_4 : decode cX8_startWalk 4 = .ok (.iload 4, 2) := by decide +kernel
theorem dX8_startWalk_6 : decode cX8_startWalk 6 = .ok (.invokevirtual 367, 3) := by decide +kernel
theorem dX8_startWalk_9 : decode cX8_startWalk 9 = .ok (.astore 5, 2) := by decide +kernel
theorem dX8_startWalk_11 : decode cX8_startWalk 11 = .ok (.aload 5, 2) := by decide +kernel
theorem dX8_startWalk_13 : decode cX8_startWalk 13 = .ok (.ifnull 22, 3) := by decide +kernel
theorem dX8_startWalk_16 : decode cX8_startWalk 16 = .ok (.aload_n 0, 1) := by decide +kernel
theorem dX8_startWalk_17 : decode cX8_startWalk 17 = .ok (.getfield 30, 3) := by decide +kernel
theorem dX8_startWalk_20 : decode cX8_startWalk 20 = .ok (.aload 5, 2) := by decide +kernel
theorem dX8_startWalk_22 : decode cX8_startWalk 22 = .ok (.invokevirtual 141, 3) := by decide +kernel
theorem dX8_startWalk_25 : decode cX8_startWalk 25 = .ok (.aload_n 0, 1) := by decide +kernel
theorem dX8_startWalk_26 : decode cX8_startWalk 26 = .ok (.dup, 1) := by decide +kernel
theorem dX8_startWalk_27 : decode cX8_startWalk 27 = .ok (.getfield 294, 3) := by decide +kernel
theorem dX8_startWalk_30 : decode cX8_startWalk 30 = .ok (.iconst 1, 1) := by decide +kernel
theorem dX8_startWalk_31 : decode cX8_startWalk 31 = .ok (.iadd, 1) := by decide +kernel
theorem dX8_startWalk_32 : decode cX8_startWalk 32 = .ok (.putfield 294, 3) := by decide +kernel
theorem dX8_startWalk_35 : decode cX8_startWalk 35 = .ok (.return_, 1) := by decide +kernel
theorem dX8_finishWalk_0 : decode cX8_finishWalk 0 = .ok (.iconst 0, 1) := by decide +kernel
theorem dX8_finishWalk_1 : decode cX8_finishWalk 1 = .ok (.istore_n 3, 1) := by decide +kernel
theorem dX8_finishWalk_2 : decode cX8_finishWalk 2 = .ok (.iload_n 3, 1) := by decide +kernel
theorem dX8_finishWalk_3 : decode cX8_finishWalk 3 = .ok (.iconst 3, 1) := by decide +kernel
theorem dX8_finishWalk_4 : decode cX8_finishWalk 4 = .ok (.if_icmp .ge 23, 3) := by decide +kernel
theorem dX8_finishWalk_7 : decode cX8_finishWalk 7 = .ok (.aload_n 1, 1) := by decide +kernel
theorem dX8_finishWalk_8 : decode cX8_finishWalk 8 = .ok (.getfield 164, 3) := by decide +kernel
theorem dX8_finishWalk_11 : decode cX8_finishWalk 11 = .ok (.iconst 1, 1) := by decide +kernel
theorem dX8_finishWalk_12 : decode cX8_finishWalk 12 = .ok (.if_icmp .ne 15, 3) := by decide +kernel
theorem dX8_finishWalk_15 : decode cX8_finishWalk 15 = .ok (.aload_n 0, 1) := by decide +kernel
theorem dX8_finishWalk_16 : decode cX8_finishWalk 16 = .ok (.aload_n 1, 1) := by decide +kernel
theorem dX8_finishWalk_17 : decode cX8_finishWalk 17 = .ok (.iload_n 2, 1) := by decide +kernel
theorem dX8_finishWalk_18 : decode cX8_finishWalk 18 = .ok (.invokevirtual 179, 3) := by decide +kernel
theorem dX8_finishWalk_21 : decode cX8_finishWalk 21 = .ok (.iinc 3 1, 3) := by decide +kernel
theorem dX8_finishWalk_24 : decode cX8_finishWalk 24 = .ok (.goto (-22), 3) := by decide +kernel
theorem dX8_finishWalk_27 : decode cX8_finishWalk 27 = .ok (.return_, 1) := by decide +kernel
theorem dX8_rehearseWalk_0 : decode cX8_rehearseWalk 0 = .ok (.aload_n 0, 1) := by decide +kernel
theorem dX8_rehearseWalk_1 : decode cX8_rehearseWalk 1 = .ok (.aload_n 0, 1) := by decide +kernel
theorem dX8_rehearseWalk_2 : decode cX8_rehearseWalk 2 = .ok (.getfield 40, 3) := by decide +kernel
theorem dX8_rehearseWalk_5 : decode cX8_rehearseWalk 5 = .ok (.iload_n 1, 1) := by decide +kernel
theorem dX8_rehearseWalk_6 : decode cX8_rehearseWalk 6 = .ok (.iload_n 2, 1) := by decide +kernel
theorem dX8_rehearseWalk_7 : decode cX8_rehearseWalk 7 = .ok (.iconst 0, 1) := by decide +kernel
theorem dX8_rehearseWalk_8 : decode cX8_rehearseWalk 8 = .ok (.invokevirtual 367, 3) := by decide +kernel
theorem dX8_rehearseWalk_11 : decode cX8_rehearseWalk 11 = .ok (.pop, 1) := by decide +kernel
theorem dX8_rehearseWalk_12 : decode cX8_rehearseWalk 12 = .ok (.aload_n 0, 1) := by decide +kernel
theorem dX8_rehearseWalk_13 : decode cX8_rehearseWalk 13 = .ok (.aload_n 0, 1) := by decide +kernel
theorem dX8_rehearseWalk_14 : decode cX8_rehearseWalk 14 = .ok (.getfield 40, 3) := by decide +kernel
theorem dX8_rehearseWalk_17 : decode cX8_rehearseWalk 17 = .ok (.iconst 0, 1) := by decide +kernel
theorem dX8_rehearseWalk_18 : decode cX8_rehearseWalk 18 = .ok (.invokevirtual 154, 3) := by decide +kernel
theorem dX8_rehearseWalk_21 : decode cX8_rehearseWalk 21 = .ok (.return_, 1) := by decide +kernel
theorem dX8_readEntry_0 : decode cX8_readEntry 0 = .ok (.aload_n 1, 1) := by decide +kernel
theorem dX8_readEntry_1 : decode cX8_readEntry 1 = .ok (.getfield 371, 3) := by decide +kernel
theorem dX8_readEntry_4 : decode cX8_readEntry 4 = .ok (.aload_n 1, 1) := by decide +kernel
theorem dX8_readEntry_5 : decode cX8_readEntry 5 = .ok (.getfield 182, 3) := by decide +kernel
theorem dX8_readEntry_8 : decode cX8_readEntry 8 = .ok (.aload_n 1, 1) := by decide +kernel
theorem dX8_readEntry_9 : decode cX8_readEntry 9 = .ok (.getfield 188, 3) := by decide +kernel
theorem dX8_readEntry_12 : decode cX8_readEntry 12 = .ok (.invokestatic 374, 3) := by decide +kernel
theorem dX8_readEntry_15 : decode cX8_readEntry 15 = .ok (.invokestatic 80, 3) := by decide +kernel
theorem dX8_readEntry_18 : decode cX8_readEntry 18 = .ok (.istore_n 3, 1) := by decide +kernel
theorem dX8_readEntry_19 : decode cX8_readEntry 19 = .ok (.aload_n 0, 1) := by decide +kernel
theorem dX8_readEntry_20 : decode cX8_readEntry 20 = .ok (.getfield 9, 3) := by decide +kernel
theorem dX8_readEntry_23 : decode cX8_readEntry 23 = .ok (.iload_n 3, 1) := by decide +kernel
theorem dX8_readEntry_24 : decode cX8_readEntry 24 = .ok (.iaload, 1) := by decide +kernel
theorem dX8_readEntry_25 : decode cX8_readEntry 25 = .ok (.istore 4, 2) := by decide +kernel
theorem dX8_readEntry_27 : decode cX8_readEntry 27 = .ok (.aload_n 1, 1) := by decide +kernel
theorem dX8_readEntry_28 : decode cX8_readEntry 28 = .ok (.getfield 377, 3) := by decide +kernel
theorem dX8_readEntry_31 : decode cX8_readEntry 31 = .ok (.iload 4, 2) := by decide +kernel
theorem dX8_readEntry_33 : decode cX8_readEntry 33 = .ok (.invokestatic 243, 3) := by decide +kernel
theorem dX8_readEntry_36 : decode cX8_readEntry 36 = .ok (.iand, 1) := by decide +kernel
theorem dX8_readEntry_37 : decode cX8_readEntry 37 = .ok (.istore 5, 2) := by decide +kernel
theorem dX8_readEntry_39 : decode cX8_readEntry 39 = .ok (.aload_n 1, 1) := by decide +kernel
theorem dX8_readEntry_40 : decode cX8_readEntry 40 = .ok (.dup, 1) := by decide +kernel
theorem dX8_readEntry_41 : decode cX8_readEntry 41 = .ok (.getfield 161, 3) := by decide +kernel
theorem dX8_readEntry_44 : decode cX8_readEntry 44 = .ok (.iconst 1, 1) := by decide +kernel
theorem dX8_readEntry_45 : decode cX8_readEntry 45 = .ok (.iadd, 1) := by decide +kernel
theorem dX8_readEntry_46 : decode cX8_readEntry 46 = .ok (.putfield 161, 3) := by decide +kernel
theorem dX8_readEntry_49 : decode cX8_readEntry 49 = .ok (.iload 4, 2) := by decide +kernel
theorem dX8_readEntry_51 : decode cX8_readEntry 51 = .ok (.aload_n 1, 1) := by decide +kernel
theorem dX8_readEntry_52 : decode cX8_readEntry 52 = .ok (.getfield 188, 3) := by decide +kernel
theorem dX8_readEntry_55 : decode cX8_readEntry 55 = .ok (.aload_n 1, 1) := by decide +kernel
theorem dX8_readEntry_56 : decode cX8_readEntry 56 = .ok (.getfield 378, 3) := by decide +kernel
theorem dX8_readEntry_59 : decode cX8_readEntry 59 = .ok (.iload 5, 2) := by decide +kernel
theorem dX8_readEntry_61 : decode cX8_readEntry 61 = .ok (.iconst (-1), 1) := by decide +kernel
theorem dX8_readEntry_62 : decode cX8_readEntry 62 = .ok (.ixor, 1) := by decide +kernel
theorem dX8_readEntry_63 : decode cX8_readEntry 63 = .ok (.iand, 1) := by decide +kernel
theorem dX8_readEntry_64 : decode cX8_readEntry 64 = .ok (.invokestatic 381, 3) := by decide +kernel
theorem dX8_readEntry_67 : decode cX8_readEntry 67 = .ok (.istore 6, 2) := by decide +kernel
theorem dX8_readEntry_69 : decode cX8_readEntry 69 = .ok (.iload 6, 2) := by decide +kernel
theorem dX8_readEntry_71 : decode cX8_readEntry 71 = .ok (.ifCond .eq 10, 3) := by decide +kernel
theorem dX8_readEntry_74 : decode cX8_readEntry 74 = .ok (.aload_n 1, 1) := by decide +kernel
theorem dX8_readEntry_75 : decode cX8_readEntry 75 = .ok (.iload 6, 2) := by decide +kernel
theorem dX8_readEntry_77 : decode cX8_readEntry 77 = .ok (.invokevirtual 364, 3) := by decide +kernel
theorem dX8_readEntry_80 : decode cX8_readEntry 80 = .ok (.return_, 1) := by decide +kernel
theorem dX8_readEntry_81 : decode cX8_readEntry 81 = .ok (.aload_n 1, 1) := by decide +kernel
theorem dX8_readEntry_82 : decode cX8_readEntry 82 = .ok (.getfield 384, 3) := by decide +kernel
theorem dX8_readEntry_85 : decode cX8_readEntry 85 = .ok (.ifCond .ne 10, 3) := by decide +kernel
theorem dX8_readEntry_88 : decode cX8_readEntry 88 = .ok (.aload_n 0, 1) := by decide +kernel
theorem dX8_readEntry_89 : decode cX8_readEntry 89 = .ok (.aload_n 1, 1) := by decide +kernel
theorem dX8_readEntry_90 : decode cX8_readEntry 90 = .ok (.iload_n 3, 1) := by decide +kernel
theorem dX8_readEntry_91 : decode cX8_readEntry 91 = .ok (.iload_n 2, 1) := by decide +kernel
theorem dX8_readEntry_92 : decode cX8_readEntry 92 = .ok (.invokevirtual 387, 3) := by decide +kernel
theorem dX8_readEntry_95 : decode cX8_readEntry 95 = .ok (.iload_n 2, 1) := by decide +kernel
theorem dX8_readEntry_96 : decode cX8_readEntry 96 = .ok (.ifCond .eq 22, 3) := by decide +kernel
theorem dX8_readEntry_99 : decode cX8_readEntry 99 = .ok (.aload_n 0, 1) := by decide +kernel
theorem dX8_readEntry_100 : decode cX8_readEntry 100 = .ok (.getfield 13, 3) := by decide +kernel
theorem dX8_readEntry_103 : decode cX8_readEntry 103 = .ok (.iload_n 3, 1) := by decide +kernel
theorem dX8_readEntry_104 : decode cX8_readEntry 104 = .ok (.iaload, 1) := by decide +kernel
theorem dX8_readEntry_105 : decode cX8_readEntry 105 = .ok (.iconst 1, 1) := by decide +kernel
theorem dX8_readEntry_106 : decode cX8_readEntry 106 = .ok (.iand, 1) := by decide +kernel
theorem dX8_readEntry_107 : decode cX8_readEntry 107 = .ok (.ifCond .eq 11, 3) := by decide +kernel
theorem dX8_readEntry_110 : decode cX8_readEntry 110 = .ok (.aload_n 0, 1) := by decide +kernel
theorem dX8_readEntry_111 : decode cX8_readEntry 111 = .ok (.aload_n 1, 1) := by decide +kernel
theorem dX8_readEntry_112 : decode cX8_readEntry 112 = .ok (.iload_n 3, 1) := by decide +kernel
theorem dX8_readEntry_113 : decode cX8_readEntry 113 = .ok (.iload 5, 2) := by decide +kernel
theorem dX8_readEntry_115 : decode cX8_readEntry 115 = .ok (.invokevirtual 391, 3) := by decide +kernel
theorem dX8_readEntry_118 : decode cX8_readEntry 118 = .ok (.aload_n 1, 1) := by decide +kernel
theorem dX8_readEntry_119 : decode cX8_readEntry 119 = .ok (.getfield 395, 3) := by decide +kernel
theorem dX8_readEntry_122 : decode cX8_readEntry 122 = .ok (.aload_n 1, 1) := by decide +kernel
theorem dX8_readEntry_123 : decode cX8_readEntry 123 = .ok (.getfield 188, 3) := by decide +kernel
theorem dX8_readEntry_126 : decode cX8_readEntry 126 = .ok (.iload_n 3, 1) := by decide +kernel
theorem dX8_readEntry_127 : decode cX8_readEntry 127 = .ok (.iastore, 1) := by decide +kernel
theorem dX8_readEntry_128 : decode cX8_readEntry 128 = .ok (.iload 4, 2) := by decide +kernel
theorem dX8_readEntry_130 : decode cX8_readEntry 130 = .ok (.invokestatic 92, 3) := by decide +kernel
theorem dX8_readEntry_133 : decode cX8_readEntry 133 = .ok (.iconst 2, 1) := by decide +kernel
theorem dX8_readEntry_134 : decode cX8_readEntry 134 = .ok (.if_icmp .ne 27, 3) := by decide +kernel
theorem dX8_readEntry_137 : decode cX8_readEntry 137 = .ok (.aload_n 1, 1) := by decide +kernel
theorem dX8_readEntry_138 : decode cX8_readEntry 138 = .ok (.iload 4, 2) := by decide +kernel
theorem dX8_readEntry_140 : decode cX8_readEntry 140 = .ok (.invokestatic 240, 3) := by decide +kernel
theorem dX8_readEntry_143 : decode cX8_readEntry 143 = .ok (.aload_n 1, 1) := by decide +kernel
theorem dX8_readEntry_144 : decode cX8_readEntry 144 = .ok (.getfield 182, 3) := by decide +kernel
theorem dX8_readEntry_147 : decode cX8_readEntry 147 = .ok (.aload_n 1, 1) := by decide +kernel
theorem dX8_readEntry_148 : decode cX8_readEntry 148 = .ok (.getfield 188, 3) := by decide +kernel
theorem dX8_readEntry_151 : decode cX8_readEntry 151 = .ok (.invokestatic 306, 3) := by decide +kernel
theorem dX8_readEntry_154 : decode cX8_readEntry 154 = .ok (.iadd, 1) := by decide +kernel
theorem dX8_readEntry_155 : decode cX8_readEntry 155 = .ok (.invokevirtual 396, 3) := by decide +kernel
theorem dX8_readEntry_158 : decode cX8_readEntry 158 = .ok (.goto 20, 3) := by decide +kernel
theorem dX8_readEntry_161 : decode cX8_readEntry 161 = .ok (.aload_n 1, 1) := by decide +kernel
theorem dX8_readEntry_162 : decode cX8_readEntry 162 = .ok (.aload_n 1, 1) := by decide +kernel
theorem dX8_readEntry_163 : decode cX8_readEntry 163 = .ok (.getfield 188, 3) := by decide +kernel
theorem dX8_readEntry_166 : decode cX8_readEntry 166 = .ok (.iconst 1, 1) := by decide +kernel
theorem dX8_readEntry_167 : decode cX8_readEntry 167 = .ok (.isub, 1) := by decide +kernel
theorem dX8_readEntry_168 : decode cX8_readEntry 168 = .ok (.iload 4, 2) := by decide +kernel
theorem dX8_readEntry_170 : decode cX8_readEntry 170 = .ok (.invokestatic 240, 3) := by decide +kernel
theorem dX8_readEntry_173 : decode cX8_readEntry 173 = .ok (.iload 5, 2) := by decide +kernel
theorem dX8_readEntry_175 : decode cX8_readEntry 175 = .ok (.invokevirtual 358, 3) := by decide +kernel
theorem dX8_readEntry_178 : decode cX8_readEntry 178 = .ok (.return_, 1) := by decide +kernel
theorem dX8_faultOf_0 : decode cX8_faultOf 0 = .ok (.iload_n 0, 1) := by decide +kernel
theorem dX8_faultOf_1 : decode cX8_faultOf 1 = .ok (.invokestatic 92, 3) := by decide +kernel
theorem dX8_faultOf_4 : decode cX8_faultOf 4 = .ok (.ifCond .ne 5, 3) := by decide +kernel
theorem dX8_faultOf_7 : decode cX8_faultOf 7 = .ok (.iconst 2, 1) := by decide +kernel
theorem dX8_faultOf_8 : decode cX8_faultOf 8 = .ok (.ireturn, 1) := by decide +kernel
theorem dX8_faultOf_9 : decode cX8_faultOf 9 = .ok (.iload_n 0, 1) := by decide +kernel
theorem dX8_faultOf_10 : decode cX8_faultOf 10 = .ok (.invokestatic 92, 3) := by decide +kernel
theorem dX8_faultOf_13 : decode cX8_faultOf 13 = .ok (.iconst 1, 1) := by decide +kernel
theorem dX8_faultOf_14 : decode cX8_faultOf 14 = .ok (.if_icmp .ne 9, 3) := by decide +kernel
theorem dX8_faultOf_17 : decode cX8_faultOf 17 = .ok (.iload_n 1, 1) := by decide +kernel
theorem dX8_faultOf_18 : decode cX8_faultOf 18 = .ok (.ifCond .ne 5, 3) := by decide +kernel
theorem dX8_faultOf_21 : decode cX8_faultOf 21 = .ok (.iconst 3, 1) := by decide +kernel
theorem dX8_faultOf_22 : decode cX8_faultOf 22 = .ok (.ireturn, 1) := by decide +kernel
theorem dX8_faultOf_23 : decode cX8_faultOf 23 = .ok (.iload_n 2, 1) := by decide +kernel
theorem dX8_faultOf_24 : decode cX8_faultOf 24 = .ok (.ifCond .eq 7, 3) := by decide +kernel
theorem dX8_faultOf_27 : decode cX8_faultOf 27 = .ok (.iconst 4, 1) := by decide +kernel
theorem dX8_faultOf_28 : decode cX8_faultOf 28 = .ok (.goto 4, 3) := by decide +kernel
theorem dX8_faultOf_31 : decode cX8_faultOf 31 = .ok (.iconst 0, 1) := by decide +kernel
theorem dX8_faultOf_32 : decode cX8_faultOf 32 = .ok (.ireturn, 1) := by decide +kernel
theorem dX8_setMarks_0 : decode cX8_setMarks 0 = .ok (.aload_n 0, 1) := by decide +kernel
theorem dX8_setMarks_1 : decode cX8_setMarks 1 = .ok (.getfield 9, 3) := by decide +kernel
theorem dX8_setMarks_4 : decode cX8_setMarks 4 = .ok (.iload_n 2, 1) := by decide +kernel
theorem dX8_setMarks_5 : decode cX8_setMarks 5 = .ok (.iaload, 1) := by decide +kernel
theorem dX8_setMarks_6 : decode cX8_setMarks 6 = .ok (.invokestatic 92, 3) := by decide +kernel
theorem dX8_setMarks_9 : decode cX8_setMarks 9 = .ok (.iconst 2, 1) := by decide +kernel
theorem dX8_setMarks_10 : decode cX8_setMarks 10 = .ok (.if_icmp .ne 16, 3) := by decide +kernel
theorem dX8_setMarks_13 : decode cX8_setMarks 13 = .ok (.aload_n 1, 1) := by decide +kernel
theorem dX8_setMarks_14 : decode cX8_setMarks 14 = .ok (.getfield 378, 3) := by decide +kernel
theorem dX8_setMarks_17 : decode cX8_setMarks 17 = .ok (.iconst 1, 1) := by decide +kernel
theorem dX8_setMarks_18 : decode cX8_setMarks 18 = .ok (.iand, 1) := by decide +kernel
theorem dX8_setMarks_19 : decode cX8_setMarks 19 = .ok (.ifCond .eq 7, 3) := by decide +kernel
theorem dX8_setMarks_22 : decode cX8_setMarks 22 = .ok (.iconst 1, 1) := by decide +kernel
theorem dX8_setMarks_23 : decode cX8_setMarks 23 = .ok (.goto 4, 3) := by decide +kernel
theorem dX8_setMarks_26 : decode cX8_setMarks 26 = .ok (.iconst 0, 1) := by decide +kernel
theorem dX8_setMarks_27 : decode cX8_setMarks 27 = .ok (.istore 4, 2) := by decide +kernel
theorem dX8_setMarks_29 : decode cX8_setMarks 29 = .ok (.iload 4, 2) := by decide +kernel
theorem dX8_setMarks_31 : decode cX8_setMarks 31 = .ok (.ifCond .eq 7, 3) := by decide +kernel
theorem dX8_setMarks_34 : decode cX8_setMarks 34 = .ok (.iconst 3, 1) := by decide +kernel
theorem dX8_setMarks_35 : decode cX8_setMarks 35 = .ok (.goto 4, 3) := by decide +kernel
theorem dX8_setMarks_38 : decode cX8_setMarks 38 = .ok (.iconst 1, 1) := by decide +kernel
theorem dX8_setMarks_39 : decode cX8_setMarks 39 = .ok (.aload_n 0, 1) := by decide +kernel
theorem dX8_setMarks_40 : decode cX8_setMarks 40 = .ok (.getfield 13, 3) := by decide +kernel
theorem dX8_setMarks_43 : decode cX8_setMarks 43 = .ok (.iload_n 2, 1) := by decide +kernel
theorem dX8_setMarks_44 : decode cX8_setMarks 44 = .ok (.iaload, 1) := by decide +kernel
theorem dX8_setMarks_45 : decode cX8_setMarks 45 = .ok (.iconst (-1), 1) := by decide +kernel
theorem dX8_setMarks_46 : decode cX8_setMarks 46 = .ok (.ixor, 1) := by decide +kernel
theorem dX8_setMarks_47 : decode cX8_setMarks 47 = .ok (.iand, 1) := by decide +kernel
theorem dX8_setMarks_48 : decode cX8_setMarks 48 = .ok (.istore 5, 2) := by decide +kernel
theorem dX8_setMarks_50 : decode cX8_setMarks 50 = .ok (.iload_n 3, 1) := by decide +kernel
theorem dX8_setMarks_51 : decode cX8_setMarks 51 = .ok (.ifCond .eq 17, 3) := by decide +kernel
theorem dX8_setMarks_54 : decode cX8_setMarks 54 = .ok (.aload_n 0, 1) := by decide +kernel
theorem dX8_setMarks_55 : decode cX8_setMarks 55 = .ok (.getfield 13, 3) := by decide +kernel
theorem dX8_setMarks_58 : decode cX8_setMarks 58 = .ok (.iload_n 2, 1) := by decide +kernel
theorem dX8_setMarks_59 : decode cX8_setMarks 59 = .ok (.dup2, 1) := by decide +kernel
theorem dX8_setMarks_60 : decode cX8_setMarks 60 = .ok (.iaload, 1) := by decide +kernel
theorem dX8_setMarks_61 : decode cX8_setMarks 61 = .ok (.iload 5, 2) := by decide +kernel
theorem dX8_setMarks_63 : decode cX8_setMarks 63 = .ok (.ior, 1) := by decide +kernel
theorem dX8_setMarks_64 : decode cX8_setMarks 64 = .ok (.iastore, 1) := by decide +kernel
theorem dX8_setMarks_65 : decode cX8_setMarks 65 = .ok (.goto 14, 3) := by decide +kernel
theorem dX8_setMarks_68 : decode cX8_setMarks 68 = .ok (.aload_n 1, 1) := by decide +kernel
theorem dX8_setMarks_69 : decode cX8_setMarks 69 = .ok (.iload_n 2, 1) := by decide +kernel
theorem dX8_setMarks_70 : decode cX8_setMarks 70 = .ok (.invokevirtual 399, 3) := by decide +kernel
theorem dX8_setMarks_73 : decode cX8_setMarks 73 = .ok (.ifCond .eq 6, 3) := by decide +kernel
theorem dX8_setMarks_76 : decode cX8_setMarks 76 = .ok (.iconst 0, 1) := by decide +kernel
theorem dX8_setMarks_77 : decode cX8_setMarks 77 = .ok (.istore 5, 2) := by decide +kernel
theorem dX8_setMarks_79 : decode cX8_setMarks 79 = .ok (.iload 5, 2) := by decide +kernel
theorem dX8_setMarks_81 : decode cX8_setMarks 81 = .ok (.ifCond .eq 13, 3) := by decide +kernel
theorem dX8_setMarks_84 : decode cX8_setMarks 84 = .ok (.aload_n 1, 1) := by decide +kernel
theorem dX8_setMarks_85 : decode cX8_setMarks 85 = .ok (.dup, 1) := by decide +kernel
theorem dX8_setMarks_86 : decode cX8_setMarks 86 = .ok (.getfield 161, 3) := by decide +kernel
theorem dX8_setMarks_89 : decode cX8_setMarks 89 = .ok (.iconst 1, 1) := by decide +kernel
theorem dX8_setMarks_90 : decode cX8_setMarks 90 = .ok (.iadd, 1) := by decide +kernel
theorem dX8_setMarks_91 : decode cX8_setMarks 91 = .ok (.putfield 161, 3) := by decide +kernel
theorem dX8_setMarks_94 : decode cX8_setMarks 94 = .ok (.return_, 1) := by decide +kernel
theorem dX8_bringToCaches_0 : decode cX8_bringToCaches 0 = .ok (.aload_n 0, 1) := by decide +kernel
theorem dX8_bringToCaches_1 : decode cX8_bringToCaches 1 = .ok (.getfield 9, 3) := by decide +kernel
theorem dX8_bringToCaches_4 : decode cX8_bringToCaches 4 = .ok (.iload_n 2, 1) := by decide +kernel
theorem dX8_bringToCaches_5 : decode cX8_bringToCaches 5 = .ok (.iaload, 1) := by decide +kernel
theorem dX8_bringToCaches_6 : decode cX8_bringToCaches 6 = .ok (.istore 4, 2) := by decide +kernel
theorem dX8_bringToCaches_8 : decode cX8_bringToCaches 8 = .ok (.iload 4, 2) := by decide +kernel
theorem dX8_bringToCaches_10 : decode cX8_bringToCaches 10 = .ok (.invokestatic 92, 3) := by decide +kernel
theorem dX8_bringToCaches_13 : decode cX8_bringToCaches 13 = .ok (.iconst 2, 1) := by decide +kernel
theorem dX8_bringToCaches_14 : decode cX8_bringToCaches 14 = .ok (.if_icmp .ne 7, 3) := by decide +kernel
theorem dX8_bringToCaches_17 : decode cX8_bringToCaches 17 = .ok (.iconst 1, 1) := by decide +kernel
theorem dX8_bringToCaches_18 : decode cX8_bringToCaches 18 = .ok (.goto 4, 3) := by decide +kernel
theorem dX8_bringToCaches_21 : decode cX8_bringToCaches 21 = .ok (.iconst 0, 1) := by decide +kernel
theorem dX8_bringToCaches_22 : decode cX8_bringToCaches 22 = .ok (.istore 5, 2) := by decide +kernel
theorem dX8_bringToCaches_24 : decode cX8_bringToCaches 24 = .ok (.iload 5, 2) := by decide +kernel
theorem dX8_bringToCaches_26 : decode cX8_bringToCaches 26 = .ok (.ifCond .eq 10, 3) := by decide +kernel
theorem dX8_bringToCaches_29 : decode cX8_bringToCaches 29 = .ok (.aload_n 0, 1) := by decide +kernel
theorem dX8_bringToCaches_30 : decode cX8_bringToCaches 30 = .ok (.getfield 26, 3) := by decide +kernel
theorem dX8_bringToCaches_33 : decode cX8_bringToCaches 33 = .ok (.goto 7, 3) := by decide +kernel
theorem dX8_bringToCaches_36 : decode cX8_bringToCaches 36 = .ok (.aload_n 0, 1) := by decide +kernel
theorem dX8_bringToCaches_37 : decode cX8_bringToCaches 37 = .ok (.getfield 30, 3) := by decide +kernel
theorem dX8_bringToCaches_40 : decode cX8_bringToCaches 40 = .ok (.astore 6, 2) := by decide +kernel
theorem dX8_bringToCaches_42 : decode cX8_bringToCaches 42 = .ok (.aload 6, 2) := by decide +kernel
theorem dX8_bringToCaches_44 : decode cX8_bringToCaches 44 = .ok (.aload_n 1, 1) := by decide +kernel
theorem dX8_bringToCaches_45 : decode cX8_bringToCaches 45 = .ok (.getfield 191, 3) := by decide +kernel
theorem dX8_bringToCaches_48 : decode cX8_bringToCaches 48 = .ok (.aload_n 1, 1) := by decide +kernel
theorem dX8_bringToCaches_49 : decode cX8_bringToCaches 49 = .ok (.getfield 188, 3) := by decide +kernel
theorem dX8_bringToCaches_52 : decode cX8_bringToCaches 52 = .ok (.aload_n 1, 1) := by decide +kernel
theorem dX8_bringToCaches_53 : decode cX8_bringToCaches 53 = .ok (.getfield 182, 3) := by decide +kernel
theorem dX8_bringToCaches_56 : decode cX8_bringToCaches 56 = .ok (.aload_n 1, 1) := by decide +kernel
theorem dX8_bringToCaches_57 : decode cX8_bringToCaches 57 = .ok (.getfield 188, 3) := by decide +kernel
theorem dX8_bringToCaches_60 : decode cX8_bringToCaches 60 = .ok (.invokestatic 339, 3) := by decide +kernel
theorem dX8_bringToCaches_63 : decode cX8_bringToCaches 63 = .ok (.invokevirtual 402, 3) := by decide +kernel
theorem dX8_bringToCaches_66 : decode cX8_bringToCaches 66 = .ok (.astore 7, 2) := by decide +kernel
theorem dX8_bringToCaches_68 : decode cX8_bringToCaches 68 = .ok (.aload 7, 2) := by decide +kernel
theorem dX8_bringToCaches_70 : decode cX8_bringToCaches 70 = .ok (.iload 4, 2) := by decide +kernel
theorem dX8_bringToCaches_72 : decode cX8_bringToCaches 72 = .ok (.invokestatic 240, 3) := by decide +kernel
theorem dX8_bringToCaches_75 : decode cX8_bringToCaches 75 = .ok (.putfield 354, 3) := by decide +kernel
theorem dX8_bringToCaches_78 : decode cX8_bringToCaches 78 = .ok (.aload 7, 2) := by decide +kernel
theorem dX8_bringToCaches_80 : decode cX8_bringToCaches 80 = .ok (.iload 5, 2) := by decide +kernel
theorem dX8_bringToCaches_82 : decode cX8_bringToCaches 82 = .ok (.ifCond .eq 16, 3) := by decide +kernel
theorem dX8_bringToCaches_85 : decode cX8_bringToCaches 85 = .ok (.iload_n 3, 1) := by decide +kernel
theorem dX8_bringToCaches_86 : decode cX8_bringToCaches 86 = .ok (.iload 4, 2) := by decide +kernel
theorem dX8_bringToCaches_88 : decode cX8_bringToCaches 88 = .ok (.invokestatic 243, 3) := by decide +kernel
theorem dX8_bringToCaches_91 : decode cX8_bringToCaches 91 = .ok (.bipush 8, 2) := by decide +kernel
theorem dX8_bringToCaches_93 : decode cX8_bringToCaches 93 = .ok (.iand, 1) := by decide +kernel
theorem dX8_bringToCaches_94 : decode cX8_bringToCaches 94 = .ok (.ior, 1) := by decide +kernel
theorem dX8_bringToCaches_95 : decode cX8_bringToCaches 95 = .ok (.goto 4, 3) := by decide +kernel
theorem dX8_bringToCaches_98 : decode cX8_bringToCaches 98 = .ok (.iload_n 3, 1) := by decide +kernel
theorem dX8_bringToCaches_99 : decode cX8_bringToCaches 99 = .ok (.putfield 357, 3) := by decide +kernel
theorem dX8_bringToCaches_102 : decode cX8_bringToCaches 102 = .ok (.aload 7, 2) := by decide +kernel
theorem dX8_bringToCaches_104 : decode cX8_bringToCaches 104 = .ok (.iload 5, 2) := by decide +kernel
theorem dX8_bringToCaches_106 : decode cX8_bringToCaches 106 = .ok (.ifCond .eq 18, 3) := by decide +kernel
theorem dX8_bringToCaches_109 : decode cX8_bringToCaches 109 = .ok (.aload_n 0, 1) := by decide +kernel
theorem dX8_bringToCaches_110 : decode cX8_bringToCaches 110 = .ok (.getfield 13, 3) := by decide +kernel
theorem dX8_bringToCaches_113 : decode cX8_bringToCaches 113 = .ok (.iload_n 2, 1) := by decide +kernel
theorem dX8_bringToCaches_114 : decode cX8_bringToCaches 114 = .ok (.iaload, 1) := by decide +kernel
theorem dX8_bringToCaches_115 : decode cX8_bringToCaches 115 = .ok (.iconst 2, 1) := by decide +kernel
theorem dX8_bringToCaches_116 : decode cX8_bringToCaches 116 = .ok (.iand, 1) := by decide +kernel
theorem dX8_bringToCaches_117 : decode cX8_bringToCaches 117 = .ok (.ifCond .eq 7, 3) := by decide +kernel
theorem dX8_bringToCaches_120 : decode cX8_bringToCaches 120 = .ok (.iconst 1, 1) := by decide +kernel
theorem dX8_bringToCaches_121 : decode cX8_bringToCaches 121 = .ok (.goto 4, 3) := by decide +kernel
theorem dX8_bringToCaches_124 : decode cX8_bringToCaches 124 = .ok (.iconst 0, 1) := by decide +kernel
theorem dX8_bringToCaches_125 : decode cX8_bringToCaches 125 = .ok (.putfield 253, 3) := by decide +kernel
theorem dX8_bringToCaches_128 : decode cX8_bringToCaches 128 = .ok (.return_, 1) := by decide +kernel
theorem dX8_abortWalkersOf_0 : decode cX8_abortWalkersOf 0 = .ok (.iconst 0, 1) := by decide +kernel
theorem dX8_abortWalkersOf_1 : decode cX8_abortWalkersOf 1 = .ok (.istore_n 2, 1) := by decide +kernel
theorem dX8_abortWalkersOf_2 : decode cX8_abortWalkersOf 2 = .ok (.iload_n 2, 1) := by decide +kernel
theorem dX8_abortWalkersOf_3 : decode cX8_abortWalkersOf 3 = .ok (.iconst 4, 1) := by decide +kernel
theorem dX8_abortWalkersOf_4 : decode cX8_abortWalkersOf 4 = .ok (.if_icmp .ge 31, 3) := by decide +kernel
theorem dX8_abortWalkersOf_7 : decode cX8_abortWalkersOf 7 = .ok (.aload_n 0, 1) := by decide +kernel
theorem dX8_abortWalkersOf_8 : decode cX8_abortWalkersOf 8 = .ok (.getfield 35, 3) := by decide +kernel
theorem dX8_abortWalkersOf_11 : decode cX8_abortWalkersOf 11 = .ok (.iload_n 2, 1) := by decide +kernel
theorem dX8_abortWalkersOf_12 : decode cX8_abortWalkersOf 12 = .ok (.aaload, 1) := by decide +kernel
theorem dX8_abortWalkersOf_13 : decode cX8_abortWalkersOf 13 = .ok (.getfield 191, 3) := by decide +kernel
theorem dX8_abortWalkersOf_16 : decode cX8_abortWalkersOf 16 = .ok (.iload_n 1, 1) := by decide +kernel
theorem dX8_abortWalkersOf_17 : decode cX8_abortWalkersOf 17 = .ok (.if_icmp .ne 12, 3) := by decide +kernel
theorem dX8_abortWalkersOf_20 : decode cX8_abortWalkersOf 20 = .ok (.aload_n 0, 1) := by decide +kernel
theorem dX8_abortWalkersOf_21 : decode cX8_abortWalkersOf 21 = .ok (.getfield 35, 3) := by decide +kernel
theorem dX8_abortWalkersOf_24 : decode cX8_abortWalkersOf 24 = .ok (.iload_n 2, 1) := by decide +kernel
theorem dX8_abortWalkersOf_25 : decode cX8_abortWalkersOf 25 = .ok (.aaload, 1) := by decide +kernel
theorem dX8_abortWalkersOf_26 : decode cX8_abortWalkersOf 26 = .ok (.invokevirtual 197, 3) := by decide +kernel
theorem dX8_abortWalkersOf_29 : decode cX8_abortWalkersOf 29 = .ok (.iinc 2 1, 3) := by decide +kernel
theorem dX8_abortWalkersOf_32 : decode cX8_abortWalkersOf 32 = .ok (.goto (-30), 3) := by decide +kernel
theorem dX8_abortWalkersOf_35 : decode cX8_abortWalkersOf 35 = .ok (.return_, 1) := by decide +kernel
theorem dX8_forgetTag_0 : decode cX8_forgetTag 0 = .ok (.aload_n 0, 1) := by decide +kernel
theorem dX8_forgetTag_1 : decode cX8_forgetTag 1 = .ok (.iload_n 1, 1) := by decide +kernel
theorem dX8_forgetTag_2 : decode cX8_forgetTag 2 = .ok (.invokevirtual 210, 3) := by decide +kernel
theorem dX8_forgetTag_5 : decode cX8_forgetTag 5 = .ok (.aload_n 0, 1) := by decide +kernel
theorem dX8_forgetTag_6 : decode cX8_forgetTag 6 = .ok (.getfield 26, 3) := by decide +kernel
theorem dX8_forgetTag_9 : decode cX8_forgetTag 9 = .ok (.iload_n 1, 1) := by decide +kernel
theorem dX8_forgetTag_10 : decode cX8_forgetTag 10 = .ok (.iconst 1, 1) := by decide +kernel
theorem dX8_forgetTag_11 : decode cX8_forgetTag 11 = .ok (.invokevirtual 216, 3) := by decide +kernel
theorem dX8_forgetTag_14 : decode cX8_forgetTag 14 = .ok (.pop, 1) := by decide +kernel
theorem dX8_forgetTag_15 : decode cX8_forgetTag 15 = .ok (.aload_n 0, 1) := by decide +kernel
theorem dX8_forgetTag_16 : decode cX8_forgetTag 16 = .ok (.getfield 30, 3) := by decide +kernel
theorem dX8_forgetTag_19 : decode cX8_forgetTag 19 = .ok (.iload_n 1, 1) := by decide +kernel
theorem dX8_forgetTag_20 : decode cX8_forgetTag 20 = .ok (.iconst 1, 1) := by decide +kernel
theorem dX8_forgetTag_21 : decode cX8_forgetTag 21 = .ok (.invokevirtual 216, 3) := by decide +kernel
theorem dX8_forgetTag_24 : decode cX8_forgetTag 24 = .ok (.pop, 1) := by decide +kernel
theorem dX8_forgetTag_25 : decode cX8_forgetTag 25 = .ok (.return_, 1) := by decide +kernel
theorem dX8_trace_0 : decode cX8_trace 0 = .ok (.aload_n 0, 1) := by decide +kernel
theorem dX8_trace_1 : decode cX8_trace 1 = .ok (.getfield 47, 3) := by decide +kernel
theorem dX8_trace_4 : decode cX8_trace 4 = .ok (.invokevirtual 405, 3) := by decide +kernel
theorem dX8_trace_7 : decode cX8_trace 7 = .ok (.aload_n 0, 1) := by decide +kernel
theorem dX8_trace_8 : decode cX8_trace 8 = .ok (.getfield 19, 3) := by decide +kernel
theorem dX8_trace_11 : decode cX8_trace 11 = .ok (.getfield 100, 3) := by decide +kernel
theorem dX8_trace_14 : decode cX8_trace 14 = .ok (.iload_n 1, 1) := by decide +kernel
theorem dX8_trace_15 : decode cX8_trace 15 = .ok (.iaload, 1) := by decide +kernel
theorem dX8_trace_16 : decode cX8_trace 16 = .ok (.istore_n 3, 1) := by decide +kernel
theorem dX8_trace_17 : decode cX8_trace 17 = .ok (.iload_n 3, 1) := by decide +kernel
theorem dX8_trace_18 : decode cX8_trace 18 = .ok (.iconst (-1), 1) := by decide +kernel
theorem dX8_trace_19 : decode cX8_trace 19 = .ok (.if_icmp .ne 12, 3) := by decide +kernel
theorem dX8_trace_22 : decode cX8_trace 22 = .ok (.aload_n 0, 1) := by decide +kernel
theorem dX8_trace_23 : decode cX8_trace 23 = .ok (.getfield 47, 3) := by decide +kernel
theorem dX8_trace_26 : decode cX8_trace 26 = .ok (.iconst 1, 1) := by decide +kernel
theorem dX8_trace_27 : decode cX8_trace 27 = .ok (.putfield 229, 3) := by decide +kernel
theorem dX8_trace_30 : decode cX8_trace 30 = .ok (.return_, 1) := by decide +kernel
theorem dX8_trace_31 : decode cX8_trace 31 = .ok (.bipush 7, 2) := by decide +kernel
theorem dX8_trace_33 : decode cX8_trace 33 = .ok (.istore 4, 2) := by decide +kernel
theorem dX8_trace_35 : decode cX8_trace 35 = .ok (.iconst 2, 1) := by decide +kernel
theorem dX8_trace_36 : decode cX8_trace 36 = .ok (.istore 5, 2) := by decide +kernel
theorem dX8_trace_38 : decode cX8_trace 38 = .ok (.iload 5, 2) := by decide +kernel
theorem dX8_trace_40 : decode cX8_trace 40 = .ok (.ifCond .lt 122, 3) := by decide +kernel
theorem dX8_trace_43 : decode cX8_trace 43 = .ok (.iload_n 3, 1) := by decide +kernel
theorem dX8_trace_44 : decode cX8_trace 44 = .ok (.iload_n 2, 1) := by decide +kernel
theorem dX8_trace_45 : decode cX8_trace 45 = .ok (.iload 5, 2) := by decide +kernel
theorem dX8_trace_47 : decode cX8_trace 47 = .ok (.invokestatic 374, 3) := by decide +kernel
theorem dX8_trace_50 : decode cX8_trace 50 = .ok (.invokestatic 80, 3) := by decide +kernel
theorem dX8_trace_53 : decode cX8_trace 53 = .ok (.istore 6, 2) := by decide +kernel
theorem dX8_trace_55 : decode cX8_trace 55 = .ok (.aload_n 0, 1) := by decide +kernel
theorem dX8_trace_56 : decode cX8_trace 56 = .ok (.getfield 9, 3) := by decide +kernel
theorem dX8_trace_59 : decode cX8_trace 59 = .ok (.iload 6, 2) := by decide +kernel
theorem dX8_trace_61 : decode cX8_trace 61 = .ok (.iaload, 1) := by decide +kernel
theorem dX8_trace_62 : decode cX8_trace 62 = .ok (.istore 7, 2) := by decide +kernel
theorem dX8_trace_64 : decode cX8_trace 64 = .ok (.iload 4, 2) := by decide +kernel
theorem dX8_trace_66 : decode cX8_trace 66 = .ok (.iload 7, 2) := by decide +kernel
theorem dX8_trace_68 : decode cX8_trace 68 = .ok (.invokestatic 243, 3) := by decide +kernel
theorem dX8_trace_71 : decode cX8_trace 71 = .ok (.iand, 1) := by decide +kernel
theorem dX8_trace_72 : decode cX8_trace 72 = .ok (.istore 4, 2) := by decide +kernel
theorem dX8_trace_74 : decode cX8_trace 74 = .ok (.aload_n 0, 1) := by decide +kernel
theorem dX8_trace_75 : decode cX8_trace 75 = .ok (.getfield 47, 3) := by decide +kernel
theorem dX8_trace_78 : decode cX8_trace 78 = .ok (.getfield 237, 3) := by decide +kernel
theorem dX8_trace_81 : decode cX8_trace 81 = .ok (.iload 5, 2) := by decide +kernel
theorem dX8_trace_83 : decode cX8_trace 83 = .ok (.iload 6, 2) := by decide +kernel
theorem dX8_trace_85 : decode cX8_trace 85 = .ok (.iastore, 1) := by decide +kernel
theorem dX8_trace_86 : decode cX8_trace 86 = .ok (.aload_n 0, 1) := by decide +kernel
theorem dX8_trace_87 : decode cX8_trace 87 = .ok (.getfield 47, 3) := by decide +kernel
theorem dX8_trace_90 : decode cX8_trace 90 = .ok (.getfield 407, 3) := by decide +kernel
theorem dX8_trace_93 : decode cX8_trace 93 = .ok (.iload 5, 2) := by decide +kernel
theorem dX8_trace_95 : decode cX8_trace 95 = .ok (.iload 4, 2) := by decide +kernel
theorem dX8_trace_97 : decode cX8_trace 97 = .ok (.iastore, 1) := by decide +kernel
theorem dX8_trace_98 : decode cX8_trace 98 = .ok (.iload 7, 2) := by decide +kernel
theorem dX8_trace_100 : decode cX8_trace 100 = .ok (.invokestatic 92, 3) := by decide +kernel
theorem dX8_trace_103 : decode cX8_trace 103 = .ok (.ifCond .ne 12, 3) := by decide +kernel
theorem dX8_trace_106 : decode cX8_trace 106 = .ok (.aload_n 0, 1) := by decide +kernel
theorem dX8_trace_107 : decode cX8_trace 107 = .ok (.getfield 47, 3) := by decide +kernel
theorem dX8_trace_110 : decode cX8_trace 110 = .ok (.iconst 2, 1) := by decide +kernel
theorem dX8_trace_111 : decode cX8_trace 111 = .ok (.putfield 229, 3) := by decide +kernel
theorem dX8_trace_114 : decode cX8_trace 114 = .ok (.return_, 1) := by decide +kernel
theorem dX8_trace_115 : decode cX8_trace 115 = .ok (.iload 7, 2) := by decide +kernel
theorem dX8_trace_117 : decode cX8_trace 117 = .ok (.invokestatic 92, 3) := by decide +kernel
theorem dX8_trace_120 : decode cX8_trace 120 = .ok (.iconst 2, 1) := by decide +kernel
theorem dX8_trace_121 : decode cX8_trace 121 = .ok (.if_icmp .ne 29, 3) := by decide +kernel
theorem dX8_trace_124 : decode cX8_trace 124 = .ok (.aload_n 0, 1) := by decide +kernel
theorem dX8_trace_125 : decode cX8_trace 125 = .ok (.getfield 47, 3) := by decide +kernel
theorem dX8_trace_128 : decode cX8_trace 128 = .ok (.iload 5, 2) := by decide +kernel
theorem dX8_trace_130 : decode cX8_trace 130 = .ok (.iload 7, 2) := by decide +kernel
theorem dX8_trace_132 : decode cX8_trace 132 = .ok (.invokestatic 240, 3) := by decide +kernel
theorem dX8_trace_135 : decode cX8_trace 135 = .ok (.iload 4, 2) := by decide +kernel
theorem dX8_trace_137 : decode cX8_trace 137 = .ok (.iload 7, 2) := by decide +kernel
theorem dX8_trace_139 : decode cX8_trace 139 = .ok (.invokestatic 243, 3) := by decide +kernel
theorem dX8_trace_142 : decode cX8_trace 142 = .ok (.bipush 8, 2) := by decide +kernel
theorem dX8_trace_144 : decode cX8_trace 144 = .ok (.iand, 1) := by decide +kernel
theorem dX8_trace_145 : decode cX8_trace 145 = .ok (.ior, 1) := by decide +kernel
theorem dX8_trace_146 : decode cX8_trace 146 = .ok (.invokevirtual 410, 3) := by decide +kernel
theorem dX8_trace_149 : decode cX8_trace 149 = .ok (.return_, 1) := by decide +kernel
theorem dX8_trace_150 : decode cX8_trace 150 = .ok (.iload 7, 2) := by decide +kernel
theorem dX8_trace_152 : decode cX8_trace 152 = .ok (.invokestatic 240, 3) := by decide +kernel
theorem dX8_trace_155 : decode cX8_trace 155 = .ok (.istore_n 3, 1) := by decide +kernel
theorem dX8_trace_156 : decode cX8_trace 156 = .ok (.iinc 5 (-1), 3) := by decide +kernel
theorem dX8_trace_159 : decode cX8_trace 159 = .ok (.goto (-121), 3) := by decide +kernel
theorem dX8_trace_162 : decode cX8_trace 162 = .ok (.aload_n 0, 1) := by decide +kernel
theorem dX8_trace_163 : decode cX8_trace 163 = .ok (.getfield 47, 3) := by decide +kernel
theorem dX8_trace_166 : decode cX8_trace 166 = .ok (.iconst 3, 1) := by decide +kernel
theorem dX8_trace_167 : decode cX8_trace 167 = .ok (.putfield 229, 3) := by decide +kernel
theorem dX8_trace_170 : decode cX8_trace 170 = .ok (.return_, 1) := by decide +kernel
theorem dX8_isStalePage_0 : decode cX8_isStalePage 0 = .ok (.aload_n 0, 1) := by decide +kernel
theorem dX8_isStalePage_1 : decode cX8_isStalePage 1 = .ok (.getfield 19, 3) := by decide +kernel
theorem dX8_isStalePage_4 : decode cX8_isStalePage 4 = .ok (.aload_n 1, 1) := by decide +kernel
theorem dX8_isStalePage_5 : decode cX8_isStalePage 5 = .ok (.getfield 313, 3) := by decide +kernel
