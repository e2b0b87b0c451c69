theorem dX0_init_0 : decode cX0_init 0 = .ok (.aload_n 0, 1) := by decide +kernel
theorem dX0_init_1 : decode cX0_init 1 = .ok (.invokespecial 3, 3) := by decide +kernel
theorem dX0_init_4 : decode cX0_init 4 = .ok (.aload_n 0, 1) := by decide +kernel
theorem dX0_init_5 : decode cX0_init 5 = .ok (.bipush 40, 2) := by decide +kernel
theorem dX0_init_7 : decode cX0_init 7 = .ok (.newarray .int, 2) := by decide +kernel
theorem dX0_init_9 : decode cX0_init 9 = .ok (.putfield 9, 3) := by decide +kernel
theorem dX0_init_12 : decode cX0_init 12 = .ok (.aload_n 0, 1) := by decide +kernel
theorem dX0_init_13 : decode cX0_init 13 = .ok (.bipush 40, 2) := by decide +kernel
theorem dX0_init_15 : decode cX0_init 15 = .ok (.newarray .int, 2) := by decide +kernel
theorem dX0_init_17 : decode cX0_init 17 = .ok (.putfield 15, 3) := by decide +kernel
theorem dX0_init_20 : decode cX0_init 20 = .ok (.return_, 1) := by decide +kernel
theorem dX0_note_0 : decode cX0_note 0 = .ok (.aload_n 0, 1) := by decide +kernel
theorem dX0_note_1 : decode cX0_note 1 = .ok (.getfield 9, 3) := by decide +kernel
theorem dX0_note_4 : decode cX0_note 4 = .ok (.aload_n 0, 1) := by decide +kernel
theorem dX0_note_5 : decode cX0_note 5 = .ok (.getfield 18, 3) := by decide +kernel
theorem dX0_note_8 : decode cX0_note 8 = .ok (.bipush 40, 2) := by decide +kernel
theorem dX0_note_10 : decode cX0_note 10 = .ok (.irem, 1) := by decide +kernel
theorem dX0_note_11 : decode cX0_note 11 = .ok (.iload_n 1, 1) := by decide +kernel
theorem dX0_note_12 : decode cX0_note 12 = .ok (.iastore, 1) := by decide +kernel
theorem dX0_note_13 : decode cX0_note 13 = .ok (.aload_n 0, 1) := by decide +kernel
theorem dX0_note_14 : decode cX0_note 14 = .ok (.getfield 15, 3) := by decide +kernel
theorem dX0_note_17 : decode cX0_note 17 = .ok (.aload_n 0, 1) := by decide +kernel
theorem dX0_note_18 : decode cX0_note 18 = .ok (.getfield 18, 3) := by decide +kernel
theorem dX0_note_21 : decode cX0_note 21 = .ok (.bipush 40, 2) := by decide +kernel
theorem dX0_note_23 : decode cX0_note 23 = .ok (.irem, 1) := by decide +kernel
theorem dX0_note_24 : decode cX0_note 24 = .ok (.iload_n 2, 1) := by decide +kernel
theorem dX0_note_25 : decode cX0_note 25 = .ok (.iastore, 1) := by decide +kernel
theorem dX0_note_26 : decode cX0_note 26 = .ok (.aload_n 0, 1) := by decide +kernel
theorem dX0_note_27 : decode cX0_note 27 = .ok (.dup, 1) := by decide +kernel
theorem dX0_note_28 : decode cX0_note 28 = .ok (.getfield 18, 3) := by decide +kernel
theorem dX0_note_31 : decode cX0_note 31 = .ok (.iconst 1, 1) := by decide +kernel
theorem dX0_note_32 : decode cX0_note 32 = .ok (.iadd, 1) := by decide +kernel
theorem dX0_note_33 : decode cX0_note 33 = .ok (.putfield 18, 3) := by decide +kernel
theorem dX0_note_36 : decode cX0_note 36 = .ok (.return_, 1) := by decide +kernel
theorem dX0_remembered_0 : decode cX0_remembered 0 = .ok (.aload_n 0, 1) := by decide +kernel
theorem dX0_remembered_1 : decode cX0_remembered 1 = .ok (.getfield 18, 3) := by decide +kernel
theorem dX0_remembered_4 : decode cX0_remembered 4 = .ok (.bipush 40, 2) := by decide +kernel
theorem dX0_remembered_6 : decode cX0_remembered 6 = .ok (.invokestatic 22, 3) := by decide +kernel
theorem dX0_remembered_9 : decode cX0_remembered 9 = .ok (.ireturn, 1) := by decide +kernel
theorem dX0_firstSince_0 : decode cX0_firstSince 0 = .ok (.iload_n 1, 1) := by decide +kernel
theorem dX0_firstSince_1 : decode cX0_firstSince 1 = .ok (.aload_n 0, 1) := by decide +kernel
theorem dX0_firstSince_2 : decode cX0_firstSince 2 = .ok (.getfield 18, 3) := by decide +kernel
theorem dX0_firstSince_5 : decode cX0_firstSince 5 = .ok (.aload_n 0, 1) := by decide +kernel
theorem dX0_firstSince_6 : decode cX0_firstSince 6 = .ok (.invokevirtual 28, 3) := by decide +kernel
theorem dX0_firstSince_9 : decode cX0_firstSince 9 = .ok (.isub, 1) := by decide +kernel
theorem dX0_firstSince_10 : decode cX0_firstSince 10 = .ok (.invokestatic 32, 3) := by decide +kernel
theorem dX0_firstSince_13 : decode cX0_firstSince 13 = .ok (.ireturn, 1) := by decide +kernel
theorem dX0_keyAt_0 : decode cX0_keyAt 0 = .ok (.aload_n 0, 1) := by decide +kernel
theorem dX0_keyAt_1 : decode cX0_keyAt 1 = .ok (.getfield 9, 3) := by decide +kernel
theorem dX0_keyAt_4 : decode cX0_keyAt 4 = .ok (.iload_n 1, 1) := by decide +kernel
theorem dX0_keyAt_5 : decode cX0_keyAt 5 = .ok (.bipush 40, 2) := by decide +kernel
theorem dX0_keyAt_7 : decode cX0_keyAt 7 = .ok (.irem, 1) := by decide +kernel
theorem dX0_keyAt_8 : decode cX0_keyAt 8 = .ok (.iaload, 1) := by decide +kernel
theorem dX0_keyAt_9 : decode cX0_keyAt 9 = .ok (.ireturn, 1) := by decide +kernel
theorem dX0_beforeAt_0 : decode cX0_beforeAt 0 = .ok (.aload_n 0, 1) := by decide +kernel
theorem dX0_beforeAt_1 : decode cX0_beforeAt 1 = .ok (.getfield 15, 3) := by decide +kernel
theorem dX0_beforeAt_4 : decode cX0_beforeAt 4 = .ok (.iload_n 1, 1) := by decide +kernel
theorem dX0_beforeAt_5 : decode cX0_beforeAt 5 = .ok (.bipush 40, 2) := by decide +kernel
theorem dX0_beforeAt_7 : decode cX0_beforeAt 7 = .ok (.irem, 1) := by decide +kernel
theorem dX0_beforeAt_8 : decode cX0_beforeAt 8 = .ok (.iaload, 1) := by decide +kernel
theorem dX0_beforeAt_9 : decode cX0_beforeAt 9 = .ok (.ireturn, 1) := by decide +kernel
theorem dX1_init_0 : decode cX1_init 0 = .ok (.aload_n 0, 1) := by decide +kernel
theorem dX1_init_1 : decode cX1_init 1 = .ok (.invokespecial 3, 3) := by decide +kernel
theorem dX1_init_4 : decode cX1_init 4 = .ok (.aload_n 0, 1) := by decide +kernel
theorem dX1_init_5 : decode cX1_init 5 = .ok (.bipush 6, 2) := by decide +kernel
theorem dX1_init_7 : decode cX1_init 7 = .ok (.newarray .int, 2) := by decide +kernel
theorem dX1_init_9 : decode cX1_init 9 = .ok (.putfield 9, 3) := by decide +kernel
theorem dX1_init_12 : decode cX1_init 12 = .ok (.aload_n 0, 1) := by decide +kernel
theorem dX1_init_13 : decode cX1_init 13 = .ok (.bipush 8, 2) := by decide +kernel
theorem dX1_init_15 : decode cX1_init 15 = .ok (.newarray .int, 2) := by decide +kernel
theorem dX1_init_17 : decode cX1_init 17 = .ok (.putfield 15, 3) := by decide +kernel
theorem dX1_init_20 : decode cX1_init 20 = .ok (.aload_n 0, 1) := by decide +kernel
theorem dX1_init_21 : decode cX1_init 21 = .ok (.bipush 8, 2) := by decide +kernel
theorem dX1_init_23 : decode cX1_init 23 = .ok (.newarray .int, 2) := by decide +kernel
theorem dX1_init_25 : decode cX1_init 25 = .ok (.putfield 18, 3) := by decide +kernel
theorem dX1_init_28 : decode cX1_init 28 = .ok (.return_, 1) := by decide +kernel
theorem dX1_indexOf_0 : decode cX1_indexOf 0 = .ok (.iconst 0, 1) := by decide +kernel
theorem dX1_indexOf_1 : decode cX1_indexOf 1 = .ok (.istore_n 2, 1) := by decide +kernel
theorem dX1_indexOf_2 : decode cX1_indexOf 2 = .ok (.iload_n 2, 1) := by decide +kernel
theorem dX1_indexOf_3 : decode cX1_indexOf 3 = .ok (.aload_n 0, 1) := by decide +kernel
theorem dX1_indexOf_4 : decode cX1_indexOf 4 = .ok (.getfield 21, 3) := by decide +kernel
theorem dX1_indexOf_7 : decode cX1_indexOf 7 = .ok (.if_icmp .ge 21, 3) := by decide +kernel
theorem dX1_indexOf_10 : decode cX1_indexOf 10 = .ok (.aload_n 0, 1) := by decide +kernel
theorem dX1_indexOf_11 : decode cX1_indexOf 11 = .ok (.getfield 15, 3) := by decide +kernel
theorem dX1_indexOf_14 : decode cX1_indexOf 14 = .ok (.iload_n 2, 1) := by decide +kernel
theorem dX1_indexOf_15 : decode cX1_indexOf 15 = .ok (.iaload, 1) := by decide +kernel
theorem dX1_indexOf_16 : decode cX1_indexOf 16 = .ok (.iload_n 1, 1) := by decide +kernel
theorem dX1_indexOf_17 : decode cX1_indexOf 17 = .ok (.if_icmp .ne 5, 3) := by decide +kernel
theorem dX1_indexOf_20 : decode cX1_indexOf 20 = .ok (.iload_n 2, 1) := by decide +kernel
theorem dX1_indexOf_21 : decode cX1_indexOf 21 = .ok (.ireturn, 1) := by decide +kernel
theorem dX1_indexOf_22 : decode cX1_indexOf 22 = .ok (.iinc 2 1, 3) := by decide +kernel
theorem dX1_indexOf_25 : decode cX1_indexOf 25 = .ok (.goto (-23), 3) := by decide +kernel
theorem dX1_indexOf_28 : decode cX1_indexOf 28 = .ok (.iconst (-1), 1) := by decide +kernel
theorem dX1_indexOf_29 : decode cX1_indexOf 29 = .ok (.ireturn, 1) := by decide +kernel
theorem dX1_noteAddress_0 : decode cX1_noteAddress 0 = .ok (.iload_n 1, 1) := by decide +kernel
theorem dX1_noteAddress_1 : decode cX1_noteAddress 1 = .ok (.sipush 512, 3) := by decide +kernel
theorem dX1_noteAddress_4 : decode cX1_noteAddress 4 = .ok (.imul, 1) := by decide +kernel
theorem dX1_noteAddress_5 : decode cX1_noteAddress 5 = .ok (.iload_n 2, 1) := by decide +kernel
theorem dX1_noteAddress_6 : decode cX1_noteAddress 6 = .ok (.iadd, 1) := by decide +kernel
theorem dX1_noteAddress_7 : decode cX1_noteAddress 7 = .ok (.istore 4, 2) := by decide +kernel
theorem dX1_noteAddress_9 : decode cX1_noteAddress 9 = .ok (.aload_n 0, 1) := by decide +kernel
theorem dX1_noteAddress_10 : decode cX1_noteAddress 10 = .ok (.iload 4, 2) := by decide +kernel
theorem dX1_noteAddress_12 : decode cX1_noteAddress 12 = .ok (.invokevirtual 25, 3) := by decide +kernel
theorem dX1_noteAddress_15 : decode cX1_noteAddress 15 = .ok (.istore 5, 2) := by decide +kernel
theorem dX1_noteAddress_17 : decode cX1_noteAddress 17 = .ok (.iload 5, 2) := by decide +kernel
theorem dX1_noteAddress_19 : decode cX1_noteAddress 19 = .ok (.iconst (-1), 1) := by decide +kernel
theorem dX1_noteAddress_20 : decode cX1_noteAddress 20 = .ok (.if_icmp .ne 85, 3) := by decide +kernel
theorem dX1_noteAddress_23 : decode cX1_noteAddress 23 = .ok (.aload_n 0, 1) := by decide +kernel
theorem dX1_noteAddress_24 : decode cX1_noteAddress 24 = .ok (.getfield 21, 3) := by decide +kernel
theorem dX1_noteAddress_27 : decode cX1_noteAddress 27 = .ok (.sipush 512, 3) := by decide +kernel
theorem dX1_noteAddress_30 : decode cX1_noteAddress 30 = .ok (.if_icmp .lt 4, 3) := by decide +kernel
theorem dX1_noteAddress_33 : decode cX1_noteAddress 33 = .ok (.return_, 1) := by decide +kernel
theorem dX1_noteAddress_34 : decode cX1_noteAddress 34 = .ok (.aload_n 0, 1) := by decide +kernel
theorem dX1_noteAddress_35 : decode cX1_noteAddress 35 = .ok (.getfield 21, 3) := by decide +kernel
theorem dX1_noteAddress_38 : decode cX1_noteAddress 38 = .ok (.aload_n 0, 1) := by decide +kernel
theorem dX1_noteAddress_39 : decode cX1_noteAddress 39 = .ok (.getfield 15, 3) := by decide +kernel
theorem dX1_noteAddress_42 : decode cX1_noteAddress 42 = .ok (.arraylength, 1) := by decide +kernel
theorem dX1_noteAddress_43 : decode cX1_noteAddress 43 = .ok (.if_icmp .ne 37, 3) := by decide +kernel
theorem dX1_noteAddress_46 : decode cX1_noteAddress 46 = .ok (.aload_n 0, 1) := by decide +kernel
theorem dX1_noteAddress_47 : decode cX1_noteAddress 47 = .ok (.aload_n 0, 1) := by decide +kernel
theorem dX1_noteAddress_48 : decode cX1_noteAddress 48 = .ok (.getfield 15, 3) := by decide +kernel
theorem dX1_noteAddress_51 : decode cX1_noteAddress 51 = .ok (.aload_n 0, 1) := by decide +kernel
theorem dX1_noteAddress_52 : decode cX1_noteAddress 52 = .ok (.getfield 21, 3) := by decide +kernel
theorem dX1_noteAddress_55 : decode cX1_noteAddress 55 = .ok (.iconst 2, 1) := by decide +kernel
theorem dX1_noteAddress_56 : decode cX1_noteAddress 56 = .ok (.imul, 1) := by decide +kernel
theorem dX1_noteAddress_57 : decode cX1_noteAddress 57 = .ok (.invokestatic 29, 3) := by decide +kernel
theorem dX1_noteAddress_60 : decode cX1_noteAddress 60 = .ok (.putfield 15, 3) := by decide +kernel
theorem dX1_noteAddress_63 : decode cX1_noteAddress 63 = .ok (.aload_n 0, 1) := by decide +kernel
theorem dX1_noteAddress_64 : decode cX1_noteAddress 64 = .ok (.aload_n 0, 1) := by decide +kernel
theorem dX1_noteAddress_65 : decode cX1_noteAddress 65 = .ok (.getfield 18, 3) := by decide +kernel
theorem dX1_noteAddress_68 : decode cX1_noteAddress 68 = .ok (.aload_n 0, 1) := by decide +kernel
theorem dX1_noteAddress_69 : decode cX1_noteAddress 69 = .ok (.getfield 21, 3) := by decide +kernel
theorem dX1_noteAddress_72 : decode cX1_noteAddress 72 = .ok (.iconst 2, 1) := by decide +kernel
theorem dX1_noteAddress_73 : decode cX1_noteAddress 73 = .ok (.imul, 1) := by decide +kernel
theorem dX1_noteAddress_74 : decode cX1_noteAddress 74 = .ok (.invokestatic 29, 3) := by decide +kernel
theorem dX1_noteAddress_77 : decode cX1_noteAddress 77 = .ok (.putfield 18, 3) := by decide +kernel
theorem dX1_noteAddress_80 : decode cX1_noteAddress 80 = .ok (.aload_n 0, 1) := by decide +kernel
theorem dX1_noteAddress_81 : decode cX1_noteAddress 81 = .ok (.getfield 21, 3) := by decide +kernel
theorem dX1_noteAddress_84 : decode cX1_noteAddress 84 = .ok (.istore 5, 2) := by decide +kernel
theorem dX1_noteAddress_86 : decode cX1_noteAddress 86 = .ok (.aload_n 0, 1) := by decide +kernel
theorem dX1_noteAddress_87 : decode cX1_noteAddress 87 = .ok (.dup, 1) := by decide +kernel
theorem dX1_noteAddress_88 : decode cX1_noteAddress 88 = .ok (.getfield 21, 3) := by decide +kernel
theorem dX1_noteAddress_91 : decode cX1_noteAddress 91 = .ok (.iconst 1, 1) := by decide +kernel
theorem dX1_noteAddress_92 : decode cX1_noteAddress 92 = .ok (.iadd, 1) := by decide +kernel
theorem dX1_noteAddress_93 : decode cX1_noteAddress 93 = .ok (.putfield 21, 3) := by decide +kernel
theorem dX1_noteAddress_96 : decode cX1_noteAddress 96 = .ok (.aload_n 0, 1) := by decide +kernel
theorem dX1_noteAddress_97 : decode cX1_noteAddress 97 = .ok (.getfield 15, 3) := by decide +kernel
theorem dX1_noteAddress_100 : decode cX1_noteAddress 100 = .ok (.iload 5, 2) := by decide +kernel
theorem dX1_noteAddress_102 : decode cX1_noteAddress 102 = .ok (.iload 4, 2) := by decide +kernel
theorem dX1_noteAddress_104 : decode cX1_noteAddress 104 = .ok (.iastore, 1) := by decide +kernel
theorem dX1_noteAddress_105 : decode cX1_noteAddress 105 = .ok (.aload_n 0, 1) := by decide +kernel
theorem dX1_noteAddress_106 : decode cX1_noteAddress 106 = .ok (.getfield 18, 3) := by decide +kernel
theorem dX1_noteAddress_109 : decode cX1_noteAddress 109 = .ok (.iload 5, 2) := by decide +kernel
theorem dX1_noteAddress_111 : decode cX1_noteAddress 111 = .ok (.iload_n 3, 1) := by decide +kernel
theorem dX1_noteAddress_112 : decode cX1_noteAddress 112 = .ok (.iastore, 1) := by decide +kernel
theorem dX1_noteAddress_113 : decode cX1_noteAddress 113 = .ok (.return_, 1) := by decide +kernel
theorem dX1_latest_0 : decode cX1_latest 0 = .ok (.aload_n 0, 1) := by decide +kernel
theorem dX1_latest_1 : decode cX1_latest 1 = .ok (.iload_n 1, 1) := by decide +kernel
theorem dX1_latest_2 : decode cX1_latest 2 = .ok (.sipush 512, 3) := by decide +kernel
theorem dX1_latest_5 : decode cX1_latest 5 = .ok (.imul, 1) := by decide +kernel
theorem dX1_latest_6 : decode cX1_latest 6 = .ok (.iload_n 2, 1) := by decide +kernel
theorem dX1_latest_7 : decode cX1_latest 7 = .ok (.iadd, 1) := by decide +kernel
theorem dX1_latest_8 : decode cX1_latest 8 = .ok (.invokevirtual 25, 3) := by decide +kernel
theorem dX1_latest_11 : decode cX1_latest 11 = .ok (.istore_n 3, 1) := by decide +kernel
theorem dX1_latest_12 : decode cX1_latest 12 = .ok (.iload_n 3, 1) := by decide +kernel
theorem dX1_latest_13 : decode cX1_latest 13 = .ok (.iconst (-1), 1) := by decide +kernel
theorem dX1_latest_14 : decode cX1_latest 14 = .ok (.if_icmp .ne 7, 3) := by decide +kernel
theorem dX1_latest_17 : decode cX1_latest 17 = .ok (.iconst 0, 1) := by decide +kernel
theorem dX1_latest_18 : decode cX1_latest 18 = .ok (.goto 9, 3) := by decide +kernel
theorem dX1_latest_21 : decode cX1_latest 21 = .ok (.aload_n 0, 1) := by decide +kernel
theorem dX1_latest_22 : decode cX1_latest 22 = .ok (.getfield 18, 3) := by decide +kernel
theorem dX1_latest_25 : decode cX1_latest 25 = .ok (.iload_n 3, 1) := by decide +kernel
theorem dX1_latest_26 : decode cX1_latest 26 = .ok (.iaload, 1) := by decide +kernel
theorem dX1_latest_27 : decode cX1_latest 27 = .ok (.istore 4, 2) := by decide +kernel
theorem dX1_latest_29 : decode cX1_latest 29 = .ok (.aload_n 0, 1) := by decide +kernel
theorem dX1_latest_30 : decode cX1_latest 30 = .ok (.getfield 35, 3) := by decide +kernel
theorem dX1_latest_33 : decode cX1_latest 33 = .ok (.aload_n 0, 1) := by decide +kernel
theorem dX1_latest_34 : decode cX1_latest 34 = .ok (.getfield 9, 3) := by decide +kernel
theorem dX1_latest_37 : decode cX1_latest 37 = .ok (.iload_n 1, 1) := by decide +kernel
theorem dX1_latest_38 : decode cX1_latest 38 = .ok (.iaload, 1) := by decide +kernel
theorem dX1_latest_39 : decode cX1_latest 39 = .ok (.iload 4, 2) := by decide +kernel
theorem dX1_latest_41 : decode cX1_latest 41 = .ok (.invokestatic 38, 3) := by decide +kernel
theorem dX1_latest_44 : decode cX1_latest 44 = .ok (.invokestatic 38, 3) := by decide +kernel
theorem dX1_latest_47 : decode cX1_latest 47 = .ok (.ireturn, 1) := by decide +kernel
theorem dX2_init_0 : decode cX2_init 0 = .ok (.aload_n 0, 1) := by decide +kernel
theorem dX2_init_1 : decode cX2_init 1 = .ok (.invokespecial 3, 3) := by decide +kernel
theorem dX2_init_4 : decode cX2_init 4 = .ok (.aload_n 0, 1) := by decide +kernel
theorem dX2_init_5 : decode cX2_init 5 = .ok (.bipush 34, 2) := by decide +kernel
theorem dX2_init_7 : decode cX2_init 7 = .ok (.newarray .int, 2) := by decide +kernel
theorem dX2_init_9 : decode cX2_init 9 = .ok (.putfield 9, 3) := by decide +kernel
theorem dX2_init_12 : decode cX2_init 12 = .ok (.return_, 1) := by decide +kernel
theorem dX2_clear_0 : decode cX2_clear 0 = .ok (.aload_n 0, 1) := by decide +kernel
theorem dX2_clear_1 : decode cX2_clear 1 = .ok (.getfield 9, 3) := by decide +kernel
theorem dX2_clear_4 : decode cX2_clear 4 = .ok (.iconst 0, 1) := by decide +kernel
theorem dX2_clear_5 : decode cX2_clear 5 = .ok (.invokestatic 15, 3) := by decide +kernel
theorem dX2_clear_8 : decode cX2_clear 8 = .ok (.return_, 1) := by decide +kernel
theorem dX2_add_0 : decode cX2_add 0 = .ok (.iload_n 1, 1) := by decide +kernel
theorem dX2_add_1 : decode cX2_add 1 = .ok (.ifCond .lt 33, 3) := by decide +kernel
theorem dX2_add_4 : decode cX2_add 4 = .ok (.iload_n 1, 1) := by decide +kernel
theorem dX2_add_5 : decode cX2_add 5 = .ok (.bipush 32, 2) := by decide +kernel
theorem dX2_add_7 : decode cX2_add 7 = .ok (.idiv, 1) := by decide +kernel
theorem dX2_add_8 : decode cX2_add 8 = .ok (.aload_n 0, 1) := by decide +kernel
theorem dX2_add_9 : decode cX2_add 9 = .ok (.getfield 9, 3) := by decide +kernel
theorem dX2_add_12 : decode cX2_add 12 = .ok (.arraylength, 1) := by decide +kernel
theorem dX2_add_13 : decode cX2_add 13 = .ok (.if_icmp .ge 21, 3) := by decide +kernel
theorem dX2_add_16 : decode cX2_add 16 = .ok (.aload_n 0, 1) := by decide +kernel
theorem dX2_add_17 : decode cX2_add 17 = .ok (.getfield 9, 3) := by decide +kernel
theorem dX2_add_20 : decode cX2_add 20 = .ok (.iload_n 1, 1) := by decide +kernel
theorem dX2_add_21 : decode cX2_add 21 = .ok (.bipush 32, 2) := by decide +kernel
theorem dX2_add_23 : decode cX2_add 23 = .ok (.idiv, 1) := by decide +kernel
theorem dX2_add_24 : decode cX2_add 24 = .ok (.dup2, 1) := by decide +kernel
theorem dX2_add_25 : decode cX2_add 25 = .ok (.iaload, 1) := by decide +kernel
theorem dX2_add_26 : decode cX2_add 26 = .ok (.iconst 1, 1) := by decide +kernel
theorem dX2_add_27 : decode cX2_add 27 = .ok (.iload_n 1, 1) := by decide +kernel
theorem dX2_add_28 : decode cX2_add 28 = .ok (.bipush 32, 2) := by decide +kernel
theorem dX2_add_30 : decode cX2_add 30 = .ok (.irem, 1) := by decide +kernel
theorem dX2_add_31 : decode cX2_add 31 = .ok (.ishl, 1) := by decide +kernel
theorem dX2_add_32 : decode cX2_add 32 = .ok (.ior, 1) := by decide +kernel
theorem dX2_add_33 : decode cX2_add 33 = .ok (.iastore, 1) := by decide +kernel
theorem dX2_add_34 : decode cX2_add 34 = .ok (.return_, 1) := by decide +kernel
theorem dX2_has_0 : decode cX2_has 0 = .ok (.iload_n 1, 1) := by decide +kernel
theorem dX2_has_1 : decode cX2_has 1 = .ok (.ifCond .lt 38, 3) := by decide +kernel
theorem dX2_has_4 : decode cX2_has 4 = .ok (.iload_n 1, 1) := by decide +kernel
theorem dX2_has_5 : decode cX2_has 5 = .ok (.bipush 32, 2) := by decide +kernel
theorem dX2_has_7 : decode cX2_has 7 = .ok (.idiv, 1) := by decide +kernel
theorem dX2_has_8 : decode cX2_has 8 = .ok (.aload_n 0, 1) := by decide +kernel
theorem dX2_has_9 : decode cX2_has 9 = .ok (.getfield 9, 3) := by decide +kernel
theorem dX2_has_12 : decode cX2_has 12 = .ok (.arraylength, 1) := by decide +kernel
theorem dX2_has_13 : decode cX2_has 13 = .ok (.if_icmp .ge 26, 3) := by decide +kernel
theorem dX2_has_16 : decode cX2_has 16 = .ok (.aload_n 0, 1) := by decide +kernel
theorem dX2_has_17 : decode cX2_has 17 = .ok (.getfield 9, 3) := by decide +kernel
theorem dX2_has_20 : decode cX2_has 20 = .ok (.iload_n 1, 1) := by decide +kernel
theorem dX2_has_21 : decode cX2_has 21 = .ok (.bipush 32, 2) := by decide +kernel
theorem dX2_has_23 : decode cX2_has 23 = .ok (.idiv, 1) := by decide +kernel
theorem dX2_has_24 : decode cX2_has 24 = .ok (.iaload, 1) := by decide +kernel
theorem dX2_has_25 : decode cX2_has 25 = .ok (.iconst 1, 1) := by decide +kernel
theorem dX2_has_26 : decode cX2_has 26 = .ok (.iload_n 1, 1) := by decide +kernel
theorem dX2_has_27 : decode cX2_has 27 = .ok (.bipush 32, 2) := by decide +kernel
theorem dX2_has_29 : decode cX2_has 29 = .ok (.irem, 1) := by decide +kernel
theorem dX2_has_30 : decode cX2_has 30 = .ok (.ishl, 1) := by decide +kernel
theorem dX2_has_31 : decode cX2_has 31 = .ok (.iand, 1) := by decide +kernel
theorem dX2_has_32 : decode cX2_has 32 = .ok (.ifCond .eq 7, 3) := by decide +kernel
theorem dX2_has_35 : decode cX2_has 35 = .ok (.iconst 1, 1) := by decide +kernel
theorem dX2_has_36 : decode cX2_has 36 = .ok (.goto 4, 3) := by decide +kernel
theorem dX2_has_39 : decode cX2_has 39 = .ok (.iconst 0, 1) := by decide +kernel
theorem dX2_has_40 : decode cX2_has 40 = .ok (.ireturn, 1) := by decide +kernel
theorem dX2_size_0 : decode cX2_size 0 = .ok (.iconst 0, 1) := by decide +kernel
theorem dX2_size_1 : decode cX2_size 1 = .ok (.istore_n 1, 1) := by decide +kernel
theorem dX2_size_2 : decode cX2_size 2 = .ok (.iconst 0, 1) := by decide +kernel
theorem dX2_size_3 : decode cX2_size 3 = .ok (.istore_n 2, 1) := by decide +kernel
theorem dX2_size_4 : decode cX2_size 4 = .ok (.iload_n 2, 1) := by decide +kernel
theorem dX2_size_5 : decode cX2_size 5 = .ok (.aload_n 0, 1) := by decide +kernel
theorem dX2_size_6 : decode cX2_size 6 = .ok (.getfield 9, 3) := by decide +kernel
theorem dX2_size_9 : decode cX2_size 9 = .ok (.arraylength, 1) := by decide +kernel
theorem dX2_size_10 : decode cX2_size 10 = .ok (.if_icmp .ge 21, 3) := by decide +kernel
theorem dX2_size_13 : decode cX2_size 13 = .ok (.iload_n 1, 1) := by decide +kernel
theorem dX2_size_14 : decode cX2_size 14 = .ok (.aload_n 0, 1) := by decide +kernel
theorem dX2_size_15 : decode cX2_size 15 = .ok (.getfield 9, 3) := by decide +kernel
theorem dX2_size_18 : decode cX2_size 18 = .ok (.iload_n 2, 1) := by decide +kernel
theorem dX2_size_19 : decode cX2_size 19 = .ok (.iaload, 1) := by decide +kernel
theorem dX2_size_20 : decode cX2_size 20 = .ok (.invokestatic 21, 3) := by decide +kernel
theorem dX2_size_23 : decode cX2_size 23 = .ok (.iadd, 1) := by decide +kernel
theorem dX2_size_24 : decode cX2_size 24 = .ok (.istore_n 1, 1) := by decide +kernel
theorem dX2_size_25 : decode cX2_size 25 = .ok (.iinc 2 1, 3) := by decide +kernel
theorem dX2_size_28 : decode cX2_size 28 = .ok (.goto (-24), 3) := by decide +kernel
theorem dX2_size_31 : decode cX2_size 31 = .ok (.iload_n 1, 1) := by decide +kernel
theorem dX2_size_32 : decode cX2_size 32 = .ok (.ireturn, 1) := by decide +kernel
theorem dX3_init_0 : decode cX3_init 0 = .ok (.aload_n 0, 1) := by decide +kernel
theorem dX3_init_1 : decode cX3_init 1 = .ok (.invokespecial 3, 3) := by decide +kernel
theorem dX3_init_4 : decode cX3_init 4 = .ok (.return_, 1) := by decide +kernel
theorem dX3_has_0 : decode cX3_has 0 = .ok (.aload_n 0, 1) := by decide +kernel
theorem dX3_has_1 : decode cX3_has 1 = .ok (.getfield 9, 3) := by decide +kernel
theorem dX3_has_4 : decode cX3_has 4 = .ok (.ifCond .eq 22, 3) := by decide +kernel
theorem dX3_has_7 : decode cX3_has 7 = .ok (.iload_n 1, 1) := by decide +kernel
theorem dX3_has_8 : decode cX3_has 8 = .ok (.aload_n 0, 1) := by decide +kernel
theorem dX3_has_9 : decode cX3_has 9 = .ok (.getfield 15, 3) := by decide +kernel
theorem dX3_has_12 : decode cX3_has 12 = .ok (.invokestatic 19, 3) := by decide +kernel
theorem dX3_has_15 : decode cX3_has 15 = .ok (.aload_n 0, 1) := by decide +kernel
theorem dX3_has_16 : decode cX3_has 16 = .ok (.getfield 23, 3) := by decide +kernel
theorem dX3_has_19 : decode cX3_has 19 = .ok (.if_icmp .ne 7, 3) := by decide +kernel
theorem dX3_has_22 : decode cX3_has 22 = .ok (.iconst 1, 1) := by decide +kernel
theorem dX3_has_23 : decode cX3_has 23 = .ok (.goto 4, 3) := by decide +kernel
theorem dX3_has_26 : decode cX3_has 26 = .ok (.iconst 0, 1) := by decide +kernel
theorem dX3_has_27 : decode cX3_has 27 = .ok (.ireturn, 1) := by decide +kernel
theorem dX3_isGlobal_0 : decode cX3_isGlobal 0 = .ok (.aload_n 0, 1) := by decide +kernel
theorem dX3_isGlobal_1 : decode cX3_isGlobal 1 = .ok (.getfield 26, 3) := by decide +kernel
theorem dX3_isGlobal_4 : decode cX3_isGlobal 4 = .ok (.bipush 8, 2) := by decide +kernel
theorem dX3_isGlobal_6 : decode cX3_isGlobal 6 = .ok (.iand, 1) := by decide +kernel
theorem dX3_isGlobal_7 : decode cX3_isGlobal 7 = .ok (.ifCond .eq 7, 3) := by decide +kernel
theorem dX3_isGlobal_10 : decode cX3_isGlobal 10 = .ok (.iconst 1, 1) := by decide +kernel
theorem dX3_isGlobal_11 : decode cX3_isGlobal 11 = .ok (.goto 4, 3) := by decide +kernel
theorem dX3_isGlobal_14 : decode cX3_isGlobal 14 = .ok (.iconst 0, 1) := by decide +kernel
theorem dX3_isGlobal_15 : decode cX3_isGlobal 15 = .ok (.ireturn, 1) := by decide +kernel
theorem dX3_serves_0 : decode cX3_serves 0 = .ok (.iload_n 1, 1) := by decide +kernel
theorem dX3_serves_1 : decode cX3_serves 1 = .ok (.aload_n 0, 1) := by decide +kernel
theorem dX3_serves_2 : decode cX3_serves 2 = .ok (.getfield 26, 3) := by decide +kernel
theorem dX3_serves_5 : decode cX3_serves 5 = .ok (.iconst (-1), 1) := by decide +kernel
theorem dX3_serves_6 : decode cX3_serves 6 = .ok (.ixor, 1) := by decide +kernel
theorem dX3_serves_7 : decode cX3_serves 7 = .ok (.iand, 1) := by decide +kernel
theorem dX3_serves_8 : decode cX3_serves 8 = .ok (.ifCond .ne 21, 3) := by decide +kernel
theorem dX3_serves_11 : decode cX3_serves 11 = .ok (.iload_n 1, 1) := by decide +kernel
theorem dX3_serves_12 : decode cX3_serves 12 = .ok (.iconst 1, 1) := by decide +kernel
theorem dX3_serves_13 : decode cX3_serves 13 = .ok (.iand, 1) := by decide +kernel
theorem dX3_serves_14 : decode cX3_serves 14 = .ok (.ifCond .eq 11, 3) := by decide +kernel
theorem dX3_serves_17 : decode cX3_serves 17 = .ok (.aload_n 0, 1) := by decide +kernel
theorem dX3_serves_18 : decode cX3_serves 18 = .ok (.getfield 29, 3) := by decide +kernel
theorem dX3_serves_21 : decode cX3_serves 21 = .ok (.iconst 1, 1) := by decide +kernel
theorem dX3_serves_22 : decode cX3_serves 22 = .ok (.if_icmp .ne 7, 3) := by decide +kernel
theorem dX3_serves_25 : decode cX3_serves 25 = .ok (.iconst 1, 1) := by decide +kernel
theorem dX3_serves_26 : decode cX3_serves 26 = .ok (.goto 4, 3) := by decide +kernel
theorem dX3_serves_29 : decode cX3_serves 29 = .ok (.iconst 0, 1) := by decide +kernel
theorem dX3_serves_30 : decode cX3_serves 30 = .ok (.ireturn, 1) := by decide +kernel
theorem dX3_frameAt_0 : decode cX3_frameAt 0 = .ok (.aload_n 0, 1) := by decide +kernel
theorem dX3_frameAt_1 : decode cX3_frameAt 1 = .ok (.getfield 32, 3) := by decide +kernel
theorem dX3_frameAt_4 : decode cX3_frameAt 4 = .ok (.iload_n 1, 1) := by decide +kernel
theorem dX3_frameAt_5 : decode cX3_frameAt 5 = .ok (.aload_n 0, 1) := by decide +kernel
theorem dX3_frameAt_6 : decode cX3_frameAt 6 = .ok (.getfield 15, 3) := by decide +kernel
theorem dX3_frameAt_9 : decode cX3_frameAt 9 = .ok (.invokestatic 35, 3) := by decide +kernel
theorem dX3_frameAt_12 : decode cX3_frameAt 12 = .ok (.iadd, 1) := by decide +kernel
theorem dX3_frameAt_13 : decode cX3_frameAt 13 = .ok (.ireturn, 1) := by decide +kernel
theorem dX3_told_0 : decode cX3_told 0 = .ok (.iload_n 1, 1) := by decide +kernel
theorem dX3_told_1 : decode cX3_told 1 = .ok (.tableswitch 51 0 3 #[31, 36, 41, 46], 31) := by decide +kernel
theorem dX3_told_32 : decode cX3_told 32 = .ok (.aload_n 0, 1) := by decide +kernel
theorem dX3_told_33 : decode cX3_told 33 = .ok (.getfield 38, 3) := by decide +kernel
theorem dX3_told_36 : decode cX3_told 36 = .ok (.ireturn, 1) := by decide +kernel
theorem dX3_told_37 : decode cX3_told 37 = .ok (.aload_n 0, 1) := by decide +kernel
theorem dX3_told_38 : decode cX3_told 38 = .ok (.getfield 15, 3) := by decide +kernel
theorem dX3_told_41 : decode cX3_told 41 = .ok (.ireturn, 1) := by decide +kernel
theorem dX3_told_42 : decode cX3_told 42 = .ok (.aload_n 0, 1) := by decide +kernel
theorem dX3_told_43 : decode cX3_told 43 = .ok (.getfield 23, 3) := by decide +kernel
theorem dX3_told_46 : decode cX3_told 46 = .ok (.ireturn, 1) := by decide +kernel
theorem dX3_told_47 : decode cX3_told 47 = .ok (.aload_n 0, 1) := by decide +kernel
theorem dX3_told_48 : decode cX3_told 48 = .ok (.getfield 32, 3) := by decide +kernel
theorem dX3_told_51 : decode cX3_told 51 = .ok (.ireturn, 1) := by decide +kernel
theorem dX3_told_52 : decode cX3_told 52 = .ok (.aload_n 0, 1) := by decide +kernel
theorem dX3_told_53 : decode cX3_told 53 = .ok (.getfield 26, 3) := by decide +kernel
theorem dX3_told_56 : decode cX3_told 56 = .ok (.ireturn, 1) := by decide +kernel
theorem dX4_init_0 : decode cX4_init 0 = .ok (.aload_n 0, 1) := by decide +kernel
theorem dX4_init_1 : decode cX4_init 1 = .ok (.invokespecial 3, 3) := by decide +kernel
theorem dX4_init_4 : decode cX4_init 4 = .ok (.aload_n 0, 1) := by decide +kernel
theorem dX4_init_5 : decode cX4_init 5 = .ok (.bipush 6, 2) := by decide +kernel
theorem dX4_init_7 : decode cX4_init 7 = .ok (.newarray .int, 2) := by decide +kernel
theorem dX4_init_9 : decode cX4_init 9 = .ok (.putfield 9, 3) := by decide +kernel
theorem dX4_init_12 : decode cX4_init 12 = .ok (.aload_n 0, 1) := by decide +kernel
theorem dX4_init_13 : decode cX4_init 13 = .ok (.bipush 6, 2) := by decide +kernel
theorem dX4_init_15 : decode cX4_init 15 = .ok (.newarray .int, 2) := by decide +kernel
theorem dX4_init_17 : decode cX4_init 17 = .ok (.putfield 15, 3) := by decide +kernel
theorem dX4_init_20 : decode cX4_init 20 = .ok (.aload_n 0, 1) := by decide +kernel
theorem dX4_init_21 : decode cX4_init 21 = .ok (.bipush 6, 2) := by decide +kernel
theorem dX4_init_23 : decode cX4_init 23 = .ok (.newarray .int, 2) := by decide +kernel
theorem dX4_init_25 : decode cX4_init 25 = .ok (.putfield 18, 3) := by decide +kernel
theorem dX4_init_28 : decode cX4_init 28 = .ok (.aload_n 0, 1) := by decide +kernel
theorem dX4_init_29 : decode cX4_init 29 = .ok (.iconst (-1), 1) := by decide +kernel
theorem dX4_init_30 : decode cX4_init 30 = .ok (.putfield 21, 3) := by decide +kernel
theorem dX4_init_33 : decode cX4_init 33 = .ok (.aload_n 0, 1) := by decide +kernel
theorem dX4_init_34 : decode cX4_init 34 = .ok (.getfield 9, 3) := by decide +kernel
theorem dX4_init_37 : decode cX4_init 37 = .ok (.iconst (-1), 1) := by decide +kernel
theorem dX4_init_38 : decode cX4_init 38 = .ok (.invokestatic 25, 3) := by decide +kernel
theorem dX4_init_41 : decode cX4_init 41 = .ok (.aload_n 0, 1) := by decide +kernel
theorem dX4_init_42 : decode cX4_init 42 = .ok (.getfield 15, 3) := by decide +kernel
theorem dX4_init_45 : decode cX4_init 45 = .ok (.iconst (-1), 1) := by decide +kernel
theorem dX4_init_46 : decode cX4_init 46 = .ok (.invokestatic 25, 3) := by decide +kernel
theorem dX4_init_49 : decode cX4_init 49 = .ok (.return_, 1) := by decide +kernel
theorem dX4_tagNow_0 : decode cX4_tagNow 0 = .ok (.aload_n 0, 1) := by decide +kernel
theorem dX4_tagNow_1 : decode cX4_tagNow 1 = .ok (.getfield 21, 3) := by decide +kernel
theorem dX4_tagNow_4 : decode cX4_tagNow 4 = .ok (.iconst (-1), 1) := by decide +kernel
theorem dX4_tagNow_5 : decode cX4_tagNow 5 = .ok (.if_icmp .ne 7, 3) := by decide +kernel
theorem dX4_tagNow_8 : decode cX4_tagNow 8 = .ok (.iconst (-1), 1) := by decide +kernel
theorem dX4_tagNow_9 : decode cX4_tagNow 9 = .ok (.goto 12, 3) := by decide +kernel
theorem dX4_tagNow_12 : decode cX4_tagNow 12 = .ok (.aload_n 0, 1) := by decide +kernel
theorem dX4_tagNow_13 : decode cX4_tagNow 13 = .ok (.getfield 15, 3) := by decide +kernel
theorem dX4_tagNow_16 : decode cX4_tagNow 16 = .ok (.aload_n 0, 1) := by decide +kernel
theorem dX4_tagNow_17 : decode cX4_tagNow 17 = .ok (.getfield 21, 3) := by decide +kernel
theorem dX4_tagNow_20 : decode cX4_tagNow 20 = .ok (.iaload, 1) := by decide +kernel
theorem dX4_tagNow_21 : decode cX4_tagNow 21 = .ok (.ireturn, 1) := by decide +kernel
theorem dX4_rootNow_0 : decode cX4_rootNow 0 = .ok (.aload_n 0, 1) := by decide +kernel
theorem dX4_rootNow_1 : decode cX4_rootNow 1 = .ok (.getfield 21, 3) := by decide +kernel
theorem dX4_rootNow_4 : decode cX4_rootNow 4 = .ok (.iconst (-1), 1) := by decide +kernel
theorem dX4_rootNow_5 : decode cX4_rootNow 5 = .ok (.if_icmp .ne 7, 3) := by decide +kernel
theorem dX4_rootNow_8 : decode cX4_rootNow 8 = .ok (.iconst (-1), 1) := by decide +kernel
theorem dX4_rootNow_9 : decode cX4_rootNow 9 = .ok (.goto 12, 3) := by decide +kernel
theorem dX4_rootNow_12 : decode cX4_rootNow 12 = .ok (.aload_n 0, 1) := by decide +kernel
theorem dX4_rootNow_13 : decode cX4_rootNow 13 = .ok (.getfield 9, 3) := by decide +kernel
theorem dX4_rootNow_16 : decode cX4_rootNow 16 = .ok (.aload_n 0, 1) := by decide +kernel
theorem dX4_rootNow_17 : decode cX4_rootNow 17 = .ok (.getfield 21, 3) := by decide +kernel
theorem dX4_rootNow_20 : decode cX4_rootNow 20 = .ok (.iaload, 1) := by decide +kernel
theorem dX4_rootNow_21 : decode cX4_rootNow 21 = .ok (.ireturn, 1) := by decide +kernel
theorem dX4_enter_0 : decode cX4_enter 0 = .ok (.aload_n 0, 1) := by decide +kernel
theorem dX4_enter_1 : decode cX4_enter 1 = .ok (.getfield 21, 3) := by decide +kernel
theorem dX4_enter_4 : decode cX4_enter 4 = .ok (.iconst (-1), 1) := by decide +kernel
theorem dX4_enter_5 : decode cX4_enter 5 = .ok (.if_icmp .eq 34, 3) := by decide +kernel
theorem dX4_enter_8 : decode cX4_enter 8 = .ok (.aload_n 0, 1) := by decide +kernel
theorem dX4_enter_9 : decode cX4_enter 9 = .ok (.getfield 21, 3) := by decide +kernel
theorem dX4_enter_12 : decode cX4_enter 12 = .ok (.iload_n 1, 1) := by decide +kernel
theorem dX4_enter_13 : decode cX4_enter 13 = .ok (.if_icmp .eq 26, 3) := by decide +kernel
theorem dX4_enter_16 : decode cX4_enter 16 = .ok (.aload_n 0, 1) := by decide +kernel
theorem dX4_enter_17 : decode cX4_enter 17 = .ok (.dup, 1) := by decide +kernel
theorem dX4_enter_18 : decode cX4_enter 18 = .ok (.getfield 31, 3) := by decide +kernel
theorem dX4_enter_21 : decode cX4_enter 21 = .ok (.iconst 1, 1) := by decide +kernel
theorem dX4_enter_22 : decode cX4_enter 22 = .ok (.iadd, 1) := by decide +kernel
theorem dX4_enter_23 : decode cX4_enter 23 = .ok (.putfield 31, 3) := by decide +kernel
theorem dX4_enter_26 : decode cX4_enter 26 = .ok (.aload_n 0, 1) := by decide +kernel
theorem dX4_enter_27 : decode cX4_enter 27 = .ok (.getfield 18, 3) := by decide +kernel
theorem dX4_enter_30 : decode cX4_enter 30 = .ok (.aload_n 0, 1) := by decide +kernel
theorem dX4_enter_31 : decode cX4_enter 31 = .ok (.getfield 21, 3) := by decide +kernel
theorem dX4_enter_34 : decode cX4_enter 34 = .ok (.aload_n 0, 1) := by decide +kernel
theorem dX4_enter_35 : decode cX4_enter 35 = .ok (.getfield 31, 3) := by decide +kernel
theorem dX4_enter_38 : decode cX4_enter 38 = .ok (.iastore, 1) := by decide +kernel
theorem dX4_enter_39 : decode cX4_enter 39 = .ok (.aload_n 0, 1) := by decide +kernel
theorem dX4_enter_40 : decode cX4_enter 40 = .ok (.iload_n 1, 1) := by decide +kernel
theorem dX4_enter_41 : decode cX4_enter 41 = .ok (.putfield 21, 3) := by decide +kernel
theorem dX4_enter_44 : decode cX4_enter 44 = .ok (.return_, 1) := by decide +kernel
theorem dX4_holderOf_0 : decode cX4_holderOf 0 = .ok (.iconst 0, 1) := by decide +kernel
theorem dX4_holderOf_1 : decode cX4_holderOf 1 = .ok (.istore_n 2, 1) := by decide +kernel
theorem dX4_holderOf_2 : decode cX4_holderOf 2 = .ok (.iload_n 2, 1) := by decide +kernel
theorem dX4_holderOf_3 : decode cX4_holderOf 3 = .ok (.bipush 6, 2) := by decide +kernel
theorem dX4_holderOf_5 : decode cX4_holderOf 5 = .ok (.if_icmp .ge 21, 3) := by decide +kernel
theorem dX4_holderOf_8 : decode cX4_holderOf 8 = .ok (.aload_n 0, 1) := by decide +kernel
theorem dX4_holderOf_9 : decode cX4_holderOf 9 = .ok (.getfield 15, 3) := by decide +kernel
theorem dX4_holderOf_12 : decode cX4_holderOf 12 = .ok (.iload_n 2, 1) := by decide +kernel
theorem dX4_holderOf_13 : decode cX4_holderOf 13 = .ok (.iaload, 1) := by decide +kernel
theorem dX4_holderOf_14 : decode cX4_holderOf 14 = .ok (.iload_n 1, 1) := by decide +kernel
theorem dX4_holderOf_15 : decode cX4_holderOf 15 = .ok (.if_icmp .ne 5, 3) := by decide +kernel
theorem dX4_holderOf_18 : decode cX4_holderOf 18 = .ok (.iload_n 2, 1) := by decide +kernel
theorem dX4_holderOf_19 : decode cX4_holderOf 19 = .ok (.ireturn, 1) := by decide +kernel
theorem dX4_holderOf_20 : decode cX4_holderOf 20 = .ok (.iinc 2 1, 3) := by decide +kernel
theorem dX4_holderOf_23 : decode cX4_holderOf 23 = .ok (.goto (-21), 3) := by decide +kernel
theorem dX4_holderOf_26 : decode cX4_holderOf 26 = .ok (.iconst (-1), 1) := by decide +kernel
theorem dX4_holderOf_27 : decode cX4_holderOf 27 = .ok (.ireturn, 1) := by decide +kernel
theorem dX4_leastFreeTag_0 : decode cX4_leastFreeTag 0 = .ok (.iconst 0, 1) := by decide +kernel
theorem dX4_leastFreeTag_1 : decode cX4_leastFreeTag 1 = .ok (.istore_n 1, 1) := by decide +kernel
theorem dX4_leastFreeTag_2 : decode cX4_leastFreeTag 2 = .ok (.iload_n 1, 1) := by decide +kernel
theorem dX4_leastFreeTag_3 : decode cX4_leastFreeTag 3 = .ok (.iconst 3, 1) := by decide +kernel
theorem dX4_leastFreeTag_4 : decode cX4_leastFreeTag 4 = .ok (.if_icmp .ge 20, 3) := by decide +kernel
theorem dX4_leastFreeTag_7 : decode cX4_leastFreeTag 7 = .ok (.aload_n 0, 1) := by decide +kernel
theorem dX4_leastFreeTag_8 : decode cX4_leastFreeTag 8 = .ok (.iload_n 1, 1) := by decide +kernel
theorem dX4_leastFreeTag_9 : decode cX4_leastFreeTag 9 = .ok (.invokevirtual 34, 3) := by decide +kernel
theorem dX4_leastFreeTag_12 : decode cX4_leastFreeTag 12 = .ok (.iconst (-1), 1) := by decide +kernel
theorem dX4_leastFreeTag_13 : decode cX4_leastFreeTag 13 = .ok (.if_icmp .ne 5, 3) := by decide +kernel
theorem dX4_leastFreeTag_16 : decode cX4_leastFreeTag 16 = .ok (.iload_n 1, 1) := by decide +kernel
theorem dX4_leastFreeTag_17 : decode cX4_leastFreeTag 17 = .ok (.ireturn, 1) := by decide +kernel
theorem dX4_leastFreeTag_18 : decode cX4_leastFreeTag 18 = .ok (.iinc 1 1, 3) := by decide +kernel
theorem dX4_leastFreeTag_21 : decode cX4_leastFreeTag 21 = .ok (.goto (-19), 3) := by decide +kernel
theorem dX4_leastFreeTag_24 : decode cX4_leastFreeTag 24 = .ok (.iconst (-1), 1) := by decide +kernel
theorem dX4_leastFreeTag_25 : decode cX4_leastFreeTag 25 = .ok (.ireturn, 1) := by decide +kernel
theorem dX4_takeOldestTag_0 : decode cX4_takeOldestTag 0 = .ok (.iconst (-1), 1) := by decide +kernel
theorem dX4_takeOldestTag_1 : decode cX4_takeOldestTag 1 = .ok (.istore_n 1, 1) := by decide +kernel
theorem dX4_takeOldestTag_2 : decode cX4_takeOldestTag 2 = .ok (.iconst 0, 1) := by decide +kernel
theorem dX4_takeOldestTag_3 : decode cX4_takeOldestTag 3 = .ok (.istore_n 2, 1) := by decide +kernel
theorem dX4_takeOldestTag_4 : decode cX4_takeOldestTag 4 = .ok (.iload_n 2, 1) := by decide +kernel
theorem dX4_takeOldestTag_5 : decode cX4_takeOldestTag 5 = .ok (.bipush 6, 2) := by decide +kernel
theorem dX4_takeOldestTag_7 : decode cX4_takeOldestTag 7 = .ok (.if_icmp .ge 59, 3) := by decide +kernel
theorem dX4_takeOldestTag_10 : decode cX4_takeOldestTag 10 = .ok (.aload_n 0, 1) := by decide +kernel
theorem dX4_takeOldestTag_11 : decode cX4_takeOldestTag 11 = .ok (.getfield 15, 3) := by decide +kernel
theorem dX4_takeOldestTag_14 : decode cX4_takeOldestTag 14 = .ok (.iload_n 2, 1) := by decide +kernel
theorem dX4_takeOldestTag_15 : decode cX4_takeOldestTag 15 = .ok (.iaload, 1) := by decide +kernel
theorem dX4_takeOldestTag_16 : decode cX4_takeOldestTag 16 = .ok (.iconst (-1), 1) := by decide +kernel
theorem dX4_takeOldestTag_17 : decode cX4_takeOldestTag 17 = .ok (.if_icmp .eq 15, 3) := by decide +kernel
theorem dX4_takeOldestTag_20 : decode cX4_takeOldestTag 20 = .ok (.iload_n 2, 1) := by decide +kernel
theorem dX4_takeOldestTag_21 : decode cX4_takeOldestTag 21 = .ok (.aload_n 0, 1) := by decide +kernel
theorem dX4_takeOldestTag_22 : decode cX4_takeOldestTag 22 = .ok (.getfield 21, 3) := by decide +kernel
theorem dX4_takeOldestTag_25 : decode cX4_takeOldestTag 25 = .ok (.if_icmp .eq 7, 3) := by decide +kernel
theorem dX4_takeOldestTag_28 : decode cX4_takeOldestTag 28 = .ok (.iconst 1, 1) := by decide +kernel
theorem dX4_takeOldestTag_29 : decode cX4_takeOldestTag 29 = .ok (.goto 4, 3) := by decide +kernel
theorem dX4_takeOldestTag_32 : decode cX4_takeOldestTag 32 = .ok (.iconst 0, 1) := by decide +kernel
theorem dX4_takeOldestTag_33 : decode cX4_takeOldestTag 33 = .ok (.istore_n 3, 1) := by decide +kernel
theorem dX4_takeOldestTag_34 : decode cX4_takeOldestTag 34 = .ok (.iload_n 3, 1) := by decide +kernel
theorem dX4_takeOldestTag_35 : decode cX4_takeOldestTag 35 = .ok (.ifCond .eq 25, 3) := by decide +kernel
theorem dX4_takeOldestTag_38 : decode cX4_takeOldestTag 38 = .ok (.iload_n 1, 1) := by decide +kernel
theorem dX4_takeOldestTag_39 : decode cX4_takeOldestTag 39 = .ok (.iconst (-1), 1) := by decide +kernel
theorem dX4_takeOldestTag_40 : decode cX4_takeOldestTag 40 = .ok (.if_icmp .eq 18, 3) := by decide +kernel
theorem dX4_takeOldestTag_43 : decode cX4_takeOldestTag 43 = .ok (.aload_n 0, 1) := by decide +kernel
theorem dX4_takeOldestTag_44 : decode cX4_takeOldestTag 44 = .ok (.getfield 18, 3) := by decide +kernel
theorem dX4_takeOldestTag_47 : decode cX4_takeOldestTag 47 = .ok (.iload_n 2, 1) := by decide +kernel
theorem dX4_takeOldestTag_48 : decode cX4_takeOldestTag 48 = .ok (.iaload, 1) := by decide +kernel
theorem dX4_takeOldestTag_49 : decode cX4_takeOldestTag 49 = .ok (.aload_n 0, 1) := by decide +kernel
theorem dX4_takeOldestTag_50 : decode cX4_takeOldestTag 50 = .ok (.getfield 18, 3) := by decide +kernel
theorem dX4_takeOldestTag_53 : decode cX4_takeOldestTag 53 = .ok (.iload_n 1, 1) := by decide +kernel
theorem dX4_takeOldestTag_54 : decode cX4_takeOldestTag 54 = .ok (.iaload, 1) := by decide +kernel
theorem dX4_takeOldestTag_55 : decode cX4_takeOldestTag 55 = .ok (.if_icmp .ge 5, 3) := by decide +kernel
theorem dX4_takeOldestTag_58 : decode cX4_takeOldestTag 58 = .ok (.iload_n 2, 1) := by decide +kernel
theorem dX4_takeOldestTag_59 : decode cX4_takeOldestTag 59 = .ok (.istore_n 1, 1) := by decide +kernel
theorem dX4_takeOldestTag_60 : decode cX4_takeOldestTag 60 = .ok (.iinc 2 1, 3) := by decide +kernel
theorem dX4_takeOldestTag_63 : decode cX4_takeOldestTag 63 = .ok (.goto (-59), 3) := by decide +kernel
theorem dX4_takeOldestTag_66 : decode cX4_takeOldestTag 66 = .ok (.iload_n 1, 1) := by decide +kernel
theorem dX4_takeOldestTag_67 : decode cX4_takeOldestTag 67 = .ok (.iconst (-1), 1) := by decide +kernel
theorem dX4_takeOldestTag_68 : decode cX4_takeOldestTag 68 = .ok (.if_icmp .ne 5, 3) := by decide +kernel
theorem dX4_takeOldestTag_71 : decode cX4_takeOldestTag 71 = .ok (.iconst (-1), 1) := by decide +kernel
theorem dX4_takeOldestTag_72 : decode cX4_takeOldestTag 72 = .ok (.ireturn, 1) := by decide +kernel
theorem dX4_takeOldestTag_73 : decode cX4_takeOldestTag 73 = .ok (.aload_n 0, 1) := by decide +kernel
theorem dX4_takeOldestTag_74 : decode cX4_takeOldestTag 74 = .ok (.getfield 15, 3) := by decide +kernel
theorem dX4_takeOldestTag_77 : decode cX4_takeOldestTag 77 = .ok (.iload_n 1, 1) := by decide +kernel
theorem dX4_takeOldestTag_78 : decode cX4_takeOldestTag 78 = .ok (.iaload, 1) := by decide +kernel
theorem dX4_takeOldestTag_79 : decode cX4_takeOldestTag 79 = .ok (.istore_n 2, 1) := by decide +kernel
theorem dX4_takeOldestTag_80 : decode cX4_takeOldestTag 80 = .ok (.aload_n 0, 1) := by decide +kernel
theorem dX4_takeOldestTag_81 : decode cX4_takeOldestTag 81 = .ok (.getfield 15, 3) := by decide +kernel
theorem dX4_takeOldestTag_84 : decode cX4_takeOldestTag 84 = .ok (.iload_n 1, 1) := by decide +kernel
theorem dX4_takeOldestTag_85 : decode cX4_takeOldestTag 85 = .ok (.iconst (-1), 1) := by decide +kernel
theorem dX4_takeOldestTag_86 : decode cX4_takeOldestTag 86 = .ok (.iastore, 1) := by decide +kernel
theorem dX4_takeOldestTag_87 : decode cX4_takeOldestTag 87 = .ok (.iload_n 2, 1) := by decide +kernel
theorem dX4_takeOldestTag_88 : decode cX4_takeOldestTag 88 = .ok (.ireturn, 1) := by decide +kernel
theorem dX5_init_0 : decode cX5_init 0 = .ok (.aload_n 0, 1) := by decide +kernel
theorem dX5_init_1 : decode cX5_init 1 = .ok (.invokespecial 3, 3) := by decide +kernel
theorem dX5_init_4 : decode cX5_init 4 = .ok (.aload_n 0, 1) := by decide +kernel
theorem dX5_init_5 : decode cX5_init 5 = .ok (.bipush 6, 2) := by decide +kernel
theorem dX5_init_7 : decode cX5_init 7 = .ok (.anewarray 9, 3) := by decide +kernel
theorem dX5_init_10 : decode cX5_init 10 = .ok (.putfield 11, 3) := by decide +kernel
theorem dX5_init_13 : decode cX5_init 13 = .ok (.iconst 0, 1) := by decide +kernel
theorem dX5_init_14 : decode cX5_init 14 = .ok (.istore_n 1, 1) := by decide +kernel
theorem dX5_init_15 : decode cX5_init 15 = .ok (.iload_n 1, 1) := by decide +kernel
theorem dX5_init_16 : decode cX5_init 16 = .ok (.bipush 6, 2) := by decide +kernel
theorem dX5_init_18 : decode cX5_init 18 = .ok (.if_icmp .ge 22, 3) := by decide +kernel
theorem dX5_init_21 : decode cX5_init 21 = .ok (.aload_n 0, 1) := by decide +kernel
theorem dX5_init_22 : decode cX5_init 22 = .ok (.getfield 11, 3) := by decide +kernel
theorem dX5_init_25 : decode cX5_init 25 = .ok (.iload_n 1, 1) := by decide +kernel
theorem dX5_init_26 : decode cX5_init 26 = .ok (.new 9, 3) := by decide +kernel
theorem dX5_init_29 : decode cX5_init 29 = .ok (.dup, 1) := by decide +kernel
theorem dX5_init_30 : decode cX5_init 30 = .ok (.invokespecial 17, 3) := by decide +kernel
theorem dX5_init_33 : decode cX5_init 33 = .ok (.aastore, 1) := by decide +kernel
theorem dX5_init_34 : decode cX5_init 34 = .ok (.iinc 1 1, 3) := by decide +kernel
theorem dX5_init_37 : decode cX5_init 37 = .ok (.goto (-22), 3) := by decide +kernel
theorem dX5_init_40 : decode cX5_init 40 = .ok (.return_, 1) := by decide +kernel
theorem dX5_heldAt_0 : decode cX5_heldAt 0 = .ok (.iload_n 1, 1) := by decide +kernel
theorem dX5_heldAt_1 : decode cX5_heldAt 1 = .ok (.ifCond .lt 30, 3) := by decide +kernel
theorem dX5_heldAt_4 : decode cX5_heldAt 4 = .ok (.iload_n 1, 1) := by decide +kernel
theorem dX5_heldAt_5 : decode cX5_heldAt 5 = .ok (.bipush 6, 2) := by decide +kernel
theorem dX5_heldAt_7 : decode cX5_heldAt 7 = .ok (.if_icmp .ge 24, 3) := by decide +kernel
theorem dX5_heldAt_10 : decode cX5_heldAt 10 = .ok (.aload_n 0, 1) := by decide +kernel
theorem dX5_heldAt_11 : decode cX5_heldAt 11 = .ok (.getfield 11, 3) := by decide +kernel
theorem dX5_heldAt_14 : decode cX5_heldAt 14 = .ok (.iload_n 1, 1) := by decide +kernel
theorem dX5_heldAt_15 : decode cX5_heldAt 15 = .ok (.aaload, 1) := by decide +kernel
theorem dX5_heldAt_16 : decode cX5_heldAt 16 = .ok (.getfield 18, 3) := by decide +kernel
theorem dX5_heldAt_19 : decode cX5_heldAt 19 = .ok (.ifCond .eq 12, 3) := by decide +kernel
theorem dX5_heldAt_22 : decode cX5_heldAt 22 = .ok (.aload_n 0, 1) := by decide +kernel
theorem dX5_heldAt_23 : decode cX5_heldAt 23 = .ok (.getfield 11, 3) := by decide +kernel
theorem dX5_heldAt_26 : decode cX5_heldAt 26 = .ok (.iload_n 1, 1) := by decide +kernel
theorem dX5_heldAt_27 : decode cX5_heldAt 27 = .ok (.aaload, 1) := by decide +kernel
theorem dX5_heldAt_28 : decode cX5_heldAt 28 = .ok (.goto 4, 3) := by decide +kernel
theorem dX5_heldAt_31 : decode cX5_heldAt 31 = .ok (.aconst_null, 1) := by decide +kernel
theorem dX5_heldAt_32 : decode cX5_heldAt 32 = .ok (.areturn, 1) := by decide +kernel
theorem dX5_held_0 : decode cX5_held 0 = .ok (.iconst 0, 1) := by decide +kernel
theorem dX5_held_1 : decode cX5_held 1 = .ok (.istore_n 1, 1) := by decide +kernel
theorem dX5_held_2 : decode cX5_held 2 = .ok (.iconst 0, 1) := by decide +kernel
theorem dX5_held_3 : decode cX5_held 3 = .ok (.istore_n 2, 1) := by decide +kernel
theorem dX5_held_4 : decode cX5_held 4 = .ok (.iload_n 2, 1) := by decide +kernel
theorem dX5_held_5 : decode cX5_held 5 = .ok (.bipush 6, 2) := by decide +kernel
theorem dX5_held_7 : decode cX5_held 7 = .ok (.if_icmp .ge 24, 3) := by decide +kernel
theorem dX5_held_10 : decode cX5_held 10 = .ok (.aload_n 0, 1) := by decide +kernel
theorem dX5_held_11 : decode cX5_held 11 = .ok (.getfield 11, 3) := by decide +kernel
theorem dX5_held_14 : decode cX5_held 14 = .ok (.iload_n 2, 1) := by decide +kernel
theorem dX5_held_15 : decode cX5_held 15 = .ok (.aaload, 1) := by decide +kernel
theorem dX5_held_16 : decode cX5_held 16 = .ok (.getfield 18, 3) := by decide +kernel
theorem dX5_held_19 : decode cX5_held 19 = .ok (.ifCond .eq 6, 3) := by decide +kernel
theorem dX5_held_22 : decode cX5_held 22 = .ok (.iinc 1 1, 3) := by decide +kernel
theorem dX5_held_25 : decode cX5_held 25 = .ok (.iinc 2 1, 3) := by decide +kernel
theorem dX5_held_28 : decode cX5_held 28 = .ok (.goto (-24), 3) := by decide +kernel
theorem dX5_held_31 : decode cX5_held 31 = .ok (.iload_n 1, 1) := by decide +kernel
theorem dX5_held_32 : decode cX5_held 32 = .ok (.ireturn, 1) := by decide +kernel
theorem dX5_usedLaterThan_0 : decode cX5_usedLaterThan 0 = .ok (.iconst 0, 1) := by decide +kernel
theorem dX5_usedLaterThan_1 : decode cX5_usedLaterThan 1 = .ok (.istore_n 2, 1) := by decide +kernel
theorem dX5_usedLaterThan_2 : decode cX5_usedLaterThan 2 = .ok (.iconst 0, 1) := by decide +kernel
theorem dX5_usedLaterThan_3 : decode cX5_usedLaterThan 3 = .ok (.istore_n 3, 1) := by decide +kernel
theorem dX5_usedLaterThan_4 : decode cX5_usedLaterThan 4 = .ok (.iload_n 3, 1) := by decide +kernel
theorem dX5_usedLaterThan_5 : decode cX5_usedLaterThan 5 = .ok (.bipush 6, 2) := by decide +kernel
theorem dX5_usedLaterThan_7 : decode cX5_usedLaterThan 7 = .ok (.if_icmp .ge 40, 3) := by decide +kernel
theorem dX5_usedLaterThan_10 : decode cX5_usedLaterThan 10 = .ok (.aload_n 0, 1) := by decide +kernel
theorem dX5_usedLaterThan_11 : decode cX5_usedLaterThan 11 = .ok (.getfield 11, 3) := by decide +kernel
theorem dX5_usedLaterThan_14 : decode cX5_usedLaterThan 14 = .ok (.iload_n 3, 1) := by decide +kernel
theorem dX5_usedLaterThan_15 : decode cX5_usedLaterThan 15 = .ok (.aaload, 1) := by decide +kernel
theorem dX5_usedLaterThan_16 : decode cX5_usedLaterThan 16 = .ok (.getfield 18, 3) := by decide +kernel
theorem dX5_usedLaterThan_19 : decode cX5_usedLaterThan 19 = .ok (.ifCond .eq 22, 3) := by decide +kernel
theorem dX5_usedLaterThan_22 : decode cX5_usedLaterThan 22 = .ok (.aload_n 0, 1) := by decide +kernel
theorem dX5_usedLaterThan_23 : decode cX5_usedLaterThan 23 = .ok (.getfield 11, 3) := by decide +kernel
theorem dX5_usedLaterThan_26 : decode cX5_usedLaterThan 26 = .ok (.iload_n 3, 1) := by decide +kernel
theorem dX5_usedLaterThan_27 : decode cX5_usedLaterThan 27 = .ok (.aaload, 1) := by decide +kernel
theorem dX5_usedLaterThan_28 : decode cX5_usedLaterThan 28 = .ok (.getfield 22, 3) := by decide +kernel
theorem dX5_usedLaterThan_31 : decode cX5_usedLaterThan 31 = .ok (.aload_n 1, 1) := by decide +kernel
theorem dX5_usedLaterThan_32 : decode cX5_usedLaterThan 32 = .ok (.getfield 22, 3) := by decide +kernel
theorem dX5_usedLaterThan_35 : decode cX5_usedLaterThan 35 = .ok (.if_icmp .le 6, 3) := by decide +kernel
theorem dX5_usedLaterThan_38 : decode cX5_usedLaterThan 38 = .ok (.iinc 2 1, 3) := by decide +kernel
theorem dX5_usedLaterThan_41 : decode cX5_usedLaterThan 41 = .ok (.iinc 3 1, 3) := by decide +kernel
theorem dX5_usedLaterThan_44 : decode cX5_usedLaterThan 44 = .ok (.goto (-40), 3) := by decide +kernel
theorem dX5_usedLaterThan_47 : decode cX5_usedLaterThan 47 = .ok (.iload_n 2, 1) := by decide +kernel
theorem dX5_usedLaterThan_48 : decode cX5_usedLaterThan 48 = .ok (.ireturn, 1) := by decide +kernel
theorem dX5_touch_0 : decode cX5_touch 0 = .ok (.aload_n 0, 1) := by decide +kernel
theorem dX5_touch_1 : decode cX5_touch 1 = .ok (.dup, 1) := by decide +kernel
theorem dX5_touch_2 : decode cX5_touch 2 = .ok (.getfield 26, 3) := by decide +kernel
theorem dX5_touch_5 : decode cX5_touch 5 = .ok (.iconst 1, 1) := by decide +kernel
theorem dX5_touch_6 : decode cX5_touch 6 = .ok (.iadd, 1) := by decide +kernel
theorem dX5_touch_7 : decode cX5_touch 7 = .ok (.putfield 26, 3) := by decide +kernel
theorem dX5_touch_10 : decode cX5_touch 10 = .ok (.aload_n 1, 1) := by decide +kernel
theorem dX5_touch_11 : decode cX5_touch 11 = .ok (.aload_n 0, 1) := by decide +kernel
theorem dX5_touch_12 : decode cX5_touch 12 = .ok (.getfield 26, 3) := by decide +kernel
theorem dX5_touch_15 : decode cX5_touch 15 = .ok (.putfield 22, 3) := by decide +kernel
theorem dX5_touch_18 : decode cX5_touch 18 = .ok (.return_, 1) := by decide +kernel
theorem dX5_find_0 : decode cX5_find 0 = .ok (.iconst 0, 1) := by decide +kernel
theorem dX5_find_1 : decode cX5_find 1 = .ok (.istore 4, 2) := by decide +kernel
theorem dX5_find_3 : decode cX5_find 3 = .ok (.iload 4, 2) := by decide +kernel
theorem dX5_find_5 : decode cX5_find 5 = .ok (.bipush 6, 2) := by decide +kernel
theorem dX5_find_7 : decode cX5_find 7 = .ok (.if_icmp .ge 56, 3) := by decide +kernel
theorem dX5_find_10 : decode cX5_find 10 = .ok (.aload_n 0, 1) := by decide +kernel
theorem dX5_find_11 : decode cX5_find 11 = .ok (.getfield 11, 3) := by decide +kernel
theorem dX5_find_14 : decode cX5_find 14 = .ok (.iload 4, 2) := by decide +kernel
theorem dX5_find_16 : decode cX5_find 16 = .ok (.aaload, 1) := by decide +kernel
theorem dX5_find_17 : decode cX5_find 17 = .ok (.astore 5, 2) := by decide +kernel
theorem dX5_find_19 : decode cX5_find 19 = .ok (.aload 5, 2) := by decide +kernel
theorem dX5_find_21 : decode cX5_find 21 = .ok (.getfield 18, 3) := by decide +kernel
theorem dX5_find_24 : decode cX5_find 24 = .ok (.ifCond .eq 33, 3) := by decide +kernel
theorem dX5_find_27 : decode cX5_find 27 = .ok (.aload 5, 2) := by decide +kernel
theorem dX5_find_29 : decode cX5_find 29 = .ok (.getfield 29, 3) := by decide +kernel
theorem dX5_find_32 : decode cX5_find 32 = .ok (.iload_n 1, 1) := by decide +kernel
theorem dX5_find_33 : decode cX5_find 33 = .ok (.if_icmp .ne 24, 3) := by decide +kernel
theorem dX5_find_36 : decode cX5_find 36 = .ok (.aload 5, 2) := by decide +kernel
theorem dX5_find_38 : decode cX5_find 38 = .ok (.getfield 32, 3) := by decide +kernel
theorem dX5_find_41 : decode cX5_find 41 = .ok (.iload_n 2, 1) := by decide +kernel
theorem dX5_find_42 : decode cX5_find 42 = .ok (.if_icmp .ne 15, 3) := by decide +kernel
theorem dX5_find_45 : decode cX5_find 45 = .ok (.aload 5, 2) := by decide +kernel
theorem dX5_find_47 : decode cX5_find 47 = .ok (.getfield 35, 3) := by decide +kernel
theorem dX5_find_50 : decode cX5_find 50 = .ok (.iload_n 3, 1) := by decide +kernel
theorem dX5_find_51 : decode cX5_find 51 = .ok (.if_icmp .ne 6, 3) := by decide +kernel
theorem dX5_find_54 : decode cX5_find 54 = .ok (.aload 5, 2) := by decide +kernel
theorem dX5_find_56 : decode cX5_find 56 = .ok (.areturn, 1) := by decide +kernel
theorem dX5_find_57 : decode cX5_find 57 = .ok (.iinc 4 1, 3) := by decide +kernel
theorem dX5_find_60 : decode cX5_find 60 = .ok (.goto (-57), 3) := by decide +kernel
theorem dX5_find_63 : decode cX5_find 63 = .ok (.aconst_null, 1) := by decide +kernel
theorem dX5_find_64 : decode cX5_find 64 = .ok (.areturn, 1) := by decide +kernel
theorem dX5_take_0 : decode cX5_take 0 = .ok (.aload_n 0, 1) := by decide +kernel
theorem dX5_take_1 : decode cX5_take 1 = .ok (.iload_n 1, 1) := by decide +kernel
theorem dX5_take_2 : decode cX5_take 2 = .ok (.iload_n 2, 1) := by decide +kernel
theorem dX5_take_3 : decode cX5_take 3 = .ok (.iload_n 3, 1) := by decide +kernel
theorem dX5_take_4 : decode cX5_take 4 = .ok (.invokevirtual 38, 3) := by decide +kernel
theorem dX5_take_7 : decode cX5_take 7 = .ok (.astore 4, 2) := by decide +kernel
theorem dX5_take_9 : decode cX5_take 9 = .ok (.aload 4, 2) := by decide +kernel
theorem dX5_take_11 : decode cX5_take 11 = .ok (.ifnonnull 9, 3) := by decide +kernel
theorem dX5_take_14 : decode cX5_take 14 = .ok (.aload_n 0, 1) := by decide +kernel
theorem dX5_take_15 : decode cX5_take 15 = .ok (.invokevirtual 42, 3) := by decide +kernel
theorem dX5_take_18 : decode cX5_take 18 = .ok (.astore 4, 2) := by decide +kernel
theorem dX5_take_20 : decode cX5_take 20 = .ok (.aload 4, 2) := by decide +kernel
theorem dX5_take_22 : decode cX5_take 22 = .ok (.iconst 1, 1) := by decide +kernel
theorem dX5_take_23 : decode cX5_take 23 = .ok (.putfield 18, 3) := by decide +kernel
theorem dX5_take_26 : decode cX5_take 26 = .ok (.aload 4, 2) := by decide +kernel
theorem dX5_take_28 : decode cX5_take 28 = .ok (.iload_n 1, 1) := by decide +kernel
theorem dX5_take_29 : decode cX5_take 29 = .ok (.putfield 29, 3) := by decide +kernel
theorem dX5_take_32 : decode cX5_take 32 = .ok (.aload 4, 2) := by decide +kernel
theorem dX5_take_34 : decode cX5_take 34 = .ok (.iload_n 2, 1) := by decide +kernel
theorem dX5_take_35 : decode cX5_take 35 = .ok (.putfield 32, 3) := by decide +kernel
theorem dX5_take_38 : decode cX5_take 38 = .ok (.aload 4, 2) := by decide +kernel
theorem dX5_take_40 : decode cX5_take 40 = .ok (.iload_n 3, 1) := by decide +kernel
theorem dX5_take_41 : decode cX5_take 41 = .ok (.putfield 35, 3) := by decide +kernel
theorem dX5_take_44 : decode cX5_take 44 = .ok (.aload_n 0, 1) := by decide +kernel
theorem dX5_take_45 : decode cX5_take 45 = .ok (.aload 4, 2) := by decide +kernel
theorem dX5_take_47 : decode cX5_take 47 = .ok (.invokevirtual 46, 3) := by decide +kernel
theorem dX5_take_50 : decode cX5_take 50 = .ok (.aload 4, 2) := by decide +kernel
theorem dX5_take_52 : decode cX5_take 52 = .ok (.areturn, 1) := by decide +kernel
theorem dX5_emptyOrOldest_0 : decode cX5_emptyOrOldest 0 = .ok (.aload_n 0, 1) := by decide +kernel
theorem dX5_emptyOrOldest_1 : decode cX5_emptyOrOldest 1 = .ok (.getfield 11, 3) := by decide +kernel
theorem dX5_emptyOrOldest_4 : decode cX5_emptyOrOldest 4 = .ok (.iconst 0, 1) := by decide +kernel
theorem dX5_emptyOrOldest_5 : decode cX5_emptyOrOldest 5 = .ok (.aaload, 1) := by decide +kernel
theorem dX5_emptyOrOldest_6 : decode cX5_emptyOrOldest 6 = .ok (.astore_n 1, 1) := by decide +kernel
theorem dX5_emptyOrOldest_7 : decode cX5_emptyOrOldest 7 = .ok (.iconst 0, 1) := by decide +kernel
theorem dX5_emptyOrOldest_8 : decode cX5_emptyOrOldest 8 = .ok (.istore_n 2, 1) := by decide +kernel
theorem dX5_emptyOrOldest_9 : decode cX5_emptyOrOldest 9 = .ok (.iload_n 2, 1) := by decide +kernel
theorem dX5_emptyOrOldest_10 : decode cX5_emptyOrOldest 10 = .ok (.bipush 6, 2) := by decide +kernel
theorem dX5_emptyOrOldest_12 : decode cX5_emptyOrOldest 12 = .ok (.if_icmp .ge 51, 3) := by decide +kernel
theorem dX5_emptyOrOldest_15 : decode cX5_emptyOrOldest 15 = .ok (.aload_n 0, 1) := by decide +kernel
theorem dX5_emptyOrOldest_16 : decode cX5_emptyOrOldest 16 = .ok (.getfield 11, 3) := by decide +kernel
theorem dX5_emptyOrOldest_19 : decode cX5_emptyOrOldest 19 = .ok (.iload_n 2, 1) := by decide +kernel
theorem dX5_emptyOrOldest_20 : decode cX5_emptyOrOldest 20 = .ok (.aaload, 1) := by decide +kernel
theorem dX5_emptyOrOldest_21 : decode cX5_emptyOrOldest 21 = .ok (.getfield 18, 3) := by decide +kernel
theorem dX5_emptyOrOldest_24 : decode cX5_emptyOrOldest 24 = .ok (.ifCond .ne 10, 3) := by decide +kernel
theorem dX5_emptyOrOldest_27 : decode cX5_emptyOrOldest 27 = .ok (.aload_n 0, 1) := by decide +kernel
theorem dX5_emptyOrOldest_28 : decode cX5_emptyOrOldest 28 = .ok (.getfield 11, 3) := by decide +kernel
theorem dX5_emptyOrOldest_31 : decode cX5_emptyOrOldest 31 = .ok (.iload_n 2, 1) := by decide +kernel
theorem dX5_emptyOrOldest_32 : decode cX5_emptyOrOldest 32 = .ok (.aaload, 1) := by decide +kernel
theorem dX5_emptyOrOldest_33 : decode cX5_emptyOrOldest 33 = .ok (.areturn, 1) := by decide +kernel
theorem dX5_emptyOrOldest_34 : decode cX5_emptyOrOldest 34 = .ok (.aload_n 0, 1) := by decide +kernel
theorem dX5_emptyOrOldest_35 : decode cX5_emptyOrOldest 35 = .ok (.getfield 11, 3) := by decide +kernel
theorem dX5_emptyOrOldest_38 : decode cX5_emptyOrOldest 38 = .ok (.iload_n 2, 1) := by decide +kernel
theorem dX5_emptyOrOldest_39 : decode cX5_emptyOrOldest 39 = .ok (.aaload, 1) := by decide +kernel
theorem dX5_emptyOrOldest_40 : decode cX5_emptyOrOldest 40 = .ok (.getfield 22, 3) := by decide +kernel
theorem dX5_emptyOrOldest_43 : decode cX5_emptyOrOldest 43 = .ok (.aload_n 1, 1) := by decide +kernel
theorem dX5_emptyOrOldest_44 : decode cX5_emptyOrOldest 44 = .ok (.getfield 22, 3) := by decide +kernel
theorem dX5_emptyOrOldest_47 : decode cX5_emptyOrOldest 47 = .ok (.if_icmp .ge 10, 3) := by decide +kernel
theorem dX5_emptyOrOldest_50 : decode cX5_emptyOrOldest 50 = .ok (.aload_n 0, 1) := by decide +kernel
theorem dX5_emptyOrOldest_51 : decode cX5_emptyOrOldest 51 = .ok (.getfield 11, 3) := by decide +kernel
theorem dX5_emptyOrOldest_54 : decode cX5_emptyOrOldest 54 = .ok (.iload_n 2, 1) := by decide +kernel
theorem dX5_emptyOrOldest_55 : decode cX5_emptyOrOldest 55 = .ok (.aaload, 1) := by decide +kernel
theorem dX5_emptyOrOldest_56 : decode cX5_emptyOrOldest 56 = .ok (.astore_n 1, 1) := by decide +kernel
theorem dX5_emptyOrOldest_57 : decode cX5_emptyOrOldest 57 = .ok (.iinc 2 1, 3) := by decide +kernel
theorem dX5_emptyOrOldest_60 : decode cX5_emptyOrOldest 60 = .ok (.goto (-51), 3) := by decide +kernel
theorem dX5_emptyOrOldest_63 : decode cX5_emptyOrOldest 63 = .ok (.aload_n 1, 1) := by decide +kernel
theorem dX5_emptyOrOldest_64 : decode cX5_emptyOrOldest 64 = .ok (.areturn, 1) := by decide +kernel
theorem dX5_dropAddress_0 : decode cX5_dropAddress 0 = .ok (.iconst 0, 1) := by decide +kernel
theorem dX5_dropAddress_1 : decode cX5_dropAddress 1 = .ok (.istore_n 3, 1) := by decide +kernel
theorem dX5_dropAddress_2 : decode cX5_dropAddress 2 = .ok (.iconst 0, 1) := by decide +kernel
theorem dX5_dropAddress_3 : decode cX5_dropAddress 3 = .ok (.istore 4, 2) := by decide +kernel
theorem dX5_dropAddress_5 : decode cX5_dropAddress 5 = .ok (.iload 4, 2) := by decide +kernel
theorem dX5_dropAddress_7 : decode cX5_dropAddress 7 = .ok (.bipush 6, 2) := by decide +kernel
theorem dX5_dropAddress_9 : decode cX5_dropAddress 9 = .ok (.if_icmp .ge 53, 3) := by decide +kernel
theorem dX5_dropAddress_12 : decode cX5_dropAddress 12 = .ok (.aload_n 0, 1) := by decide +kernel
theorem dX5_dropAddress_13 : decode cX5_dropAddress 13 = .ok (.getfield 11, 3) := by decide +kernel
theorem dX5_dropAddress_16 : decode cX5_dropAddress 16 = .ok (.iload 4, 2) := by decide +kernel
theorem dX5_dropAddress_18 : decode cX5_dropAddress 18 = .ok (.aaload, 1) := by decide +kernel
theorem dX5_dropAddress_19 : decode cX5_dropAddress 19 = .ok (.astore 5, 2) := by decide +kernel
theorem dX5_dropAddress_21 : decode cX5_dropAddress 21 = .ok (.aload 5, 2) := by decide +kernel
theorem dX5_dropAddress_23 : decode cX5_dropAddress 23 = .ok (.iload_n 2, 1) := by decide +kernel
theorem dX5_dropAddress_24 : decode cX5_dropAddress 24 = .ok (.invokevirtual 50, 3) := by decide +kernel
theorem dX5_dropAddress_27 : decode cX5_dropAddress 27 = .ok (.ifCond .eq 29, 3) := by decide +kernel
theorem dX5_dropAddress_30 : decode cX5_dropAddress 30 = .ok (.aload 5, 2) := by decide +kernel
theorem dX5_dropAddress_32 : decode cX5_dropAddress 32 = .ok (.getfield 29, 3) := by decide +kernel
theorem dX5_dropAddress_35 : decode cX5_dropAddress 35 = .ok (.iload_n 1, 1) := by decide +kernel
theorem dX5_dropAddress_36 : decode cX5_dropAddress 36 = .ok (.if_icmp .eq 11, 3) := by decide +kernel
theorem dX5_dropAddress_39 : decode cX5_dropAddress 39 = .ok (.aload 5, 2) := by decide +kernel
theorem dX5_dropAddress_41 : decode cX5_dropAddress 41 = .ok (.invokevirtual 54, 3) := by decide +kernel
theorem dX5_dropAddress_44 : decode cX5_dropAddress 44 = .ok (.ifCond .eq 12, 3) := by decide +kernel
theorem dX5_dropAddress_47 : decode cX5_dropAddress 47 = .ok (.aload 5, 2) := by decide +kernel
theorem dX5_dropAddress_49 : decode cX5_dropAddress 49 = .ok (.iconst 0, 1) := by decide +kernel
theorem dX5_dropAddress_50 : decode cX5_dropAddress 50 = .ok (.putfield 18, 3) := by decide +kernel
theorem dX5_dropAddress_53 : decode cX5_dropAddress 53 = .ok (.iinc 3 1, 3) := by decide +kernel
theorem dX5_dropAddress_56 : decode cX5_dropAddress 56 = .ok (.iinc 4 1, 3) := by decide +kernel
theorem dX5_dropAddress_59 : decode cX5_dropAddress 59 = .ok (.goto (-54), 3) := by decide +kernel
theorem dX5_dropAddress_62 : decode cX5_dropAddress 62 = .ok (.iload_n 3, 1) := by decide +kernel
theorem dX5_dropAddress_63 : decode cX5_dropAddress 63 = .ok (.ireturn, 1) := by decide +kernel
theorem dX5_dropTag_0 : decode cX5_dropTag 0 = .ok (.iconst 0, 1) := by decide +kernel
theorem dX5_dropTag_1 : decode cX5_dropTag 1 = .ok (.istore_n 3, 1) := by decide +kernel
theorem dX5_dropTag_2 : decode cX5_dropTag 2 = .ok (.iconst 0, 1) := by decide +kernel
theorem dX5_dropTag_3 : decode cX5_dropTag 3 = .ok (.istore 4, 2) := by decide +kernel
theorem dX5_dropTag_5 : decode cX5_dropTag 5 = .ok (.iload 4, 2) := by decide +kernel
theorem dX5_dropTag_7 : decode cX5_dropTag 7 = .ok (.bipush 6, 2) := by decide +kernel
theorem dX5_dropTag_9 : decode cX5_dropTag 9 = .ok (.if_icmp .ge 56, 3) := by decide +kernel
theorem dX5_dropTag_12 : decode cX5_dropTag 12 = .ok (.aload_n 0, 1) := by decide +kernel
theorem dX5_dropTag_13 : decode cX5_dropTag 13 = .ok (.getfield 11, 3) := by decide +kernel
theorem dX5_dropTag_16 : decode cX5_dropTag 16 = .ok (.iload 4, 2) := by decide +kernel
theorem dX5_dropTag_18 : decode cX5_dropTag 18 = .ok (.aaload, 1) := by decide +kernel
theorem dX5_dropTag_19 : decode cX5_dropTag 19 = .ok (.astore 5, 2) := by decide +kernel
theorem dX5_dropTag_21 : decode cX5_dropTag 21 = .ok (.aload 5, 2) := by decide +kernel
theorem dX5_dropTag_23 : decode cX5_dropTag 23 = .ok (.getfield 18, 3) := by decide +kernel
theorem dX5_dropTag_26 : decode cX5_dropTag 26 = .ok (.ifCond .eq 33, 3) := by decide +kernel
theorem dX5_dropTag_29 : decode cX5_dropTag 29 = .ok (.aload 5, 2) := by decide +kernel
theorem dX5_dropTag_31 : decode cX5_dropTag 31 = .ok (.getfield 29, 3) := by decide +kernel
theorem dX5_dropTag_34 : decode cX5_dropTag 34 = .ok (.iload_n 1, 1) := by decide +kernel
theorem dX5_dropTag_35 : decode cX5_dropTag 35 = .ok (.if_icmp .ne 24, 3) := by decide +kernel
theorem dX5_dropTag_38 : decode cX5_dropTag 38 = .ok (.iload_n 2, 1) := by decide +kernel
theorem dX5_dropTag_39 : decode cX5_dropTag 39 = .ok (.ifCond .ne 11, 3) := by decide +kernel
theorem dX5_dropTag_42 : decode cX5_dropTag 42 = .ok (.aload 5, 2) := by decide +kernel
theorem dX5_dropTag_44 : decode cX5_dropTag 44 = .ok (.invokevirtual 54, 3) := by decide +kernel
theorem dX5_dropTag_47 : decode cX5_dropTag 47 = .ok (.ifCond .ne 12, 3) := by decide +kernel
theorem dX5_dropTag_50 : decode cX5_dropTag 50 = .ok (.aload 5, 2) := by decide +kernel
theorem dX5_dropTag_52 : decode cX5_dropTag 52 = .ok (.iconst 0, 1) := by decide +kernel
theorem dX5_dropTag_53 : decode cX5_dropTag 53 = .ok (.putfield 18, 3) := by decide +kernel
theorem dX5_dropTag_56 : decode cX5_dropTag 56 = .ok (.iinc 3 1, 3) := by decide +kernel
theorem dX5_dropTag_59 : decode cX5_dropTag 59 = .ok (.iinc 4 1, 3) := by decide +kernel
theorem dX5_dropTag_62 : decode cX5_dropTag 62 = .ok (.goto (-57), 3) := by decide +kernel
theorem dX5_dropTag_65 : decode cX5_dropTag 65 = .ok (.iload_n 3, 1) := by decide +kernel
theorem dX5_dropTag_66 : decode cX5_dropTag 66 = .ok (.ireturn, 1) := by decide +kernel
theorem dX5_dropAll_0 : decode cX5_dropAll 0 = .ok (.aload_n 0, 1) := by decide +kernel
theorem dX5_dropAll_1 : decode cX5_dropAll 1 = .ok (.invokevirtual 58, 3) := by decide +kernel
theorem dX5_dropAll_4 : decode cX5_dropAll 4 = .ok (.istore_n 1, 1) := by decide +kernel
theorem dX5_dropAll_5 : decode cX5_dropAll 5 = .ok (.iconst 0, 1) := by decide +kernel
theorem dX5_dropAll_6 : decode cX5_dropAll 6 = .ok (.istore_n 2, 1) := by decide +kernel
theorem dX5_dropAll_7 : decode cX5_dropAll 7 = .ok (.iload_n 2, 1) := by decide +kernel
theorem dX5_dropAll_8 : decode cX5_dropAll 8 = .ok (.bipush 6, 2) := by decide +kernel
theorem dX5_dropAll_10 : decode cX5_dropAll 10 = .ok (.if_icmp .ge 19, 3) := by decide +kernel
theorem dX5_dropAll_13 : decode cX5_dropAll 13 = .ok (.aload_n 0, 1) := by decide +kernel
theorem dX5_dropAll_14 : decode cX5_dropAll 14 = .ok (.getfield 11, 3) := by decide +kernel
theorem dX5_dropAll_17 : decode cX5_dropAll 17 = .ok (.iload_n 2, 1) := by decide +kernel
theorem dX5_dropAll_18 : decode cX5_dropAll 18 = .ok (.aaload, 1) := by decide +kernel
theorem dX5_dropAll_19 : decode cX5_dropAll 19 = .ok (.iconst 0, 1) := by decide +kernel
theorem dX5_dropAll_20 : decode cX5_dropAll 20 = .ok (.putfield 18, 3) := by decide +kernel
theorem dX5_dropAll_23 : decode cX5_dropAll 23 = .ok (.iinc 2 1, 3) := by decide +kernel
theorem dX5_dropAll_26 : decode cX5_dropAll 26 = .ok (.goto (-19), 3) := by decide +kernel
theorem dX5_dropAll_29 : decode cX5_dropAll 29 = .ok (.iload_n 1, 1) := by decide +kernel
theorem dX5_dropAll_30 : decode cX5_dropAll 30 = .ok (.ireturn, 1) := by decide +kernel
theorem dX6_init_0 : decode cX6_init 0 = .ok (.aload_n 0, 1) := by decide +kernel
theorem dX6_init_1 : decode cX6_init 1 = .ok (.invokespecial 3, 3) := by decide +kernel
theorem dX6_init_4 : decode cX6_init 4 = .ok (.aload_n 0, 1) := by decide +kernel
theorem dX6_init_5 : decode cX6_init 5 = .ok (.iconst 0, 1) := by decide +kernel
theorem dX6_init_6 : decode cX6_init 6 = .ok (.putfield 9, 3) := by decide +kernel
theorem dX6_init_9 : decode cX6_init 9 = .ok (.aload_n 0, 1) := by decide +kernel
theorem dX6_init_10 : decode cX6_init 10 = .ok (.iconst 3, 1) := by decide +kernel
theorem dX6_init_11 : decode cX6_init 11 = .ok (.newarray .int, 2) := by decide +kernel
theorem dX6_init_13 : decode cX6_init 13 = .ok (.putfield 15, 3) := by decide +kernel
theorem dX6_init_16 : decode cX6_init 16 = .ok (.return_, 1) := by decide +kernel
theorem dX6_reset_0 : decode cX6_reset 0 = .ok (.aload_n 0, 1) := by decide +kernel
theorem dX6_reset_1 : decode cX6_reset 1 = .ok (.iload_n 1, 1) := by decide +kernel
theorem dX6_reset_2 : decode cX6_reset 2 = .ok (.putfield 19, 3) := by decide +kernel
theorem dX6_reset_5 : decode cX6_reset 5 = .ok (.aload_n 0, 1) := by decide +kernel
theorem dX6_reset_6 : decode cX6_reset 6 = .ok (.iload_n 2, 1) := by decide +kernel
theorem dX6_reset_7 : decode cX6_reset 7 = .ok (.putfield 22, 3) := by decide +kernel
theorem dX6_reset_10 : decode cX6_reset 10 = .ok (.aload_n 0, 1) := by decide +kernel
theorem dX6_reset_11 : decode cX6_reset 11 = .ok (.iload_n 3, 1) := by decide +kernel
theorem dX6_reset_12 : decode cX6_reset 12 = .ok (.putfield 25, 3) := by decide +kernel
theorem dX6_reset_15 : decode cX6_reset 15 = .ok (.aload_n 0, 1) := by decide +kernel
theorem dX6_reset_16 : decode cX6_reset 16 = .ok (.iload 4, 2) := by decide +kernel
theorem dX6_reset_18 : decode cX6_reset 18 = .ok (.putfield 29, 3) := by decide +kernel
theorem dX6_reset_21 : decode cX6_reset 21 = .ok (.aload_n 0, 1) := by decide +kernel
theorem dX6_reset_22 : decode cX6_reset 22 = .ok (.iconst 0, 1) := by decide +kernel
theorem dX6_reset_23 : decode cX6_reset 23 = .ok (.putfield 32, 3) := by decide +kernel
theorem dX6_reset_26 : decode cX6_reset 26 = .ok (.aload_n 0, 1) := by decide +kernel
theorem dX6_reset_27 : decode cX6_reset 27 = .ok (.getfield 15, 3) := by decide +kernel
theorem dX6_reset_30 : decode cX6_reset 30 = .ok (.iconst (-1), 1) := by decide +kernel
theorem dX6_reset_31 : decode cX6_reset 31 = .ok (.invokestatic 35, 3) := by decide +kernel
theorem dX6_reset_34 : decode cX6_reset 34 = .ok (.return_, 1) := by decide +kernel
theorem dX6_leadOn_0 : decode cX6_leadOn 0 = .ok (.aload_n 0, 1) := by decide +kernel
theorem dX6_leadOn_1 : decode cX6_leadOn 1 = .ok (.iconst 1, 1) := by decide +kernel
theorem dX6_leadOn_2 : decode cX6_leadOn 2 = .ok (.putfield 9, 3) := by decide +kernel
theorem dX6_leadOn_5 : decode cX6_leadOn 5 = .ok (.aload_n 0, 1) := by decide +kernel
theorem dX6_leadOn_6 : decode cX6_leadOn 6 = .ok (.iload_n 1, 1) := by decide +kernel
theorem dX6_leadOn_7 : decode cX6_leadOn 7 = .ok (.putfield 41, 3) := by decide +kernel
theorem dX6_leadOn_10 : decode cX6_leadOn 10 = .ok (.aload_n 0, 1) := by decide +kernel
theorem dX6_leadOn_11 : decode cX6_leadOn 11 = .ok (.iload_n 2, 1) := by decide +kernel
theorem dX6_leadOn_12 : decode cX6_leadOn 12 = .ok (.putfield 44, 3) := by decide +kernel
theorem dX6_leadOn_15 : decode cX6_leadOn 15 = .ok (.aload_n 0, 1) := by decide +kernel
theorem dX6_leadOn_16 : decode cX6_leadOn 16 = .ok (.iload_n 3, 1) := by decide +kernel
theorem dX6_leadOn_17 : decode cX6_leadOn 17 = .ok (.putfield 47, 3) := by decide +kernel
theorem dX6_leadOn_20 : decode cX6_leadOn 20 = .ok (.return_, 1) := by decide +kernel
theorem dX6_finish_0 : decode cX6_finish 0 = .ok (.aload_n 0, 1) := by decide +kernel
theorem dX6_finish_1 : decode cX6_finish 1 = .ok (.iconst 2, 1) := by decide +kernel
theorem dX6_finish_2 : decode cX6_finish 2 = .ok (.putfield 9, 3) := by decide +kernel
theorem dX6_finish_5 : decode cX6_finish 5 = .ok (.aload_n 0, 1) := by decide +kernel
theorem dX6_finish_6 : decode cX6_finish 6 = .ok (.iload_n 1, 1) := by decide +kernel
theorem dX6_finish_7 : decode cX6_finish 7 = .ok (.putfield 50, 3) := by decide +kernel
theorem dX6_finish_10 : decode cX6_finish 10 = .ok (.return_, 1) := by decide +kernel
theorem dX6_fail_0 : decode cX6_fail 0 = .ok (.aload_n 0, 1) := by decide +kernel
theorem dX6_fail_1 : decode cX6_fail 1 = .ok (.iconst 3, 1) := by decide +kernel
theorem dX6_fail_2 : decode cX6_fail 2 = .ok (.putfield 9, 3) := by decide +kernel
theorem dX6_fail_5 : decode cX6_fail 5 = .ok (.aload_n 0, 1) := by decide +kernel
theorem dX6_fail_6 : decode cX6_fail 6 = .ok (.iload_n 1, 1) := by decide +kernel
theorem dX6_fail_7 : decode cX6_fail 7 = .ok (.putfield 50, 3) := by decide +kernel
theorem dX6_fail_10 : decode cX6_fail 10 = .ok (.return_, 1) := by decide +kernel
theorem dX6_abort_0 : decode cX6_abort 0 = .ok (.aload_n 0, 1) := by decide +kernel
theorem dX6_abort_1 : decode cX6_abort 1 = .ok (.getfield 9, 3) := by decide +kernel
theorem dX6_abort_4 : decode cX6_abort 4 = .ok (.iconst 1, 1) := by decide +kernel
theorem dX6_abort_5 : decode cX6_abort 5 = .ok (.if_icmp .ne 8, 3) := by decide +kernel
theorem dX6_abort_8 : decode cX6_abort 8 = .ok (.aload_n 0, 1) := by decide +kernel
theorem dX6_abort_9 : decode cX6_abort 9 = .ok (.iconst 4, 1) := by decide +kernel
theorem dX6_abort_10 : decode cX6_abort 10 = .ok (.putfield 9, 3) := by decide +kernel
theorem dX6_abort_13 : decode cX6_abort 13 = .ok (.return_, 1) := by decide +kernel
theorem dX6_hasRead_0 : decode cX6_hasRead 0 = .ok (.aload_n 0, 1) := by decide +kernel
theorem dX6_hasRead_1 : decode cX6_hasRead 1 = .ok (.getfield 15, 3) := by decide +kernel
theorem dX6_hasRead_4 : decode cX6_hasRead 4 = .ok (.iconst 2, 1) := by decide +kernel
theorem dX6_hasRead_5 : decode cX6_hasRead 5 = .ok (.iaload, 1) := by decide +kernel
theorem dX6_hasRead_6 : decode cX6_hasRead 6 = .ok (.iload_n 1, 1) := by decide +kernel
theorem dX6_hasRead_7 : decode cX6_hasRead 7 = .ok (.if_icmp .eq 23, 3) := by decide +kernel
theorem dX6_hasRead_10 : decode cX6_hasRead 10 = .ok (.aload_n 0, 1) := by decide +kernel
theorem dX6_hasRead_11 : decode cX6_hasRead 11 = .ok (.getfield 15, 3) := by decide +kernel
theorem dX6_hasRead_14 : decode cX6_hasRead 14 = .ok (.iconst 1, 1) := by decide +kernel
theorem dX6_hasRead_15 : decode cX6_hasRead 15 = .ok (.iaload, 1) := by decide +kernel
theorem dX6_hasRead_16 : decode cX6_hasRead 16 = .ok (.iload_n 1, 1) := by decide +kernel
theorem dX6_hasRead_17 : decode cX6_hasRead 17 = .ok (.if_icmp .eq 13, 3) := by decide +kernel
theorem dX6_hasRead_20 : decode cX6_hasRead 20 = .ok (.aload_n 0, 1) := by decide +kernel
theorem dX6_hasRead_21 : decode cX6_hasRead 21 = .ok (.getfield 15, 3) := by decide +kernel
theorem dX6_hasRead_24 : decode cX6_hasRead 24 = .ok (.iconst 0, 1) := by decide +kernel
theorem dX6_hasRead_25 : decode cX6_hasRead 25 = .ok (.iaload, 1) := by decide +kernel
theorem dX6_hasRead_26 : decode cX6_hasRead 26 = .ok (.iload_n 1, 1) := by decide +kernel
theorem dX6_hasRead_27 : decode cX6_hasRead 27 = .ok (.if_icmp .ne 7, 3) := by decide +kernel
theorem dX6_hasRead_30 : decode cX6_hasRead 30 = .ok (.iconst 1, 1) := by decide +kernel
theorem dX6_hasRead_31 : decode cX6_hasRead 31 = .ok (.goto 4, 3) := by decide +kernel
theorem dX6_hasRead_34 : decode cX6_hasRead 34 = .ok (.iconst 0, 1) := by decide +kernel
theorem dX6_hasRead_35 : decode cX6_hasRead 35 = .ok (.ireturn, 1) := by decide +kernel
theorem dX6_answer_0 : decode cX6_answer 0 = .ok (.aload_n 0, 1) := by decide +kernel
theorem dX6_answer_1 : decode cX6_answer 1 = .ok (.getfield 9, 3) := by decide +kernel
theorem dX6_answer_4 : decode cX6_answer 4 = .ok (.iconst 3, 1) := by decide +kernel
theorem dX6_answer_5 : decode cX6_answer 5 = .ok (.if_icmp .ne 13, 3) := by decide +kernel
theorem dX6_answer_8 : decode cX6_answer 8 = .ok (.bipush (-2), 2) := by decide +kernel
theorem dX6_answer_10 : decode cX6_answer 10 = .ok (.aload_n 0, 1) := by decide +kernel
theorem dX6_answer_11 : decode cX6_answer 11 = .ok (.getfield 50, 3) := by decide +kernel
theorem dX6_answer_14 : decode cX6_answer 14 = .ok (.isub, 1) := by decide +kernel
theorem dX6_answer_15 : decode cX6_answer 15 = .ok (.goto 7, 3) := by decide +kernel
theorem dX6_answer_18 : decode cX6_answer 18 = .ok (.aload_n 0, 1) := by decide +kernel
theorem dX6_answer_19 : decode cX6_answer 19 = .ok (.getfield 50, 3) := by decide +kernel
theorem dX6_answer_22 : decode cX6_answer 22 = .ok (.ireturn, 1) := by decide +kernel
theorem dX7_init_0 : decode cX7_init 0 = .ok (.aload_n 0, 1) := by decide +kernel
theorem dX7_init_1 : decode cX7_init 1 = .ok (.invokespecial 3, 3) := by decide +kernel
theorem dX7_init_4 : decode cX7_init 4 = .ok (.aload_n 0, 1) := by decide +kernel
theorem dX7_init_5 : decode cX7_init 5 = .ok (.iconst 3, 1) := by decide +kernel
theorem dX7_init_6 : decode cX7_init 6 = .ok (.newarray .int, 2) := by decide +kernel
theorem dX7_init_8 : decode cX7_init 8 = .ok (.putfield 9, 3) := by decide +kernel
theorem dX7_init_11 : decode cX7_init 11 = .ok (.aload_n 0, 1) := by decide +kernel
theorem dX7_init_12 : decode cX7_init 12 = .ok (.iconst 3, 1) := by decide +kernel
theorem dX7_init_13 : decode cX7_init 13 = .ok (.newarray .int, 2) := by decide +kernel
theorem dX7_init_15 : decode cX7_init 15 = .ok (.putfield 15, 3) := by decide +kernel
theorem dX7_init_18 : decode cX7_init 18 = .ok (.return_, 1) := by decide +kernel
theorem dX7_reset_0 : decode cX7_reset 0 = .ok (.aload_n 0, 1) := by decide +kernel
theorem dX7_reset_1 : decode cX7_reset 1 = .ok (.getfield 9, 3) := by decide +kernel
theorem dX7_reset_4 : decode cX7_reset 4 = .ok (.iconst (-1), 1) := by decide +kernel
theorem dX7_reset_5 : decode cX7_reset 5 = .ok (.invokestatic 18, 3) := by decide +kernel
theorem dX7_reset_8 : decode cX7_reset 8 = .ok (.aload_n 0, 1) := by decide +kernel
theorem dX7_reset_9 : decode cX7_reset 9 = .ok (.iconst 0, 1) := by decide +kernel
theorem dX7_reset_10 : decode cX7_reset 10 = .ok (.putfield 24, 3) := by decide +kernel
theorem dX7_reset_13 : decode cX7_reset 13 = .ok (.return_, 1) := by decide +kernel
theorem dX7_end_0 : decode cX7_end 0 = .ok (.aload_n 0, 1) := by decide +kernel
theorem dX7_end_1 : decode cX7_end 1 = .ok (.iload_n 1, 1) := by decide +kernel
theorem dX7_end_2 : decode cX7_end 2 = .ok (.putfield 28, 3) := by decide +kernel
theorem dX7_end_5 : decode cX7_end 5 = .ok (.aload_n 0, 1) := by decide +kernel
theorem dX7_end_6 : decode cX7_end 6 = .ok (.iload_n 2, 1) := by decide +kernel
theorem dX7_end_7 : decode cX7_end 7 = .ok (.putfield 31, 3) := by decide +kernel
theorem dX7_end_10 : decode cX7_end 10 = .ok (.aload_n 0, 1) := by decide +kernel
theorem dX7_end_11 : decode cX7_end 11 = .ok (.iload_n 3, 1) := by decide +kernel
theorem dX7_end_12 : decode cX7_end 12 = .ok (.putfield 34, 3) := by decide +kernel
theorem dX7_end_15 : decode cX7_end 15 = .ok (.return_, 1) := by decide +kernel
theorem dX7_frameAt_0 : decode cX7_frameAt 0 = .ok (.aload_n 0, 1) := by decide +kernel
theorem dX7_frameAt_1 : decode cX7_frameAt 1 = .ok (.getfield 31, 3) := by decide +kernel
theorem dX7_frameAt_4 : decode cX7_frameAt 4 = .ok (.iload_n 1, 1) := by decide +kernel
theorem dX7_frameAt_5 : decode cX7_frameAt 5 = .ok (.aload_n 0, 1) := by decide +kernel
theorem dX7_frameAt_6 : decode cX7_frameAt 6 = .ok (.getfield 28, 3) := by decide +kernel
theorem dX7_frameAt_9 : decode cX7_frameAt 9 = .ok (.invokestatic 37, 3) := by decide +kernel
theorem dX7_frameAt_12 : decode cX7_frameAt 12 = .ok (.iadd, 1) := by decide +kernel
theorem dX7_frameAt_13 : decode cX7_frameAt 13 = .ok (.ireturn, 1) := by decide +kernel
theorem dX7_comesBy_0 : decode cX7_comesBy 0 = .ok (.aload_n 0, 1) := by decide +kernel
theorem dX7_comesBy_1 : decode cX7_comesBy 1 = .ok (.getfield 9, 3) := by decide +kernel
theorem dX7_comesBy_4 : decode cX7_comesBy 4 = .ok (.iconst 2, 1) := by decide +kernel
theorem dX7_comesBy_5 : decode cX7_comesBy 5 = .ok (.iaload, 1) := by decide +kernel
theorem dX7_comesBy_6 : decode cX7_comesBy 6 = .ok (.iload_n 1, 1) := by decide +kernel
theorem dX7_comesBy_7 : decode cX7_comesBy 7 = .ok (.if_icmp .eq 23, 3) := by decide +kernel
theorem dX7_comesBy_10 : decode cX7_comesBy 10 = .ok (.aload_n 0, 1) := by decide +kernel
theorem dX7_comesBy_11 : decode cX7_comesBy 11 = .ok (.getfield 9, 3) := by decide +kernel
theorem dX7_comesBy_14 : decode cX7_comesBy 14 = .ok (.iconst 1, 1) := by decide +kernel
theorem dX7_comesBy_15 : decode cX7_comesBy 15 = .ok (.iaload, 1) := by decide +kernel
theorem dX7_comesBy_16 : decode cX7_comesBy 16 = .ok (.iload_n 1, 1) := by decide +kernel
theorem dX7_comesBy_17 : decode cX7_comesBy 17 = .ok (.if_icmp .eq 13, 3) := by decide +kernel
theorem dX7_comesBy_20 : decode cX7_comesBy 20 = .ok (.aload_n 0, 1) := by decide +kernel
theorem dX7_comesBy_21 : decode cX7_comesBy 21 = .ok (.getfield 9, 3) := by decide +kernel
theorem dX7_comesBy_24 : decode cX7_comesBy 24 = .ok (.iconst 0, 1) := by decide +kernel
theorem dX7_comesBy_25 : decode cX7_comesBy 25 = .ok (.iaload, 1) := by decide +kernel
theorem dX7_comesBy_26 : decode cX7_comesBy 26 = .ok (.iload_n 1, 1) := by decide +kernel
theorem dX7_comesBy_27 : decode cX7_comesBy 27 = .ok (.if_icmp .ne 7, 3) := by decide +kernel
theorem dX7_comesBy_30 : decode cX7_comesBy 30 = .ok (.iconst 1, 1) := by decide +kernel
theorem dX7_comesBy_31 : decode cX7_comesBy 31 = .ok (.goto 4, 3) := by decide +kernel
theorem dX7_comesBy_34 : decode cX7_comesBy 34 = .ok (.iconst 0, 1) := by decide +kernel
theorem dX7_comesBy_35 : decode cX7_comesBy 35 = .ok (.ireturn, 1) := by decide +kernel
theorem dX8_init_0 : decode cX8_init 0 = .ok (.aload_n 0, 1) := by decide +kernel
theorem dX8_init_1 : decode cX8_init 1 = .ok (.invokespecial 3, 3) := by decide +kernel
theorem dX8_init_4 : decode cX8_init 4 = .ok (.aload_n 0, 1) := by decide +kernel
theorem dX8_init_5 : decode cX8_init 5 = .ok (.bipush 96, 2) := by decide +kernel
theorem dX8_init_7 : decode cX8_init 7 = .ok (.newarray .int, 2) := by decide +kernel
theorem dX8_init_9 : decode cX8_init 9 = .ok (.putfield 9, 3) := by decide +kernel
theorem dX8_init_12 : decode cX8_init 12 = .ok (.aload_n 0, 1) := by decide +kernel
theorem dX8_init_13 : decode cX8_init 13 = .ok (.bipush 96, 2) := by decide +kernel
theorem dX8_init_15 : decode cX8_init 15 = .ok (.newarray .int, 2) := by decide +kernel
theorem dX8_init_17 : decode cX8_init 17 = .ok (.putfield 13, 3) := by decide +kernel
theorem dX8_init_20 : decode cX8_init 20 = .ok (.aload_n 0, 1) := by decide +kernel
theorem dX8_init_21 : decode cX8_init 21 = .ok (.new 16, 3) := by decide +kernel
theorem dX8_init_24 : decode cX8_init 24 = .ok (.dup, 1) := by decide +kernel
theorem dX8_init_25 : decode cX8_init 25 = .ok (.invokespecial 18, 3) := by decide +kernel
theorem dX8_init_28 : decode cX8_init 28 = .ok (.putfield 19, 3) := by decide +kernel
theorem dX8_init_31 : decode cX8_init 31 = .ok (.aload_n 0, 1) := by decide +kernel
theorem dX8_init_32 : decode cX8_init 32 = .ok (.new 23, 3) := by decide +kernel
theorem dX8_init_35 : decode cX8_init 35 = .ok (.dup, 1) := by decide +kernel
theorem dX8_init_36 : decode cX8_init 36 = .ok (.invokespecial 25, 3) := by decide +kernel
theorem dX8_init_39 : decode cX8_init 39 = .ok (.putfield 26, 3) := by decide +kernel
theorem dX8_init_42 : decode cX8_init 42 = .ok (.aload_n 0, 1) := by decide +kernel
theorem dX8_init_43 : decode cX8_init 43 = .ok (.new 23, 3) := by decide +kernel
theorem dX8_init_46 : decode cX8_init 46 = .ok (.dup, 1) := by decide +kernel
theorem dX8_init_47 : decode cX8_init 47 = .ok (.invokespecial 25, 3) := by decide +kernel
theorem dX8_init_50 : decode cX8_init 50 = .ok (.putfield 30, 3) := by decide +kernel
theorem dX8_init_53 : decode cX8_init 53 = .ok (.aload_n 0, 1) := by decide +kernel
theorem dX8_init_54 : decode cX8_init 54 = .ok (.iconst 4, 1) := by decide +kernel
theorem dX8_init_55 : decode cX8_init 55 = .ok (.anewarray 33, 3) := by decide +kernel
theorem dX8_init_58 : decode cX8_init 58 = .ok (.putfield 35, 3) := by decide +kernel
theorem dX8_init_61 : decode cX8_init 61 = .ok (.aload_n 0, 1) := by decide +kernel
theorem dX8_init_62 : decode cX8_init 62 = .ok (.new 33, 3) := by decide +kernel
theorem dX8_init_65 : decode cX8_init 65 = .ok (.dup, 1) := by decide +kernel
theorem dX8_init_66 : decode cX8_init 66 = .ok (.invokespecial 39, 3) := by decide +kernel
theorem dX8_init_69 : decode cX8_init 69 = .ok (.putfield 40, 3) := by decide +kernel
theorem dX8_init_72 : decode cX8_init 72 = .ok (.aload_n 0, 1) := by decide +kernel
theorem dX8_init_73 : decode cX8_init 73 = .ok (.new 44, 3) := by decide +kernel
theorem dX8_init_76 : decode cX8_init 76 = .ok (.dup, 1) := by decide +kernel
theorem dX8_init_77 : decode cX8_init 77 = .ok (.invokespecial 46, 3) := by decide +kernel
theorem dX8_init_80 : decode cX8_init 80 = .ok (.putfield 47, 3) := by decide +kernel
theorem dX8_init_83 : decode cX8_init 83 = .ok (.aload_n 0, 1) := by decide +kernel
theorem dX8_init_84 : decode cX8_init 84 = .ok (.new 51, 3) := by decide +kernel
theorem dX8_init_87 : decode cX8_init 87 = .ok (.dup, 1) := by decide +kernel
theorem dX8_init_88 : decode cX8_init 88 = .ok (.invokespecial 53, 3) := by decide +kernel
theorem dX8_init_91 : decode cX8_init 91 = .ok (.putfield 54, 3) := by decide +kernel
theorem dX8_init_94 : decode cX8_init 94 = .ok (.aload_n 0, 1) := by decide +kernel
theorem dX8_init_95 : decode cX8_init 95 = .ok (.new 58, 3) := by decide +kernel
theorem dX8_init_98 : decode cX8_init 98 = .ok (.dup, 1) := by decide +kernel
theorem dX8_init_99 : decode cX8_init 99 = .ok (.invokespecial 60, 3) := by decide +kernel
theorem dX8_init_102 : decode cX8_init 102 = .ok (.putfield 61, 3) := by decide +kernel
theorem dX8_init_105 : decode cX8_init 105 = .ok (.aload_n 0, 1) := by decide +kernel
theorem dX8_init_106 : decode cX8_init 106 = .ok (.new 65, 3) := by decide +kernel
theorem dX8_init_109 : decode cX8_init 109 = .ok (.dup, 1) := by decide +kernel
theorem dX8_init_110 : decode cX8_init 110 = .ok (.invokespecial 67, 3) := by decide +kernel
theorem dX8_init_113 : decode cX8_init 113 = .ok (.putfield 68, 3) := by decide +kernel
theorem dX8_init_116 : decode cX8_init 116 = .ok (.iconst 0, 1) := by decide +kernel
theorem dX8_init_117 : decode cX8_init 117 = .ok (.istore_n 1, 1) := by decide +kernel
theorem dX8_init_118 : decode cX8_init 118 = .ok (.iload_n 1, 1) := by decide +kernel
theorem dX8_init_119 : decode cX8_init 119 = .ok (.iconst 4, 1) := by decide +kernel
theorem dX8_init_120 : decode cX8_init 120 = .ok (.if_icmp .ge 22, 3) := by decide +kernel
theorem dX8_init_123 : decode cX8_init 123 = .ok (.aload_n 0, 1) := by decide +kernel
theorem dX8_init_124 : decode cX8_init 124 = .ok (.getfield 35, 3) := by decide +kernel
theorem dX8_init_127 : decode cX8_init 127 = .ok (.iload_n 1, 1) := by decide +kernel
theorem dX8_init_128 : decode cX8_init 128 = .ok (.new 33, 3) := by decide +kernel
theorem dX8_init_131 : decode cX8_init 131 = .ok (.dup, 1) := by decide +kernel
theorem dX8_init_132 : decode cX8_init 132 = .ok (.invokespecial 39, 3) := by decide +kernel
theorem dX8_init_135 : decode cX8_init 135 = .ok (.aastore, 1) := by decide +kernel
theorem dX8_init_136 : decode cX8_init 136 = .ok (.iinc 1 1, 3) := by decide +kernel
theorem dX8_init_139 : decode cX8_init 139 = .ok (.goto (-21), 3) := by decide +kernel
theorem dX8_init_142 : decode cX8_init 142 = .ok (.return_, 1) := by decide +kernel
theorem dX8_entry_0 : decode cX8_entry 0 = .ok (.iload_n 1, 1) := by decide +kernel
theorem dX8_entry_1 : decode cX8_entry 1 = .ok (.iload_n 2, 1) := by decide +kernel
theorem dX8_entry_2 : decode cX8_entry 2 = .ok (.invokestatic 72, 3) := by decide +kernel
theorem dX8_entry_5 : decode cX8_entry 5 = .ok (.ifCond .eq 14, 3) := by decide +kernel
theorem dX8_entry_8 : decode cX8_entry 8 = .ok (.iload_n 3, 1) := by decide +kernel
theorem dX8_entry_9 : decode cX8_entry 9 = .ok (.iload 4, 2) := by decide +kernel
theorem dX8_entry_11 : decode cX8_entry 11 = .ok (.iload 5, 2) := by decide +kernel
theorem dX8_entry_13 : decode cX8_entry 13 = .ok (.invokestatic 76, 3) := by decide +kernel
theorem dX8_entry_16 : decode cX8_entry 16 = .ok (.ifCond .ne 5, 3) := by decide +kernel
theorem dX8_entry_19 : decode cX8_entry 19 = .ok (.iconst (-1), 1) := by decide +kernel
theorem dX8_entry_20 : decode cX8_entry 20 = .ok (.ireturn, 1) := by decide +kernel
theorem dX8_entry_21 : decode cX8_entry 21 = .ok (.iload_n 1, 1) := by decide +kernel
theorem dX8_entry_22 : decode cX8_entry 22 = .ok (.iload_n 2, 1) := by decide +kernel
theorem dX8_entry_23 : decode cX8_entry 23 = .ok (.invokestatic 80, 3) := by decide +kernel
theorem dX8_entry_26 : decode cX8_entry 26 = .ok (.istore 6, 2) := by decide +kernel
theorem dX8_entry_28 : decode cX8_entry 28 = .ok (.aload_n 0, 1) := by decide +kernel
theorem dX8_entry_29 : decode cX8_entry 29 = .ok (.getfield 9, 3) := by decide +kernel
theorem dX8_entry_32 : decode cX8_entry 32 = .ok (.iload 6, 2) := by decide +kernel
theorem dX8_entry_34 : decode cX8_entry 34 = .ok (.iaload, 1) := by decide +kernel
theorem dX8_entry_35 : decode cX8_entry 35 = .ok (.istore 7, 2) := by decide +kernel
theorem dX8_entry_37 : decode cX8_entry 37 = .ok (.iload_n 3, 1) := by decide +kernel
theorem dX8_entry_38 : decode cX8_entry 38 = .ok (.ifCond .ne 7, 3) := by decide +kernel
theorem dX8_entry_41 : decode cX8_entry 41 = .ok (.iconst 0, 1) := by decide +kernel
theorem dX8_entry_42 : decode cX8_entry 42 = .ok (.goto 11, 3) := by decide +kernel
theorem dX8_entry_45 : decode cX8_entry 45 = .ok (.iload_n 3, 1) := by decide +kernel
theorem dX8_entry_46 : decode cX8_entry 46 = .ok (.iload 4, 2) := by decide +kernel
theorem dX8_entry_48 : decode cX8_entry 48 = .ok (.iload 5, 2) := by decide +kernel
theorem dX8_entry_50 : decode cX8_entry 50 = .ok (.invokestatic 84, 3) := by decide +kernel
theorem dX8_entry_53 : decode cX8_entry 53 = .ok (.istore 8, 2) := by decide +kernel
theorem dX8_entry_55 : decode cX8_entry 55 = .ok (.iload 7, 2) := by decide +kernel
theorem dX8_entry_57 : decode cX8_entry 57 = .ok (.iload 8, 2) := by decide +kernel
theorem dX8_entry_59 : decode cX8_entry 59 = .ok (.if_icmp .eq 31, 3) := by decide +kernel
theorem dX8_entry_62 : decode cX8_entry 62 = .ok (.aload_n 0, 1) := by decide +kernel
theorem dX8_entry_63 : decode cX8_entry 63 = .ok (.getfield 54, 3) := by decide +kernel
theorem dX8_entry_66 : decode cX8_entry 66 = .ok (.iload 6, 2) := by decide +kernel
theorem dX8_entry_68 : decode cX8_entry 68 = .ok (.iload 7, 2) := by decide +kernel
theorem dX8_entry_70 : decode cX8_entry 70 = .ok (.invokevirtual 88, 3) := by decide +kernel
theorem dX8_entry_73 : decode cX8_entry 73 = .ok (.aload_n 0, 1) := by decide +kernel
theorem dX8_entry_74 : decode cX8_entry 74 = .ok (.getfield 9, 3) := by decide +kernel
theorem dX8_entry_77 : decode cX8_entry 77 = .ok (.iload 6, 2) := by decide +kernel
theorem dX8_entry_79 : decode cX8_entry 79 = .ok (.iload 8, 2) := by decide +kernel
theorem dX8_entry_81 : decode cX8_entry 81 = .ok (.iastore, 1) := by decide +kernel
theorem dX8_entry_82 : decode cX8_entry 82 = .ok (.aload_n 0, 1) := by decide +kernel
theorem dX8_entry_83 : decode cX8_entry 83 = .ok (.getfield 13, 3) := by decide +kernel
theorem dX8_entry_86 : decode cX8_entry 86 = .ok (.iload 6, 2) := by decide +kernel
theorem dX8_entry_88 : decode cX8_entry 88 = .ok (.iconst 0, 1) := by decide +kernel
theorem dX8_entry_89 : decode cX8_entry 89 = .ok (.iastore, 1) := by decide +kernel
theorem dX8_entry_90 : decode cX8_entry 90 = .ok (.iload 7, 2) := by decide +kernel
theorem dX8_entry_92 : decode cX8_entry 92 = .ok (.invokestatic 92, 3) := by decide +kernel
theorem dX8_entry_95 : decode cX8_entry 95 = .ok (.ireturn, 1) := by decide +kernel
theorem dX8_marks_0 : decode cX8_marks 0 = .ok (.iload_n 1, 1) := by decide +kernel
theorem dX8_marks_1 : decode cX8_marks 1 = .ok (.iload_n 2, 1) := by decide +kernel
theorem dX8_marks_2 : decode cX8_marks 2 = .ok (.invokestatic 72, 3) := by decide +kernel
theorem dX8_marks_5 : decode cX8_marks 5 = .ok (.ifCond .eq 12, 3) := by decide +kernel
theorem dX8_marks_8 : decode cX8_marks 8 = .ok (.iload_n 3, 1) := by decide +kernel
theorem dX8_marks_9 : decode cX8_marks 9 = .ok (.ifCond .lt 8, 3) := by decide +kernel
theorem dX8_marks_12 : decode cX8_marks 12 = .ok (.iload_n 3, 1) := by decide +kernel
theorem dX8_marks_13 : decode cX8_marks 13 = .ok (.iconst 3, 1) := by decide +kernel
theorem dX8_marks_14 : decode cX8_marks 14 = .ok (.if_icmp .le 5, 3) := by decide +kernel
theorem dX8_marks_17 : decode cX8_marks 17 = .ok (.iconst (-1), 1) := by decide +kernel
theorem dX8_marks_18 : decode cX8_marks 18 = .ok (.ireturn, 1) := by decide +kernel
theorem dX8_marks_19 : decode cX8_marks 19 = .ok (.iload_n 1, 1) := by decide +kernel
theorem dX8_marks_20 : decode cX8_marks 20 = .ok (.iload_n 2, 1) := by decide +kernel
theorem dX8_marks_21 : decode cX8_marks 21 = .ok (.invokestatic 80, 3) := by decide +kernel
theorem dX8_marks_24 : decode cX8_marks 24 = .ok (.istore 4, 2) := by decide +kernel
theorem dX8_marks_26 : decode cX8_marks 26 = .ok (.aload_n 0, 1) := by decide +kernel
theorem dX8_marks_27 : decode cX8_marks 27 = .ok (.getfield 9, 3) := by decide +kernel
theorem dX8_marks_30 : decode cX8_marks 30 = .ok (.iload 4, 2) := by decide +kernel
theorem dX8_marks_32 : decode cX8_marks 32 = .ok (.iaload, 1) := by decide +kernel
theorem dX8_marks_33 : decode cX8_marks 33 = .ok (.invokestatic 92, 3) := by decide +kernel
theorem dX8_marks_36 : decode cX8_marks 36 = .ok (.ifCond .ne 5, 3) := by decide +kernel
theorem dX8_marks_39 : decode cX8_marks 39 = .ok (.iconst (-1), 1) := by decide +kernel
theorem dX8_marks_40 : decode cX8_marks 40 = .ok (.ireturn, 1) := by decide +kernel
theorem dX8_marks_41 : decode cX8_marks 41 = .ok (.aload_n 0, 1) := by decide +kernel
theorem dX8_marks_42 : decode cX8_marks 42 = .ok (.getfield 13, 3) := by decide +kernel
theorem dX8_marks_45 : decode cX8_marks 45 = .ok (.iload 4, 2) := by decide +kernel
theorem dX8_marks_47 : decode cX8_marks 47 = .ok (.iaload, 1) := by decide +kernel
theorem dX8_marks_48 : decode cX8_marks 48 = .ok (.istore 5, 2) := by decide +kernel
theorem dX8_marks_50 : decode cX8_marks 50 = .ok (.aload_n 0, 1) := by decide +kernel
theorem dX8_marks_51 : decode cX8_marks 51 = .ok (.getfield 13, 3) := by decide +kernel
theorem dX8_marks_54 : decode cX8_marks 54 = .ok (.iload 4, 2) := by decide +kernel
theorem dX8_marks_56 : decode cX8_marks 56 = .ok (.iload_n 3, 1) := by decide +kernel
theorem dX8_marks_57 : decode cX8_marks 57 = .ok (.iastore, 1) := by decide +kernel
theorem dX8_marks_58 : decode cX8_marks 58 = .ok (.iload 5, 2) := by decide +kernel
theorem dX8_marks_60 : decode cX8_marks 60 = .ok (.ireturn, 1) := by decide +kernel
theorem dX8_root_0 : decode cX8_root 0 = .ok (.iload_n 1, 1) := by decide +kernel
theorem dX8_root_1 : decode cX8_root 1 = .ok (.invokestatic 96, 3) := by decide +kernel
theorem dX8_root_4 : decode cX8_root 4 = .ok (.ifCond .eq 14, 3) := by decide +kernel
theorem dX8_root_7 : decode cX8_root 7 = .ok (.iload_n 2, 1) := by decide +kernel
theorem dX8_root_8 : decode cX8_root 8 = .ok (.iconst (-1), 1) := by decide +kernel
theorem dX8_root_9 : decode cX8_root 9 = .ok (.if_icmp .lt 9, 3) := by decide +kernel
theorem dX8_root_12 : decode cX8_root 12 = .ok (.iload_n 2, 1) := by decide +kernel
theorem dX8_root_13 : decode cX8_root 13 = .ok (.bipush 12, 2) := by decide +kernel
theorem dX8_root_15 : decode cX8_root 15 = .ok (.if_icmp .lt 6, 3) := by decide +kernel
theorem dX8_root_18 : decode cX8_root 18 = .ok (.bipush (-2), 2) := by decide +kernel
theorem dX8_root_20 : decode cX8_root 20 = .ok (.ireturn, 1) := by decide +kernel
theorem dX8_root_21 : decode cX8_root 21 = .ok (.aload_n 0, 1) := by decide +kernel
theorem dX8_root_22 : decode cX8_root 22 = .ok (.getfield 19, 3) := by decide +kernel
theorem dX8_root_25 : decode cX8_root 25 = .ok (.getfield 100, 3) := by decide +kernel
theorem dX8_root_28 : decode cX8_root 28 = .ok (.iload_n 1, 1) := by decide +kernel
theorem dX8_root_29 : decode cX8_root 29 = .ok (.iaload, 1) := by decide +kernel
theorem dX8_root_30 : decode cX8_root 30 = .ok (.istore_n 3, 1) := by decide +kernel
theorem dX8_root_31 : decode cX8_root 31 = .ok (.iload_n 3, 1) := by decide +kernel
theorem dX8_root_32 : decode cX8_root 32 = .ok (.iload_n 2, 1) := by decide +kernel
theorem dX8_root_33 : decode cX8_root 33 = .ok (.if_icmp .eq 25, 3) := by decide +kernel
theorem dX8_root_36 : decode cX8_root 36 = .ok (.aload_n 0, 1) := by decide +kernel
theorem dX8_root_37 : decode cX8_root 37 = .ok (.getfield 54, 3) := by decide +kernel
theorem dX8_root_40 : decode cX8_root 40 = .ok (.iload_n 1, 1) := by decide +kernel
theorem dX8_root_41 : decode cX8_root 41 = .ok (.invokestatic 103, 3) := by decide +kernel
theorem dX8_root_44 : decode cX8_root 44 = .ok (.iload_n 3, 1) := by decide +kernel
theorem dX8_root_45 : decode cX8_root 45 = .ok (.invokevirtual 88, 3) := by decide +kernel
theorem dX8_root_48 : decode cX8_root 48 = .ok (.aload_n 0, 1) := by decide +kernel
theorem dX8_root_49 : decode cX8_root 49 = .ok (.getfield 19, 3) := by decide +kernel
theorem dX8_root_52 : decode cX8_root 52 = .ok (.getfield 100, 3) := by decide +kernel
theorem dX8_root_55 : decode cX8_root 55 = .ok (.iload_n 1, 1) := by decide +kernel
theorem dX8_root_56 : decode cX8_root 56 = .ok (.iload_n 2, 1) := by decide +kernel
theorem dX8_root_57 : decode cX8_root 57 = .ok (.iastore, 1) := by decide +kernel
theorem dX8_root_58 : decode cX8_root 58 = .ok (.iload_n 3, 1) := by decide +kernel
theorem dX8_root_59 : decode cX8_root 59 = .ok (.ireturn, 1) := by decide +kernel
theorem dX8_current_0 : decode cX8_current 0 = .ok (.iload_n 1, 1) := by decide +kernel
theorem dX8_current_1 : decode cX8_current 1 = .ok (.invokestatic 96, 3) := by decide +kernel
theorem dX8_current_4 : decode cX8_current 4 = .ok (.ifCond .eq 16, 3) := by decide +kernel
theorem dX8_current_7 : decode cX8_current 7 = .ok (.aload_n 0, 1) := by decide +kernel
theorem dX8_current_8 : decode cX8_current 8 = .ok (.getfield 19, 3) := by decide +kernel
theorem dX8_current_11 : decode cX8_current 11 = .ok (.getfield 100, 3) := by decide +kernel
theorem dX8_current_14 : decode cX8_current 14 = .ok (.iload_n 1, 1) := by decide +kernel
theorem dX8_current_15 : decode cX8_current 15 = .ok (.iaload, 1) := by decide +kernel
theorem dX8_current_16 : decode cX8_current 16 = .ok (.iconst (-1), 1) := by decide +kernel
theorem dX8_current_17 : decode cX8_current 17 = .ok (.if_icmp .ne 5, 3) := by decide +kernel
theorem dX8_current_20 : decode cX8_current 20 = .ok (.iconst (-1), 1) := by decide +kernel
theorem dX8_current_21 : decode cX8_current 21 = .ok (.ireturn, 1) := by decide +kernel
theorem dX8_current_22 : decode cX8_current 22 = .ok (.aload_n 0, 1) := by decide +kernel
theorem dX8_current_23 : decode cX8_current 23 = .ok (.getfield 19, 3) := by decide +kernel
theorem dX8_current_26 : decode cX8_current 26 = .ok (.iload_n 1, 1) := by decide +kernel
theorem dX8_current_27 : decode cX8_current 27 = .ok (.invokevirtual 106, 3) := by decide +kernel
theorem dX8_current_30 : decode cX8_current 30 = .ok (.aload_n 0, 1) := by decide +kernel
theorem dX8_current_31 : decode cX8_current 31 = .ok (.getfield 19, 3) := by decide +kernel
theorem dX8_current_34 : decode cX8_current 34 = .ok (.getfield 110, 3) := by decide +kernel
theorem dX8_current_37 : decode cX8_current 37 = .ok (.iload_n 1, 1) := by decide +kernel
theorem dX8_current_38 : decode cX8_current 38 = .ok (.iaload, 1) := by decide +kernel
theorem dX8_current_39 : decode cX8_current 39 = .ok (.iconst (-1), 1) := by decide +kernel
theorem dX8_current_40 : decode cX8_current 40 = .ok (.if_icmp .ne 39, 3) := by decide +kernel
theorem dX8_current_43 : decode cX8_current 43 = .ok (.aload_n 0, 1) := by decide +kernel
theorem dX8_current_44 : decode cX8_current 44 = .ok (.getfield 19, 3) := by decide +kernel
theorem dX8_current_47 : decode cX8_current 47 = .ok (.invokevirtual 113, 3) := by decide +kernel
theorem dX8_current_50 : decode cX8_current 50 = .ok (.istore_n 2, 1) := by decide +kernel
theorem dX8_current_51 : decode cX8_current 51 = .ok (.iload_n 2, 1) := by decide +kernel
theorem dX8_current_52 : decode cX8_current 52 = .ok (.iconst (-1), 1) := by decide +kernel
theorem dX8_current_53 : decode cX8_current 53 = .ok (.if_icmp .ne 16, 3) := by decide +kernel
theorem dX8_current_56 : decode cX8_current 56 = .ok (.aload_n 0, 1) := by decide +kernel
theorem dX8_current_57 : decode cX8_current 57 = .ok (.getfield 19, 3) := by decide +kernel
theorem dX8_current_60 : decode cX8_current 60 = .ok (.invokevirtual 117, 3) := by decide +kernel
theorem dX8_current_63 : decode cX8_current 63 = .ok (.istore_n 2, 1) := by decide +kernel
theorem dX8_current_64 : decode cX8_current 64 = .ok (.aload_n 0, 1) := by decide +kernel
theorem dX8_current_65 : decode cX8_current 65 = .ok (.iload_n 2, 1) := by decide +kernel
theorem dX8_current_66 : decode cX8_current 66 = .ok (.invokevirtual 120, 3) := by decide +kernel
theorem dX8_current_69 : decode cX8_current 69 = .ok (.aload_n 0, 1) := by decide +kernel
theorem dX8_current_70 : decode cX8_current 70 = .ok (.getfield 19, 3) := by decide +kernel
theorem dX8_current_73 : decode cX8_current 73 = .ok (.getfield 110, 3) := by decide +kernel
theorem dX8_current_76 : decode cX8_current 76 = .ok (.iload_n 1, 1) := by decide +kernel
theorem dX8_current_77 : decode cX8_current 77 = .ok (.iload_n 2, 1) := by decide +kernel
theorem dX8_current_78 : decode cX8_current 78 = .ok (.iastore, 1) := by decide +kernel
theorem dX8_current_79 : decode cX8_current 79 = .ok (.aload_n 0, 1) := by decide +kernel
theorem dX8_current_80 : decode cX8_current 80 = .ok (.getfield 19, 3) := by decide +kernel
theorem dX8_current_83 : decode cX8_current 83 = .ok (.getfield 110, 3) := by decide +kernel
theorem dX8_current_86 : decode cX8_current 86 = .ok (.iload_n 1, 1) := by decide +kernel
theorem dX8_current_87 : decode cX8_current 87 = .ok (.iaload, 1) := by decide +kernel
theorem dX8_current_88 : decode cX8_current 88 = .ok (.ireturn, 1) := by decide +kernel
theorem dX8_access_0 : decode cX8_access 0 = .ok (.aload_n 0, 1) := by decide +kernel
theorem dX8_access_1 : decode cX8_access 1 = .ok (.iload_n 1, 1) := by decide +kernel
theorem dX8_access_2 : decode cX8_access 2 = .ok (.iload_n 2, 1) := by decide +kernel
theorem dX8_access_3 : decode cX8_access 3 = .ok (.invokevirtual 123, 3) := by decide +kernel
theorem dX8_access_6 : decode cX8_access 6 = .ok (.ifCond .ne 5, 3) := by decide +kernel
theorem dX8_access_9 : decode cX8_access 9 = .ok (.iconst (-1), 1) := by decide +kernel
theorem dX8_access_10 : decode cX8_access 10 = .ok (.ireturn, 1) := by decide +kernel
theorem dX8_access_11 : decode cX8_access 11 = .ok (.aload_n 0, 1) := by decide +kernel
theorem dX8_access_12 : decode cX8_access 12 = .ok (.dup, 1) := by decide +kernel
theorem dX8_access_13 : decode cX8_access 13 = .ok (.getfield 126, 3) := by decide +kernel
theorem dX8_access_16 : decode cX8_access 16 = .ok (.iconst 1, 1) := by decide +kernel
theorem dX8_access_17 : decode cX8_access 17 = .ok (.iadd, 1) := by decide +kernel
theorem dX8_access_18 : decode cX8_access 18 = .ok (.putfield 126, 3) := by decide +kernel
theorem dX8_access_21 : decode cX8_access 21 = .ok (.aload_n 0, 1) := by decide +kernel
theorem dX8_access_22 : decode cX8_access 22 = .ok (.iload_n 1, 1) := by decide +kernel
theorem dX8_access_23 : decode cX8_access 23 = .ok (.iload_n 2, 1) := by decide +kernel
theorem dX8_access_24 : decode cX8_access 24 = .ok (.invokevirtual 130, 3) := by decide +kernel
theorem dX8_access_27 : decode cX8_access 27 = .ok (.astore_n 3, 1) := by decide +kernel
theorem dX8_access_28 : decode cX8_access 28 = .ok (.aload_n 0, 1) := by decide +kernel
theorem dX8_access_29 : decode cX8_access 29 = .ok (.iload_n 1, 1) := by decide +kernel
theorem dX8_access_30 : decode cX8_access 30 = .ok (.aload_n 3, 1) := by decide +kernel
theorem dX8_access_31 : decode cX8_access 31 = .ok (.invokevirtual 134, 3) := by decide +kernel
theorem dX8_access_34 : decode cX8_access 34 = .ok (.aload_n 3, 1) := by decide +kernel
theorem dX8_access_35 : decode cX8_access 35 = .ok (.ifnull 27, 3) := by decide +kernel
theorem dX8_access_38 : decode cX8_access 38 = .ok (.aload_n 0, 1) := by decide +kernel
theorem dX8_access_39 : decode cX8_access 39 = .ok (.dup, 1) := by decide +kernel
theorem dX8_access_40 : decode cX8_access 40 = .ok (.getfield 138, 3) := by decide +kernel
theorem dX8_access_43 : decode cX8_access 43 = .ok (.iconst 1, 1) := by decide +kernel
theorem dX8_access_44 : decode cX8_access 44 = .ok (.iadd, 1) := by decide +kernel
theorem dX8_access_45 : decode cX8_access 45 = .ok (.putfield 138, 3) := by decide +kernel
theorem dX8_access_48 : decode cX8_access 48 = .ok (.aload_n 0, 1) := by decide +kernel
theorem dX8_access_49 : decode cX8_access 49 = .ok (.getfield 26, 3) := by decide +kernel
theorem dX8_access_52 : decode cX8_access 52 = .ok (.aload_n 3, 1) := by decide +kernel
theorem dX8_access_53 : decode cX8_access 53 = .ok (.invokevirtual 141, 3) := by decide +kernel
theorem dX8_access_56 : decode cX8_access 56 = .ok (.aload_n 3, 1) := by decide +kernel
theorem dX8_access_57 : decode cX8_access 57 = .ok (.iload_n 1, 1) := by decide +kernel
theorem dX8_access_58 : decode cX8_access 58 = .ok (.invokevirtual 145, 3) := by decide +kernel
theorem dX8_access_61 : decode cX8_access 61 = .ok (.ireturn, 1) := by decide +kernel
theorem dX8_access_62 : decode cX8_access 62 = .ok (.aload_n 0, 1) := by decide +kernel
theorem dX8_access_63 : decode cX8_access 63 = .ok (.aload_n 0, 1) := by decide +kernel
theorem dX8_access_64 : decode cX8_access 64 = .ok (.getfield 40, 3) := by decide +kernel
theorem dX8_access_67 : decode cX8_access 67 = .ok (.iload_n 1, 1) := by decide +kernel
theorem dX8_access_68 : decode cX8_access 68 = .ok (.iload_n 2, 1) := by decide +kernel
theorem dX8_access_69 : decode cX8_access 69 = .ok (.iconst 0, 1) := by decide +kernel
theorem dX8_access_70 : decode cX8_access 70 = .ok (.invokevirtual 150, 3) := by decide +kernel
theorem dX8_access_73 : decode cX8_access 73 = .ok (.aload_n 0, 1) := by decide +kernel
theorem dX8_access_74 : decode cX8_access 74 = .ok (.aload_n 0, 1) := by decide +kernel
theorem dX8_access_75 : decode cX8_access 75 = .ok (.getfield 40, 3) := by decide +kernel
theorem dX8_access_78 : decode cX8_access 78 = .ok (.iconst 1, 1) := by decide +kernel
theorem dX8_access_79 : decode cX8_access 79 = .ok (.invokevirtual 154, 3) := by decide +kernel
theorem dX8_access_82 : decode cX8_access 82 = .ok (.aload_n 0, 1) := by decide +kernel
theorem dX8_access_83 : decode cX8_access 83 = .ok (.dup, 1) := by decide +kernel
theorem dX8_access_84 : decode cX8_access 84 = .ok (.getfield 158, 3) := by decide +kernel
theorem dX8_access_87 : decode cX8_access 87 = .ok (.aload_n 0, 1) := by decide +kernel
theorem dX8_access_88 : decode cX8_access 88 = .ok (.getfield 40, 3) := by decide +kernel
theorem dX8_access_91 : decode cX8_access 91 = .ok (.getfield 161, 3) := by decide +kernel
theorem dX8_access_94 : decode cX8_access 94 = .ok (.iadd, 1) := by decide +kernel
theorem dX8_access_95 : decode cX8_access 95 = .ok (.putfield 158, 3) := by decide +kernel
theorem dX8_access_98 : decode cX8_access 98 = .ok (.aload_n 0, 1) := by decide +kernel
theorem dX8_access_99 : decode cX8_access 99 = .ok (.getfield 40, 3) := by decide +kernel
theorem dX8_access_102 : decode cX8_access 102 = .ok (.getfield 164, 3) := by decide +kernel
theorem dX8_access_105 : decode cX8_access 105 = .ok (.iconst 3, 1) := by decide +kernel
theorem dX8_access_106 : decode cX8_access 106 = .ok (.if_icmp .ne 13, 3) := by decide +kernel
theorem dX8_access_109 : decode cX8_access 109 = .ok (.aload_n 0, 1) := by decide +kernel
theorem dX8_access_110 : decode cX8_access 110 = .ok (.dup, 1) := by decide +kernel
theorem dX8_access_111 : decode cX8_access 111 = .ok (.getfield 167, 3) := by decide +kernel
theorem dX8_access_114 : decode cX8_access 114 = .ok (.iconst 1, 1) := by decide +kernel
theorem dX8_access_115 : decode cX8_access 115 = .ok (.iadd, 1) := by decide +kernel
theorem dX8_access_116 : decode cX8_access 116 = .ok (.putfield 167, 3) := by decide +kernel
theorem dX8_access_119 : decode cX8_access 119 = .ok (.aload_n 0, 1) := by decide +kernel
theorem dX8_access_120 : decode cX8_access 120 = .ok (.getfield 40, 3) := by decide +kernel
theorem dX8_access_123 : decode cX8_access 123 = .ok (.invokevirtual 170, 3) := by decide +kernel
theorem dX8_access_126 : decode cX8_access 126 = .ok (.ireturn, 1) := by decide +kernel
theorem dX8_would_0 : decode cX8_would 0 = .ok (.aload_n 0, 1) := by decide +kernel
theorem dX8_would_1 : decode cX8_would 1 = .ok (.iload_n 1, 1) := by decide +kernel
theorem dX8_would_2 : decode cX8_would 2 = .ok (.iload_n 2, 1) := by decide +kernel
theorem dX8_would_3 : decode cX8_would 3 = .ok (.invokevirtual 123, 3) := by decide +kernel
theorem dX8_would_6 : decode cX8_would 6 = .ok (.ifCond .ne 5, 3) := by decide +kernel
theorem dX8_would_9 : decode cX8_would 9 = .ok (.iconst (-1), 1) := by decide +kernel
theorem dX8_would_10 : decode cX8_would 10 = .ok (.ireturn, 1) := by decide +kernel
theorem dX8_would_11 : decode cX8_would 11 = .ok (.aload_n 0, 1) := by decide +kernel
theorem dX8_would_12 : decode cX8_would 12 = .ok (.iload_n 1, 1) := by decide +kernel
theorem dX8_would_13 : decode cX8_would 13 = .ok (.iload_n 2, 1) := by decide +kernel
theorem dX8_would_14 : decode cX8_would 14 = .ok (.invokevirtual 130, 3) := by decide +kernel
theorem dX8_would_17 : decode cX8_would 17 = .ok (.astore_n 3, 1) := by decide +kernel
theorem dX8_would_18 : decode cX8_would 18 = .ok (.aload_n 3, 1) := by decide +kernel
theorem dX8_would_19 : decode cX8_would 19 = .ok (.ifnull 9, 3) := by decide +kernel
theorem dX8_would_22 : decode cX8_would 22 = .ok (.aload_n 3, 1) := by decide +kernel
theorem dX8_would_23 : decode cX8_would 23 = .ok (.iload_n 1, 1) := by decide +kernel
theorem dX8_would_24 : decode cX8_would 24 = .ok (.invokevirtual 145, 3) := by decide +kernel
theorem dX8_would_27 : decode cX8_would 27 = .ok (.ireturn, 1) := by decide +kernel
theorem dX8_would_28 : decode cX8_would 28 = .ok (.aload_n 0, 1) := by decide +kernel
theorem dX8_would_29 : decode cX8_would 29 = .ok (.iload_n 1, 1) := by decide +kernel
theorem dX8_would_30 : decode cX8_would 30 = .ok (.iload_n 2, 1) := by decide +kernel
theorem dX8_would_31 : decode cX8_would 31 = .ok (.invokevirtual 173, 3) := by decide +kernel
theorem dX8_would_34 : decode cX8_would 34 = .ok (.aload_n 0, 1) := by decide +kernel
theorem dX8_would_35 : decode cX8_would 35 = .ok (.getfield 40, 3) := by decide +kernel
theorem dX8_would_38 : decode cX8_would 38 = .ok (.invokevirtual 170, 3) := by decide +kernel
theorem dX8_would_41 : decode cX8_would 41 = .ok (.ireturn, 1) := by decide +kernel
theorem dX8_steps_0 : decode cX8_steps 0 = .ok (.aload_n 0, 1) := by decide +kernel
theorem dX8_steps_1 : decode cX8_steps 1 = .ok (.iload_n 1, 1) := by decide +kernel
theorem dX8_steps_2 : decode cX8_steps 2 = .ok (.iload_n 2, 1) := by decide +kernel
theorem dX8_steps_3 : decode cX8_steps 3 = .ok (.invokevirtual 123, 3) := by decide +kernel
theorem dX8_steps_6 : decode cX8_steps 6 = .ok (.ifCond .ne 5, 3) := by decide +kernel
theorem dX8_steps_9 : decode cX8_steps 9 = .ok (.iconst (-1), 1) := by decide +kernel
theorem dX8_steps_10 : decode cX8_steps 10 = .ok (.ireturn, 1) := by decide +kernel
theorem dX8_steps_11 : decode cX8_steps 11 = .ok (.aload_n 0, 1) := by decide +kernel
theorem dX8_steps_12 : decode cX8_steps 12 = .ok (.iload_n 1, 1) := by decide +kernel
theorem dX8_steps_13 : decode cX8_steps 13 = .ok (.iload_n 2, 1) := by decide +kernel
theorem dX8_steps_14 : decode cX8_steps 14 = .ok (.invokevirtual 130, 3) := by decide +kernel
theorem dX8_steps_17 : decode cX8_steps 17 = .ok (.ifnull 5, 3) := by decide +kernel
theorem dX8_steps_20 : decode cX8_steps 20 = .ok (.iconst 0, 1) := by decide +kernel
theorem dX8_steps_21 : decode cX8_steps 21 = .ok (.ireturn, 1) := by decide +kernel
theorem dX8_steps_22 : decode cX8_steps 22 = .ok (.aload_n 0, 1) := by decide +kernel
theorem dX8_steps_23 : decode cX8_steps 23 = .ok (.iload_n 1, 1) := by decide +kernel
theorem dX8_steps_24 : decode cX8_steps 24 = .ok (.iload_n 2, 1) := by decide +kernel
theorem dX8_steps_25 : decode cX8_steps 25 = .ok (.invokevirtual 173, 3) := by decide +kernel
theorem dX8_steps_28 : decode cX8_steps 28 = .ok (.aload_n 0, 1) := by decide +kernel
theorem dX8_steps_29 : decode cX8_steps 29 = .ok (.getfield 40, 3) := by decide +kernel
theorem dX8_steps_32 : decode cX8_steps 32 = .ok (.getfield 161, 3) := by decide +kernel
theorem dX8_steps_35 : decode cX8_steps 35 = .ok (.ireturn, 1) := by decide +kernel
theorem dX8_begin_0 : decode cX8_begin 0 = .ok (.iload_n 1, 1) := by decide +kernel
theorem dX8_begin_1 : decode cX8_begin 1 = .ok (.invokestatic 176, 3) := by decide +kernel
theorem dX8_begin_4 : decode cX8_begin 4 = .ok (.ifCond .eq 12, 3) := by decide +kernel
theorem dX8_begin_7 : decode cX8_begin 7 = .ok (.aload_n 0, 1) := by decide +kernel
theorem dX8_begin_8 : decode cX8_begin 8 = .ok (.iload_n 2, 1) := by decide +kernel
theorem dX8_begin_9 : decode cX8_begin 9 = .ok (.iload_n 3, 1) := by decide +kernel
theorem dX8_begin_10 : decode cX8_begin 10 = .ok (.invokevirtual 123, 3) := by decide +kernel
theorem dX8_begin_13 : decode cX8_begin 13 = .ok (.ifCond .ne 5, 3) := by decide +kernel
theorem dX8_begin_16 : decode cX8_begin 16 = .ok (.iconst (-1), 1) := by decide +kernel
theorem dX8_begin_17 : decode cX8_begin 17 = .ok (.ireturn, 1) := by decide +kernel
theorem dX8_begin_18 : decode cX8_begin 18 = .ok (.aload_n 0, 1) := by decide +kernel
