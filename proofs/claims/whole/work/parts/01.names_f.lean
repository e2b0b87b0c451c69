theorem dX9_comes_83 : decode cX9_comes 83 = .ok (.iadd, 1) := by decide +kernel
theorem dX9_comes_84 : decode cX9_comes 84 = .ok (.iload 7, 2) := by decide +kernel
theorem dX9_comes_86 : decode cX9_comes 86 = .ok (.iastore, 1) := by decide +kernel
theorem dX9_comes_87 : decode cX9_comes 87 = .ok (.aload_n 0, 1) := by decide +kernel
theorem dX9_comes_88 : decode cX9_comes 88 = .ok (.iload 9, 2) := by decide +kernel
theorem dX9_comes_90 : decode cX9_comes 90 = .ok (.invokevirtual 108, 3) := by decide +kernel
theorem dX9_comes_93 : decode cX9_comes 93 = .ok (.return_, 1) := by decide +kernel
theorem dX9_begins_0 : decode cX9_begins 0 = .ok (.iconst (-1), 1) := by decide +kernel
theorem dX9_begins_1 : decode cX9_begins 1 = .ok (.istore_n 3, 1) := by decide +kernel
theorem dX9_begins_2 : decode cX9_begins 2 = .ok (.iconst 0, 1) := by decide +kernel
theorem dX9_begins_3 : decode cX9_begins 3 = .ok (.istore 4, 2) := by decide +kernel
theorem dX9_begins_5 : decode cX9_begins 5 = .ok (.iload 4, 2) := by decide +kernel
theorem dX9_begins_7 : decode cX9_begins 7 = .ok (.bipush 6, 2) := by decide +kernel
theorem dX9_begins_9 : decode cX9_begins 9 = .ok (.if_icmp .ge 84, 3) := by decide +kernel
theorem dX9_begins_12 : decode cX9_begins 12 = .ok (.sipush 234, 3) := by decide +kernel
theorem dX9_begins_15 : decode cX9_begins 15 = .ok (.bipush 7, 2) := by decide +kernel
theorem dX9_begins_17 : decode cX9_begins 17 = .ok (.iload 4, 2) := by decide +kernel
theorem dX9_begins_19 : decode cX9_begins 19 = .ok (.imul, 1) := by decide +kernel
theorem dX9_begins_20 : decode cX9_begins 20 = .ok (.iadd, 1) := by decide +kernel
theorem dX9_begins_21 : decode cX9_begins 21 = .ok (.istore 5, 2) := by decide +kernel
theorem dX9_begins_23 : decode cX9_begins 23 = .ok (.aload_n 0, 1) := by decide +kernel
theorem dX9_begins_24 : decode cX9_begins 24 = .ok (.getfield 13, 3) := by decide +kernel
theorem dX9_begins_27 : decode cX9_begins 27 = .ok (.iload 5, 2) := by decide +kernel
theorem dX9_begins_29 : decode cX9_begins 29 = .ok (.iaload, 1) := by decide +kernel
theorem dX9_begins_30 : decode cX9_begins 30 = .ok (.iload_n 1, 1) := by decide +kernel
theorem dX9_begins_31 : decode cX9_begins 31 = .ok (.if_icmp .ne 41, 3) := by decide +kernel
theorem dX9_begins_34 : decode cX9_begins 34 = .ok (.aload_n 0, 1) := by decide +kernel
theorem dX9_begins_35 : decode cX9_begins 35 = .ok (.iload 5, 2) := by decide +kernel
theorem dX9_begins_37 : decode cX9_begins 37 = .ok (.iload_n 2, 1) := by decide +kernel
theorem dX9_begins_38 : decode cX9_begins 38 = .ok (.invokevirtual 111, 3) := by decide +kernel
theorem dX9_begins_41 : decode cX9_begins 41 = .ok (.ifCond .eq 31, 3) := by decide +kernel
theorem dX9_begins_44 : decode cX9_begins 44 = .ok (.iload_n 3, 1) := by decide +kernel
theorem dX9_begins_45 : decode cX9_begins 45 = .ok (.ifCond .lt 23, 3) := by decide +kernel
theorem dX9_begins_48 : decode cX9_begins 48 = .ok (.aload_n 0, 1) := by decide +kernel
theorem dX9_begins_49 : decode cX9_begins 49 = .ok (.getfield 13, 3) := by decide +kernel
theorem dX9_begins_52 : decode cX9_begins 52 = .ok (.iload 5, 2) := by decide +kernel
theorem dX9_begins_54 : decode cX9_begins 54 = .ok (.iconst 1, 1) := by decide +kernel
theorem dX9_begins_55 : decode cX9_begins 55 = .ok (.iadd, 1) := by decide +kernel
theorem dX9_begins_56 : decode cX9_begins 56 = .ok (.iaload, 1) := by decide +kernel
theorem dX9_begins_57 : decode cX9_begins 57 = .ok (.aload_n 0, 1) := by decide +kernel
theorem dX9_begins_58 : decode cX9_begins 58 = .ok (.getfield 13, 3) := by decide +kernel
theorem dX9_begins_61 : decode cX9_begins 61 = .ok (.iload_n 3, 1) := by decide +kernel
theorem dX9_begins_62 : decode cX9_begins 62 = .ok (.iconst 1, 1) := by decide +kernel
theorem dX9_begins_63 : decode cX9_begins 63 = .ok (.iadd, 1) := by decide +kernel
theorem dX9_begins_64 : decode cX9_begins 64 = .ok (.iaload, 1) := by decide +kernel
theorem dX9_begins_65 : decode cX9_begins 65 = .ok (.if_icmp .ge 7, 3) := by decide +kernel
theorem dX9_begins_68 : decode cX9_begins 68 = .ok (.iconst 1, 1) := by decide +kernel
theorem dX9_begins_69 : decode cX9_begins 69 = .ok (.goto 4, 3) := by decide +kernel
theorem dX9_begins_72 : decode cX9_begins 72 = .ok (.iconst 0, 1) := by decide +kernel
theorem dX9_begins_73 : decode cX9_begins 73 = .ok (.istore 6, 2) := by decide +kernel
theorem dX9_begins_75 : decode cX9_begins 75 = .ok (.iload 6, 2) := by decide +kernel
theorem dX9_begins_77 : decode cX9_begins 77 = .ok (.ifCond .eq 8, 3) := by decide +kernel
theorem dX9_begins_80 : decode cX9_begins 80 = .ok (.iload 5, 2) := by decide +kernel
theorem dX9_begins_82 : decode cX9_begins 82 = .ok (.goto 4, 3) := by decide +kernel
theorem dX9_begins_85 : decode cX9_begins 85 = .ok (.iload_n 3, 1) := by decide +kernel
theorem dX9_begins_86 : decode cX9_begins 86 = .ok (.istore_n 3, 1) := by decide +kernel
theorem dX9_begins_87 : decode cX9_begins 87 = .ok (.iinc 4 1, 3) := by decide +kernel
theorem dX9_begins_90 : decode cX9_begins 90 = .ok (.goto (-85), 3) := by decide +kernel
theorem dX9_begins_93 : decode cX9_begins 93 = .ok (.aload_n 0, 1) := by decide +kernel
theorem dX9_begins_94 : decode cX9_begins 94 = .ok (.iconst 0, 1) := by decide +kernel
theorem dX9_begins_95 : decode cX9_begins 95 = .ok (.putfield 114, 3) := by decide +kernel
theorem dX9_begins_98 : decode cX9_begins 98 = .ok (.iload_n 3, 1) := by decide +kernel
theorem dX9_begins_99 : decode cX9_begins 99 = .ok (.ifCond .lt 59, 3) := by decide +kernel
theorem dX9_begins_102 : decode cX9_begins 102 = .ok (.aload_n 0, 1) := by decide +kernel
theorem dX9_begins_103 : decode cX9_begins 103 = .ok (.iload_n 3, 1) := by decide +kernel
theorem dX9_begins_104 : decode cX9_begins 104 = .ok (.invokevirtual 108, 3) := by decide +kernel
theorem dX9_begins_107 : decode cX9_begins 107 = .ok (.aload_n 0, 1) := by decide +kernel
theorem dX9_begins_108 : decode cX9_begins 108 = .ok (.getfield 13, 3) := by decide +kernel
theorem dX9_begins_111 : decode cX9_begins 111 = .ok (.sipush 324, 3) := by decide +kernel
theorem dX9_begins_114 : decode cX9_begins 114 = .ok (.dup2, 1) := by decide +kernel
theorem dX9_begins_115 : decode cX9_begins 115 = .ok (.iaload, 1) := by decide +kernel
theorem dX9_begins_116 : decode cX9_begins 116 = .ok (.iconst 1, 1) := by decide +kernel
theorem dX9_begins_117 : decode cX9_begins 117 = .ok (.iadd, 1) := by decide +kernel
theorem dX9_begins_118 : decode cX9_begins 118 = .ok (.iastore, 1) := by decide +kernel
theorem dX9_begins_119 : decode cX9_begins 119 = .ok (.aload_n 0, 1) := by decide +kernel
theorem dX9_begins_120 : decode cX9_begins 120 = .ok (.aload_n 0, 1) := by decide +kernel
theorem dX9_begins_121 : decode cX9_begins 121 = .ok (.getfield 13, 3) := by decide +kernel
theorem dX9_begins_124 : decode cX9_begins 124 = .ok (.iload_n 3, 1) := by decide +kernel
theorem dX9_begins_125 : decode cX9_begins 125 = .ok (.iconst 1, 1) := by decide +kernel
theorem dX9_begins_126 : decode cX9_begins 126 = .ok (.iadd, 1) := by decide +kernel
theorem dX9_begins_127 : decode cX9_begins 127 = .ok (.iaload, 1) := by decide +kernel
theorem dX9_begins_128 : decode cX9_begins 128 = .ok (.iconst 1, 1) := by decide +kernel
theorem dX9_begins_129 : decode cX9_begins 129 = .ok (.isub, 1) := by decide +kernel
theorem dX9_begins_130 : decode cX9_begins 130 = .ok (.putfield 117, 3) := by decide +kernel
theorem dX9_begins_133 : decode cX9_begins 133 = .ok (.aload_n 0, 1) := by decide +kernel
theorem dX9_begins_134 : decode cX9_begins 134 = .ok (.aload_n 0, 1) := by decide +kernel
theorem dX9_begins_135 : decode cX9_begins 135 = .ok (.getfield 13, 3) := by decide +kernel
theorem dX9_begins_138 : decode cX9_begins 138 = .ok (.iload_n 3, 1) := by decide +kernel
theorem dX9_begins_139 : decode cX9_begins 139 = .ok (.iconst 3, 1) := by decide +kernel
theorem dX9_begins_140 : decode cX9_begins 140 = .ok (.iadd, 1) := by decide +kernel
theorem dX9_begins_141 : decode cX9_begins 141 = .ok (.iaload, 1) := by decide +kernel
theorem dX9_begins_142 : decode cX9_begins 142 = .ok (.putfield 120, 3) := by decide +kernel
theorem dX9_begins_145 : decode cX9_begins 145 = .ok (.aload_n 0, 1) := by decide +kernel
theorem dX9_begins_146 : decode cX9_begins 146 = .ok (.aload_n 0, 1) := by decide +kernel
theorem dX9_begins_147 : decode cX9_begins 147 = .ok (.getfield 13, 3) := by decide +kernel
theorem dX9_begins_150 : decode cX9_begins 150 = .ok (.iload_n 3, 1) := by decide +kernel
theorem dX9_begins_151 : decode cX9_begins 151 = .ok (.iconst 4, 1) := by decide +kernel
theorem dX9_begins_152 : decode cX9_begins 152 = .ok (.iadd, 1) := by decide +kernel
theorem dX9_begins_153 : decode cX9_begins 153 = .ok (.iaload, 1) := by decide +kernel
theorem dX9_begins_154 : decode cX9_begins 154 = .ok (.putfield 123, 3) := by decide +kernel
theorem dX9_begins_157 : decode cX9_begins 157 = .ok (.return_, 1) := by decide +kernel
theorem dX9_begins_158 : decode cX9_begins 158 = .ok (.aload_n 0, 1) := by decide +kernel
theorem dX9_begins_159 : decode cX9_begins 159 = .ok (.iconst 2, 1) := by decide +kernel
theorem dX9_begins_160 : decode cX9_begins 160 = .ok (.putfield 117, 3) := by decide +kernel
theorem dX9_begins_163 : decode cX9_begins 163 = .ok (.aload_n 0, 1) := by decide +kernel
theorem dX9_begins_164 : decode cX9_begins 164 = .ok (.bipush 7, 2) := by decide +kernel
theorem dX9_begins_166 : decode cX9_begins 166 = .ok (.putfield 123, 3) := by decide +kernel
theorem dX9_begins_169 : decode cX9_begins 169 = .ok (.aload_n 0, 1) := by decide +kernel
theorem dX9_begins_170 : decode cX9_begins 170 = .ok (.aload_n 0, 1) := by decide +kernel
theorem dX9_begins_171 : decode cX9_begins 171 = .ok (.getfield 13, 3) := by decide +kernel
theorem dX9_begins_174 : decode cX9_begins 174 = .ok (.sipush 326, 3) := by decide +kernel
theorem dX9_begins_177 : decode cX9_begins 177 = .ok (.aload_n 0, 1) := by decide +kernel
theorem dX9_begins_178 : decode cX9_begins 178 = .ok (.getfield 13, 3) := by decide +kernel
theorem dX9_begins_181 : decode cX9_begins 181 = .ok (.sipush 344, 3) := by decide +kernel
theorem dX9_begins_184 : decode cX9_begins 184 = .ok (.iaload, 1) := by decide +kernel
theorem dX9_begins_185 : decode cX9_begins 185 = .ok (.iadd, 1) := by decide +kernel
theorem dX9_begins_186 : decode cX9_begins 186 = .ok (.iaload, 1) := by decide +kernel
theorem dX9_begins_187 : decode cX9_begins 187 = .ok (.putfield 120, 3) := by decide +kernel
theorem dX9_begins_190 : decode cX9_begins 190 = .ok (.aload_n 0, 1) := by decide +kernel
theorem dX9_begins_191 : decode cX9_begins 191 = .ok (.aload_n 0, 1) := by decide +kernel
theorem dX9_begins_192 : decode cX9_begins 192 = .ok (.getfield 120, 3) := by decide +kernel
theorem dX9_begins_195 : decode cX9_begins 195 = .ok (.ifCond .ge 7, 3) := by decide +kernel
theorem dX9_begins_198 : decode cX9_begins 198 = .ok (.iconst 1, 1) := by decide +kernel
theorem dX9_begins_199 : decode cX9_begins 199 = .ok (.goto 4, 3) := by decide +kernel
theorem dX9_begins_202 : decode cX9_begins 202 = .ok (.iconst 0, 1) := by decide +kernel
theorem dX9_begins_203 : decode cX9_begins 203 = .ok (.putfield 114, 3) := by decide +kernel
theorem dX9_begins_206 : decode cX9_begins 206 = .ok (.return_, 1) := by decide +kernel
theorem dX9_reads_0 : decode cX9_reads 0 = .ok (.aload_n 0, 1) := by decide +kernel
theorem dX9_reads_1 : decode cX9_reads 1 = .ok (.getfield 120, 3) := by decide +kernel
theorem dX9_reads_4 : decode cX9_reads 4 = .ok (.iload_n 2, 1) := by decide +kernel
theorem dX9_reads_5 : decode cX9_reads 5 = .ok (.aload_n 0, 1) := by decide +kernel
theorem dX9_reads_6 : decode cX9_reads 6 = .ok (.getfield 117, 3) := by decide +kernel
theorem dX9_reads_9 : decode cX9_reads 9 = .ok (.invokestatic 126, 3) := by decide +kernel
theorem dX9_reads_12 : decode cX9_reads 12 = .ok (.istore 5, 2) := by decide +kernel
theorem dX9_reads_14 : decode cX9_reads 14 = .ok (.aload_n 0, 1) := by decide +kernel
theorem dX9_reads_15 : decode cX9_reads 15 = .ok (.getfield 13, 3) := by decide +kernel
theorem dX9_reads_18 : decode cX9_reads 18 = .ok (.iconst 0, 1) := by decide +kernel
theorem dX9_reads_19 : decode cX9_reads 19 = .ok (.iload 5, 2) := by decide +kernel
theorem dX9_reads_21 : decode cX9_reads 21 = .ok (.iadd, 1) := by decide +kernel
theorem dX9_reads_22 : decode cX9_reads 22 = .ok (.iaload, 1) := by decide +kernel
theorem dX9_reads_23 : decode cX9_reads 23 = .ok (.istore 6, 2) := by decide +kernel
theorem dX9_reads_25 : decode cX9_reads 25 = .ok (.iload 6, 2) := by decide +kernel
theorem dX9_reads_27 : decode cX9_reads 27 = .ok (.invokestatic 73, 3) := by decide +kernel
theorem dX9_reads_30 : decode cX9_reads 30 = .ok (.istore 7, 2) := by decide +kernel
theorem dX9_reads_32 : decode cX9_reads 32 = .ok (.aload_n 0, 1) := by decide +kernel
theorem dX9_reads_33 : decode cX9_reads 33 = .ok (.dup, 1) := by decide +kernel
theorem dX9_reads_34 : decode cX9_reads 34 = .ok (.getfield 130, 3) := by decide +kernel
theorem dX9_reads_37 : decode cX9_reads 37 = .ok (.iconst 1, 1) := by decide +kernel
theorem dX9_reads_38 : decode cX9_reads 38 = .ok (.iadd, 1) := by decide +kernel
theorem dX9_reads_39 : decode cX9_reads 39 = .ok (.putfield 130, 3) := by decide +kernel
theorem dX9_reads_42 : decode cX9_reads 42 = .ok (.iload 7, 2) := by decide +kernel
theorem dX9_reads_44 : decode cX9_reads 44 = .ok (.ifCond .eq 16, 3) := by decide +kernel
theorem dX9_reads_47 : decode cX9_reads 47 = .ok (.iload 7, 2) := by decide +kernel
theorem dX9_reads_49 : decode cX9_reads 49 = .ok (.iconst 1, 1) := by decide +kernel
theorem dX9_reads_50 : decode cX9_reads 50 = .ok (.if_icmp .ne 26, 3) := by decide +kernel
theorem dX9_reads_53 : decode cX9_reads 53 = .ok (.aload_n 0, 1) := by decide +kernel
theorem dX9_reads_54 : decode cX9_reads 54 = .ok (.getfield 117, 3) := by decide +kernel
theorem dX9_reads_57 : decode cX9_reads 57 = .ok (.ifCond .ne 19, 3) := by decide +kernel
theorem dX9_reads_60 : decode cX9_reads 60 = .ok (.aload_n 0, 1) := by decide +kernel
theorem dX9_reads_61 : decode cX9_reads 61 = .ok (.iload 7, 2) := by decide +kernel
theorem dX9_reads_63 : decode cX9_reads 63 = .ok (.ifCond .ne 7, 3) := by decide +kernel
theorem dX9_reads_66 : decode cX9_reads 66 = .ok (.iconst 2, 1) := by decide +kernel
theorem dX9_reads_67 : decode cX9_reads 67 = .ok (.goto 4, 3) := by decide +kernel
theorem dX9_reads_70 : decode cX9_reads 70 = .ok (.iconst 3, 1) := by decide +kernel
theorem dX9_reads_71 : decode cX9_reads 71 = .ok (.putfield 114, 3) := by decide +kernel
theorem dX9_reads_74 : decode cX9_reads 74 = .ok (.iconst 0, 1) := by decide +kernel
theorem dX9_reads_75 : decode cX9_reads 75 = .ok (.ireturn, 1) := by decide +kernel
theorem dX9_reads_76 : decode cX9_reads 76 = .ok (.aload_n 0, 1) := by decide +kernel
theorem dX9_reads_77 : decode cX9_reads 77 = .ok (.dup, 1) := by decide +kernel
theorem dX9_reads_78 : decode cX9_reads 78 = .ok (.getfield 123, 3) := by decide +kernel
theorem dX9_reads_81 : decode cX9_reads 81 = .ok (.iload 6, 2) := by decide +kernel
theorem dX9_reads_83 : decode cX9_reads 83 = .ok (.invokestatic 133, 3) := by decide +kernel
theorem dX9_reads_86 : decode cX9_reads 86 = .ok (.iand, 1) := by decide +kernel
theorem dX9_reads_87 : decode cX9_reads 87 = .ok (.putfield 123, 3) := by decide +kernel
theorem dX9_reads_90 : decode cX9_reads 90 = .ok (.iload_n 3, 1) := by decide +kernel
theorem dX9_reads_91 : decode cX9_reads 91 = .ok (.aload_n 0, 1) := by decide +kernel
theorem dX9_reads_92 : decode cX9_reads 92 = .ok (.getfield 123, 3) := by decide +kernel
theorem dX9_reads_95 : decode cX9_reads 95 = .ok (.iconst (-1), 1) := by decide +kernel
theorem dX9_reads_96 : decode cX9_reads 96 = .ok (.ixor, 1) := by decide +kernel
theorem dX9_reads_97 : decode cX9_reads 97 = .ok (.iand, 1) := by decide +kernel
theorem dX9_reads_98 : decode cX9_reads 98 = .ok (.ifCond .eq 10, 3) := by decide +kernel
theorem dX9_reads_101 : decode cX9_reads 101 = .ok (.aload_n 0, 1) := by decide +kernel
theorem dX9_reads_102 : decode cX9_reads 102 = .ok (.iconst 4, 1) := by decide +kernel
theorem dX9_reads_103 : decode cX9_reads 103 = .ok (.putfield 114, 3) := by decide +kernel
theorem dX9_reads_106 : decode cX9_reads 106 = .ok (.iconst 0, 1) := by decide +kernel
theorem dX9_reads_107 : decode cX9_reads 107 = .ok (.ireturn, 1) := by decide +kernel
theorem dX9_reads_108 : decode cX9_reads 108 = .ok (.iload 4, 2) := by decide +kernel
theorem dX9_reads_110 : decode cX9_reads 110 = .ok (.ifCond .ne 76, 3) := by decide +kernel
theorem dX9_reads_113 : decode cX9_reads 113 = .ok (.aload_n 0, 1) := by decide +kernel
theorem dX9_reads_114 : decode cX9_reads 114 = .ok (.getfield 13, 3) := by decide +kernel
theorem dX9_reads_117 : decode cX9_reads 117 = .ok (.bipush 96, 2) := by decide +kernel
theorem dX9_reads_119 : decode cX9_reads 119 = .ok (.iload 5, 2) := by decide +kernel
theorem dX9_reads_121 : decode cX9_reads 121 = .ok (.iadd, 1) := by decide +kernel
theorem dX9_reads_122 : decode cX9_reads 122 = .ok (.iaload, 1) := by decide +kernel
theorem dX9_reads_123 : decode cX9_reads 123 = .ok (.iconst 1, 1) := by decide +kernel
theorem dX9_reads_124 : decode cX9_reads 124 = .ok (.ior, 1) := by decide +kernel
theorem dX9_reads_125 : decode cX9_reads 125 = .ok (.iload 7, 2) := by decide +kernel
theorem dX9_reads_127 : decode cX9_reads 127 = .ok (.iconst 2, 1) := by decide +kernel
theorem dX9_reads_128 : decode cX9_reads 128 = .ok (.if_icmp .ne 13, 3) := by decide +kernel
theorem dX9_reads_131 : decode cX9_reads 131 = .ok (.iload_n 3, 1) := by decide +kernel
theorem dX9_reads_132 : decode cX9_reads 132 = .ok (.iconst 1, 1) := by decide +kernel
theorem dX9_reads_133 : decode cX9_reads 133 = .ok (.iand, 1) := by decide +kernel
theorem dX9_reads_134 : decode cX9_reads 134 = .ok (.ifCond .eq 7, 3) := by decide +kernel
theorem dX9_reads_137 : decode cX9_reads 137 = .ok (.iconst 2, 1) := by decide +kernel
theorem dX9_reads_138 : decode cX9_reads 138 = .ok (.goto 4, 3) := by decide +kernel
theorem dX9_reads_141 : decode cX9_reads 141 = .ok (.iconst 0, 1) := by decide +kernel
theorem dX9_reads_142 : decode cX9_reads 142 = .ok (.ior, 1) := by decide +kernel
theorem dX9_reads_143 : decode cX9_reads 143 = .ok (.istore 8, 2) := by decide +kernel
theorem dX9_reads_145 : decode cX9_reads 145 = .ok (.aload_n 0, 1) := by decide +kernel
theorem dX9_reads_146 : decode cX9_reads 146 = .ok (.dup, 1) := by decide +kernel
theorem dX9_reads_147 : decode cX9_reads 147 = .ok (.getfield 130, 3) := by decide +kernel
theorem dX9_reads_150 : decode cX9_reads 150 = .ok (.iload 8, 2) := by decide +kernel
theorem dX9_reads_152 : decode cX9_reads 152 = .ok (.aload_n 0, 1) := by decide +kernel
theorem dX9_reads_153 : decode cX9_reads 153 = .ok (.getfield 13, 3) := by decide +kernel
theorem dX9_reads_156 : decode cX9_reads 156 = .ok (.bipush 96, 2) := by decide +kernel
theorem dX9_reads_158 : decode cX9_reads 158 = .ok (.iload 5, 2) := by decide +kernel
theorem dX9_reads_160 : decode cX9_reads 160 = .ok (.iadd, 1) := by decide +kernel
theorem dX9_reads_161 : decode cX9_reads 161 = .ok (.iaload, 1) := by decide +kernel
theorem dX9_reads_162 : decode cX9_reads 162 = .ok (.if_icmp .eq 7, 3) := by decide +kernel
theorem dX9_reads_165 : decode cX9_reads 165 = .ok (.iconst 1, 1) := by decide +kernel
theorem dX9_reads_166 : decode cX9_reads 166 = .ok (.goto 4, 3) := by decide +kernel
theorem dX9_reads_169 : decode cX9_reads 169 = .ok (.iconst 0, 1) := by decide +kernel
theorem dX9_reads_170 : decode cX9_reads 170 = .ok (.iadd, 1) := by decide +kernel
theorem dX9_reads_171 : decode cX9_reads 171 = .ok (.putfield 130, 3) := by decide +kernel
theorem dX9_reads_174 : decode cX9_reads 174 = .ok (.aload_n 0, 1) := by decide +kernel
theorem dX9_reads_175 : decode cX9_reads 175 = .ok (.getfield 13, 3) := by decide +kernel
theorem dX9_reads_178 : decode cX9_reads 178 = .ok (.bipush 96, 2) := by decide +kernel
theorem dX9_reads_180 : decode cX9_reads 180 = .ok (.iload 5, 2) := by decide +kernel
theorem dX9_reads_182 : decode cX9_reads 182 = .ok (.iadd, 1) := by decide +kernel
theorem dX9_reads_183 : decode cX9_reads 183 = .ok (.iload 8, 2) := by decide +kernel
theorem dX9_reads_185 : decode cX9_reads 185 = .ok (.iastore, 1) := by decide +kernel
theorem dX9_reads_186 : decode cX9_reads 186 = .ok (.iload 4, 2) := by decide +kernel
theorem dX9_reads_188 : decode cX9_reads 188 = .ok (.ifCond .eq 18, 3) := by decide +kernel
theorem dX9_reads_191 : decode cX9_reads 191 = .ok (.aload_n 0, 1) := by decide +kernel
theorem dX9_reads_192 : decode cX9_reads 192 = .ok (.getfield 13, 3) := by decide +kernel
theorem dX9_reads_195 : decode cX9_reads 195 = .ok (.bipush 96, 2) := by decide +kernel
theorem dX9_reads_197 : decode cX9_reads 197 = .ok (.iload 5, 2) := by decide +kernel
theorem dX9_reads_199 : decode cX9_reads 199 = .ok (.iadd, 1) := by decide +kernel
theorem dX9_reads_200 : decode cX9_reads 200 = .ok (.iaload, 1) := by decide +kernel
theorem dX9_reads_201 : decode cX9_reads 201 = .ok (.iconst 1, 1) := by decide +kernel
theorem dX9_reads_202 : decode cX9_reads 202 = .ok (.iand, 1) := by decide +kernel
theorem dX9_reads_203 : decode cX9_reads 203 = .ok (.ifCond .eq 7, 3) := by decide +kernel
theorem dX9_reads_206 : decode cX9_reads 206 = .ok (.iconst 1, 1) := by decide +kernel
theorem dX9_reads_207 : decode cX9_reads 207 = .ok (.goto 4, 3) := by decide +kernel
theorem dX9_reads_210 : decode cX9_reads 210 = .ok (.iconst 0, 1) := by decide +kernel
theorem dX9_reads_211 : decode cX9_reads 211 = .ok (.istore 8, 2) := by decide +kernel
theorem dX9_reads_213 : decode cX9_reads 213 = .ok (.iload 7, 2) := by decide +kernel
theorem dX9_reads_215 : decode cX9_reads 215 = .ok (.iconst 1, 1) := by decide +kernel
theorem dX9_reads_216 : decode cX9_reads 216 = .ok (.if_icmp .ne 52, 3) := by decide +kernel
theorem dX9_reads_219 : decode cX9_reads 219 = .ok (.iload 8, 2) := by decide +kernel
theorem dX9_reads_221 : decode cX9_reads 221 = .ok (.ifCond .eq 26, 3) := by decide +kernel
theorem dX9_reads_224 : decode cX9_reads 224 = .ok (.aload_n 0, 1) := by decide +kernel
theorem dX9_reads_225 : decode cX9_reads 225 = .ok (.sipush 234, 3) := by decide +kernel
theorem dX9_reads_228 : decode cX9_reads 228 = .ok (.iload_n 1, 1) := by decide +kernel
theorem dX9_reads_229 : decode cX9_reads 229 = .ok (.aload_n 0, 1) := by decide +kernel
theorem dX9_reads_230 : decode cX9_reads 230 = .ok (.getfield 117, 3) := by decide +kernel
theorem dX9_reads_233 : decode cX9_reads 233 = .ok (.iload_n 2, 1) := by decide +kernel
theorem dX9_reads_234 : decode cX9_reads 234 = .ok (.iload 6, 2) := by decide +kernel
theorem dX9_reads_236 : decode cX9_reads 236 = .ok (.invokestatic 136, 3) := by decide +kernel
theorem dX9_reads_239 : decode cX9_reads 239 = .ok (.aload_n 0, 1) := by decide +kernel
theorem dX9_reads_240 : decode cX9_reads 240 = .ok (.getfield 123, 3) := by decide +kernel
theorem dX9_reads_243 : decode cX9_reads 243 = .ok (.iconst 0, 1) := by decide +kernel
theorem dX9_reads_244 : decode cX9_reads 244 = .ok (.invokevirtual 139, 3) := by decide +kernel
theorem dX9_reads_247 : decode cX9_reads 247 = .ok (.aload_n 0, 1) := by decide +kernel
theorem dX9_reads_248 : decode cX9_reads 248 = .ok (.iload 6, 2) := by decide +kernel
theorem dX9_reads_250 : decode cX9_reads 250 = .ok (.invokestatic 136, 3) := by decide +kernel
theorem dX9_reads_253 : decode cX9_reads 253 = .ok (.putfield 120, 3) := by decide +kernel
theorem dX9_reads_256 : decode cX9_reads 256 = .ok (.aload_n 0, 1) := by decide +kernel
theorem dX9_reads_257 : decode cX9_reads 257 = .ok (.dup, 1) := by decide +kernel
theorem dX9_reads_258 : decode cX9_reads 258 = .ok (.getfield 117, 3) := by decide +kernel
theorem dX9_reads_261 : decode cX9_reads 261 = .ok (.iconst 1, 1) := by decide +kernel
theorem dX9_reads_262 : decode cX9_reads 262 = .ok (.isub, 1) := by decide +kernel
theorem dX9_reads_263 : decode cX9_reads 263 = .ok (.putfield 117, 3) := by decide +kernel
theorem dX9_reads_266 : decode cX9_reads 266 = .ok (.iconst 1, 1) := by decide +kernel
theorem dX9_reads_267 : decode cX9_reads 267 = .ok (.ireturn, 1) := by decide +kernel
theorem dX9_reads_268 : decode cX9_reads 268 = .ok (.iload 8, 2) := by decide +kernel
theorem dX9_reads_270 : decode cX9_reads 270 = .ok (.ifCond .eq 48, 3) := by decide +kernel
theorem dX9_reads_273 : decode cX9_reads 273 = .ok (.aload_n 0, 1) := by decide +kernel
theorem dX9_reads_274 : decode cX9_reads 274 = .ok (.sipush 192, 3) := by decide +kernel
theorem dX9_reads_277 : decode cX9_reads 277 = .ok (.iload_n 1, 1) := by decide +kernel
theorem dX9_reads_278 : decode cX9_reads 278 = .ok (.aload_n 0, 1) := by decide +kernel
theorem dX9_reads_279 : decode cX9_reads 279 = .ok (.getfield 117, 3) := by decide +kernel
theorem dX9_reads_282 : decode cX9_reads 282 = .ok (.iload_n 2, 1) := by decide +kernel
theorem dX9_reads_283 : decode cX9_reads 283 = .ok (.iload 6, 2) := by decide +kernel
theorem dX9_reads_285 : decode cX9_reads 285 = .ok (.invokestatic 136, 3) := by decide +kernel
theorem dX9_reads_288 : decode cX9_reads 288 = .ok (.aload_n 0, 1) := by decide +kernel
theorem dX9_reads_289 : decode cX9_reads 289 = .ok (.getfield 123, 3) := by decide +kernel
theorem dX9_reads_292 : decode cX9_reads 292 = .ok (.iload 6, 2) := by decide +kernel
theorem dX9_reads_294 : decode cX9_reads 294 = .ok (.invokestatic 133, 3) := by decide +kernel
theorem dX9_reads_297 : decode cX9_reads 297 = .ok (.bipush 8, 2) := by decide +kernel
theorem dX9_reads_299 : decode cX9_reads 299 = .ok (.iand, 1) := by decide +kernel
theorem dX9_reads_300 : decode cX9_reads 300 = .ok (.ior, 1) := by decide +kernel
theorem dX9_reads_301 : decode cX9_reads 301 = .ok (.aload_n 0, 1) := by decide +kernel
theorem dX9_reads_302 : decode cX9_reads 302 = .ok (.getfield 13, 3) := by decide +kernel
theorem dX9_reads_305 : decode cX9_reads 305 = .ok (.bipush 96, 2) := by decide +kernel
theorem dX9_reads_307 : decode cX9_reads 307 = .ok (.iload 5, 2) := by decide +kernel
theorem dX9_reads_309 : decode cX9_reads 309 = .ok (.iadd, 1) := by decide +kernel
theorem dX9_reads_310 : decode cX9_reads 310 = .ok (.iaload, 1) := by decide +kernel
theorem dX9_reads_311 : decode cX9_reads 311 = .ok (.iconst 1, 1) := by decide +kernel
theorem dX9_reads_312 : decode cX9_reads 312 = .ok (.ishr, 1) := by decide +kernel
theorem dX9_reads_313 : decode cX9_reads 313 = .ok (.iconst 1, 1) := by decide +kernel
theorem dX9_reads_314 : decode cX9_reads 314 = .ok (.iand, 1) := by decide +kernel
theorem dX9_reads_315 : decode cX9_reads 315 = .ok (.invokevirtual 139, 3) := by decide +kernel
theorem dX9_reads_318 : decode cX9_reads 318 = .ok (.aload_n 0, 1) := by decide +kernel
theorem dX9_reads_319 : decode cX9_reads 319 = .ok (.iload 6, 2) := by decide +kernel
theorem dX9_reads_321 : decode cX9_reads 321 = .ok (.invokestatic 136, 3) := by decide +kernel
theorem dX9_reads_324 : decode cX9_reads 324 = .ok (.iload_n 2, 1) := by decide +kernel
theorem dX9_reads_325 : decode cX9_reads 325 = .ok (.aload_n 0, 1) := by decide +kernel
theorem dX9_reads_326 : decode cX9_reads 326 = .ok (.getfield 117, 3) := by decide +kernel
theorem dX9_reads_329 : decode cX9_reads 329 = .ok (.invokestatic 55, 3) := by decide +kernel
theorem dX9_reads_332 : decode cX9_reads 332 = .ok (.irem, 1) := by decide +kernel
theorem dX9_reads_333 : decode cX9_reads 333 = .ok (.iadd, 1) := by decide +kernel
theorem dX9_reads_334 : decode cX9_reads 334 = .ok (.putfield 143, 3) := by decide +kernel
theorem dX9_reads_337 : decode cX9_reads 337 = .ok (.iconst 0, 1) := by decide +kernel
theorem dX9_reads_338 : decode cX9_reads 338 = .ok (.ireturn, 1) := by decide +kernel
theorem dX9_fits_0 : decode cX9_fits 0 = .ok (.aload_n 0, 1) := by decide +kernel
theorem dX9_fits_1 : decode cX9_fits 1 = .ok (.iload_n 1, 1) := by decide +kernel
theorem dX9_fits_2 : decode cX9_fits 2 = .ok (.iload_n 2, 1) := by decide +kernel
theorem dX9_fits_3 : decode cX9_fits 3 = .ok (.invokevirtual 111, 3) := by decide +kernel
theorem dX9_fits_6 : decode cX9_fits 6 = .ok (.ifCond .eq 47, 3) := by decide +kernel
theorem dX9_fits_9 : decode cX9_fits 9 = .ok (.aload_n 0, 1) := by decide +kernel
theorem dX9_fits_10 : decode cX9_fits 10 = .ok (.getfield 13, 3) := by decide +kernel
theorem dX9_fits_13 : decode cX9_fits 13 = .ok (.iload_n 1, 1) := by decide +kernel
theorem dX9_fits_14 : decode cX9_fits 14 = .ok (.iaload, 1) := by decide +kernel
theorem dX9_fits_15 : decode cX9_fits 15 = .ok (.aload_n 0, 1) := by decide +kernel
theorem dX9_fits_16 : decode cX9_fits 16 = .ok (.getfield 13, 3) := by decide +kernel
theorem dX9_fits_19 : decode cX9_fits 19 = .ok (.sipush 332, 3) := by decide +kernel
theorem dX9_fits_22 : decode cX9_fits 22 = .ok (.aload_n 0, 1) := by decide +kernel
theorem dX9_fits_23 : decode cX9_fits 23 = .ok (.getfield 13, 3) := by decide +kernel
theorem dX9_fits_26 : decode cX9_fits 26 = .ok (.sipush 344, 3) := by decide +kernel
theorem dX9_fits_29 : decode cX9_fits 29 = .ok (.iaload, 1) := by decide +kernel
theorem dX9_fits_30 : decode cX9_fits 30 = .ok (.iadd, 1) := by decide +kernel
theorem dX9_fits_31 : decode cX9_fits 31 = .ok (.iaload, 1) := by decide +kernel
theorem dX9_fits_32 : decode cX9_fits 32 = .ok (.if_icmp .eq 17, 3) := by decide +kernel
theorem dX9_fits_35 : decode cX9_fits 35 = .ok (.aload_n 0, 1) := by decide +kernel
theorem dX9_fits_36 : decode cX9_fits 36 = .ok (.getfield 13, 3) := by decide +kernel
theorem dX9_fits_39 : decode cX9_fits 39 = .ok (.iload_n 1, 1) := by decide +kernel
theorem dX9_fits_40 : decode cX9_fits 40 = .ok (.iconst 4, 1) := by decide +kernel
theorem dX9_fits_41 : decode cX9_fits 41 = .ok (.iadd, 1) := by decide +kernel
theorem dX9_fits_42 : decode cX9_fits 42 = .ok (.iaload, 1) := by decide +kernel
theorem dX9_fits_43 : decode cX9_fits 43 = .ok (.bipush 8, 2) := by decide +kernel
theorem dX9_fits_45 : decode cX9_fits 45 = .ok (.iand, 1) := by decide +kernel
theorem dX9_fits_46 : decode cX9_fits 46 = .ok (.ifCond .eq 7, 3) := by decide +kernel
theorem dX9_fits_49 : decode cX9_fits 49 = .ok (.iconst 1, 1) := by decide +kernel
theorem dX9_fits_50 : decode cX9_fits 50 = .ok (.goto 4, 3) := by decide +kernel
theorem dX9_fits_53 : decode cX9_fits 53 = .ok (.iconst 0, 1) := by decide +kernel
theorem dX9_fits_54 : decode cX9_fits 54 = .ok (.ireturn, 1) := by decide +kernel
theorem dX9_latestThatFits_0 : decode cX9_latestThatFits 0 = .ok (.iconst (-1), 1) := by decide +kernel
theorem dX9_latestThatFits_1 : decode cX9_latestThatFits 1 = .ok (.istore_n 2, 1) := by decide +kernel
theorem dX9_latestThatFits_2 : decode cX9_latestThatFits 2 = .ok (.iconst 0, 1) := by decide +kernel
theorem dX9_latestThatFits_3 : decode cX9_latestThatFits 3 = .ok (.istore_n 3, 1) := by decide +kernel
theorem dX9_latestThatFits_4 : decode cX9_latestThatFits 4 = .ok (.iload_n 3, 1) := by decide +kernel
theorem dX9_latestThatFits_5 : decode cX9_latestThatFits 5 = .ok (.bipush 6, 2) := by decide +kernel
theorem dX9_latestThatFits_7 : decode cX9_latestThatFits 7 = .ok (.if_icmp .ge 62, 3) := by decide +kernel
theorem dX9_latestThatFits_10 : decode cX9_latestThatFits 10 = .ok (.sipush 192, 3) := by decide +kernel
theorem dX9_latestThatFits_13 : decode cX9_latestThatFits 13 = .ok (.bipush 7, 2) := by decide +kernel
theorem dX9_latestThatFits_15 : decode cX9_latestThatFits 15 = .ok (.iload_n 3, 1) := by decide +kernel
theorem dX9_latestThatFits_16 : decode cX9_latestThatFits 16 = .ok (.imul, 1) := by decide +kernel
theorem dX9_latestThatFits_17 : decode cX9_latestThatFits 17 = .ok (.iadd, 1) := by decide +kernel
theorem dX9_latestThatFits_18 : decode cX9_latestThatFits 18 = .ok (.istore 4, 2) := by decide +kernel
theorem dX9_latestThatFits_20 : decode cX9_latestThatFits 20 = .ok (.aload_n 0, 1) := by decide +kernel
theorem dX9_latestThatFits_21 : decode cX9_latestThatFits 21 = .ok (.iload 4, 2) := by decide +kernel
theorem dX9_latestThatFits_23 : decode cX9_latestThatFits 23 = .ok (.iload_n 1, 1) := by decide +kernel
theorem dX9_latestThatFits_24 : decode cX9_latestThatFits 24 = .ok (.invokevirtual 146, 3) := by decide +kernel
theorem dX9_latestThatFits_27 : decode cX9_latestThatFits 27 = .ok (.ifCond .eq 34, 3) := by decide +kernel
theorem dX9_latestThatFits_30 : decode cX9_latestThatFits 30 = .ok (.iload_n 2, 1) := by decide +kernel
theorem dX9_latestThatFits_31 : decode cX9_latestThatFits 31 = .ok (.ifCond .lt 25, 3) := by decide +kernel
theorem dX9_latestThatFits_34 : decode cX9_latestThatFits 34 = .ok (.aload_n 0, 1) := by decide +kernel
theorem dX9_latestThatFits_35 : decode cX9_latestThatFits 35 = .ok (.getfield 13, 3) := by decide +kernel
theorem dX9_latestThatFits_38 : decode cX9_latestThatFits 38 = .ok (.iload 4, 2) := by decide +kernel
theorem dX9_latestThatFits_40 : decode cX9_latestThatFits 40 = .ok (.bipush 6, 2) := by decide +kernel
theorem dX9_latestThatFits_42 : decode cX9_latestThatFits 42 = .ok (.iadd, 1) := by decide +kernel
theorem dX9_latestThatFits_43 : decode cX9_latestThatFits 43 = .ok (.iaload, 1) := by decide +kernel
theorem dX9_latestThatFits_44 : decode cX9_latestThatFits 44 = .ok (.aload_n 0, 1) := by decide +kernel
theorem dX9_latestThatFits_45 : decode cX9_latestThatFits 45 = .ok (.getfield 13, 3) := by decide +kernel
theorem dX9_latestThatFits_48 : decode cX9_latestThatFits 48 = .ok (.iload_n 2, 1) := by decide +kernel
theorem dX9_latestThatFits_49 : decode cX9_latestThatFits 49 = .ok (.bipush 6, 2) := by decide +kernel
theorem dX9_latestThatFits_51 : decode cX9_latestThatFits 51 = .ok (.iadd, 1) := by decide +kernel
theorem dX9_latestThatFits_52 : decode cX9_latestThatFits 52 = .ok (.iaload, 1) := by decide +kernel
theorem dX9_latestThatFits_53 : decode cX9_latestThatFits 53 = .ok (.if_icmp .le 8, 3) := by decide +kernel
theorem dX9_latestThatFits_56 : decode cX9_latestThatFits 56 = .ok (.iload 4, 2) := by decide +kernel
theorem dX9_latestThatFits_58 : decode cX9_latestThatFits 58 = .ok (.goto 4, 3) := by decide +kernel
theorem dX9_latestThatFits_61 : decode cX9_latestThatFits 61 = .ok (.iload_n 2, 1) := by decide +kernel
theorem dX9_latestThatFits_62 : decode cX9_latestThatFits 62 = .ok (.istore_n 2, 1) := by decide +kernel
theorem dX9_latestThatFits_63 : decode cX9_latestThatFits 63 = .ok (.iinc 3 1, 3) := by decide +kernel
theorem dX9_latestThatFits_66 : decode cX9_latestThatFits 66 = .ok (.goto (-62), 3) := by decide +kernel
theorem dX9_latestThatFits_69 : decode cX9_latestThatFits 69 = .ok (.iload_n 2, 1) := by decide +kernel
theorem dX9_latestThatFits_70 : decode cX9_latestThatFits 70 = .ok (.ireturn, 1) := by decide +kernel
theorem dX9_asks_0 : decode cX9_asks 0 = .ok (.aload_n 0, 1) := by decide +kernel
theorem dX9_asks_1 : decode cX9_asks 1 = .ok (.iconst 0, 1) := by decide +kernel
theorem dX9_asks_2 : decode cX9_asks 2 = .ok (.putfield 130, 3) := by decide +kernel
theorem dX9_asks_5 : decode cX9_asks 5 = .ok (.aload_n 0, 1) := by decide +kernel
theorem dX9_asks_6 : decode cX9_asks 6 = .ok (.getfield 13, 3) := by decide +kernel
theorem dX9_asks_9 : decode cX9_asks 9 = .ok (.sipush 321, 3) := by decide +kernel
theorem dX9_asks_12 : decode cX9_asks 12 = .ok (.dup2, 1) := by decide +kernel
theorem dX9_asks_13 : decode cX9_asks 13 = .ok (.iaload, 1) := by decide +kernel
theorem dX9_asks_14 : decode cX9_asks 14 = .ok (.iconst 1, 1) := by decide +kernel
theorem dX9_asks_15 : decode cX9_asks 15 = .ok (.iadd, 1) := by decide +kernel
theorem dX9_asks_16 : decode cX9_asks 16 = .ok (.iastore, 1) := by decide +kernel
theorem dX9_asks_17 : decode cX9_asks 17 = .ok (.aload_n 0, 1) := by decide +kernel
theorem dX9_asks_18 : decode cX9_asks 18 = .ok (.iload_n 1, 1) := by decide +kernel
theorem dX9_asks_19 : decode cX9_asks 19 = .ok (.invokevirtual 149, 3) := by decide +kernel
theorem dX9_asks_22 : decode cX9_asks 22 = .ok (.istore_n 3, 1) := by decide +kernel
theorem dX9_asks_23 : decode cX9_asks 23 = .ok (.iload_n 3, 1) := by decide +kernel
theorem dX9_asks_24 : decode cX9_asks 24 = .ok (.ifCond .lt 92, 3) := by decide +kernel
theorem dX9_asks_27 : decode cX9_asks 27 = .ok (.iload_n 2, 1) := by decide +kernel
theorem dX9_asks_28 : decode cX9_asks 28 = .ok (.aload_n 0, 1) := by decide +kernel
theorem dX9_asks_29 : decode cX9_asks 29 = .ok (.getfield 13, 3) := by decide +kernel
theorem dX9_asks_32 : decode cX9_asks 32 = .ok (.iload_n 3, 1) := by decide +kernel
theorem dX9_asks_33 : decode cX9_asks 33 = .ok (.iconst 4, 1) := by decide +kernel
theorem dX9_asks_34 : decode cX9_asks 34 = .ok (.iadd, 1) := by decide +kernel
theorem dX9_asks_35 : decode cX9_asks 35 = .ok (.iaload, 1) := by decide +kernel
theorem dX9_asks_36 : decode cX9_asks 36 = .ok (.iconst (-1), 1) := by decide +kernel
theorem dX9_asks_37 : decode cX9_asks 37 = .ok (.ixor, 1) := by decide +kernel
theorem dX9_asks_38 : decode cX9_asks 38 = .ok (.iand, 1) := by decide +kernel
theorem dX9_asks_39 : decode cX9_asks 39 = .ok (.ifCond .ne 61, 3) := by decide +kernel
theorem dX9_asks_42 : decode cX9_asks 42 = .ok (.iload_n 2, 1) := by decide +kernel
theorem dX9_asks_43 : decode cX9_asks 43 = .ok (.iconst 1, 1) := by decide +kernel
theorem dX9_asks_44 : decode cX9_asks 44 = .ok (.iand, 1) := by decide +kernel
theorem dX9_asks_45 : decode cX9_asks 45 = .ok (.ifCond .eq 15, 3) := by decide +kernel
theorem dX9_asks_48 : decode cX9_asks 48 = .ok (.aload_n 0, 1) := by decide +kernel
theorem dX9_asks_49 : decode cX9_asks 49 = .ok (.getfield 13, 3) := by decide +kernel
theorem dX9_asks_52 : decode cX9_asks 52 = .ok (.iload_n 3, 1) := by decide +kernel
theorem dX9_asks_53 : decode cX9_asks 53 = .ok (.iconst 5, 1) := by decide +kernel
theorem dX9_asks_54 : decode cX9_asks 54 = .ok (.iadd, 1) := by decide +kernel
theorem dX9_asks_55 : decode cX9_asks 55 = .ok (.iaload, 1) := by decide +kernel
theorem dX9_asks_56 : decode cX9_asks 56 = .ok (.iconst 1, 1) := by decide +kernel
theorem dX9_asks_57 : decode cX9_asks 57 = .ok (.if_icmp .ne 43, 3) := by decide +kernel
theorem dX9_asks_60 : decode cX9_asks 60 = .ok (.aload_n 0, 1) := by decide +kernel
theorem dX9_asks_61 : decode cX9_asks 61 = .ok (.iload_n 3, 1) := by decide +kernel
theorem dX9_asks_62 : decode cX9_asks 62 = .ok (.invokevirtual 108, 3) := by decide +kernel
theorem dX9_asks_65 : decode cX9_asks 65 = .ok (.aload_n 0, 1) := by decide +kernel
theorem dX9_asks_66 : decode cX9_asks 66 = .ok (.getfield 13, 3) := by decide +kernel
theorem dX9_asks_69 : decode cX9_asks 69 = .ok (.sipush 322, 3) := by decide +kernel
theorem dX9_asks_72 : decode cX9_asks 72 = .ok (.dup2, 1) := by decide +kernel
theorem dX9_asks_73 : decode cX9_asks 73 = .ok (.iaload, 1) := by decide +kernel
theorem dX9_asks_74 : decode cX9_asks 74 = .ok (.iconst 1, 1) := by decide +kernel
theorem dX9_asks_75 : decode cX9_asks 75 = .ok (.iadd, 1) := by decide +kernel
theorem dX9_asks_76 : decode cX9_asks 76 = .ok (.iastore, 1) := by decide +kernel
theorem dX9_asks_77 : decode cX9_asks 77 = .ok (.aload_n 0, 1) := by decide +kernel
theorem dX9_asks_78 : decode cX9_asks 78 = .ok (.getfield 13, 3) := by decide +kernel
theorem dX9_asks_81 : decode cX9_asks 81 = .ok (.iload_n 3, 1) := by decide +kernel
theorem dX9_asks_82 : decode cX9_asks 82 = .ok (.iconst 3, 1) := by decide +kernel
theorem dX9_asks_83 : decode cX9_asks 83 = .ok (.iadd, 1) := by decide +kernel
theorem dX9_asks_84 : decode cX9_asks 84 = .ok (.iaload, 1) := by decide +kernel
theorem dX9_asks_85 : decode cX9_asks 85 = .ok (.iload_n 1, 1) := by decide +kernel
theorem dX9_asks_86 : decode cX9_asks 86 = .ok (.aload_n 0, 1) := by decide +kernel
theorem dX9_asks_87 : decode cX9_asks 87 = .ok (.getfield 13, 3) := by decide +kernel
theorem dX9_asks_90 : decode cX9_asks 90 = .ok (.iload_n 3, 1) := by decide +kernel
theorem dX9_asks_91 : decode cX9_asks 91 = .ok (.iconst 1, 1) := by decide +kernel
theorem dX9_asks_92 : decode cX9_asks 92 = .ok (.iadd, 1) := by decide +kernel
theorem dX9_asks_93 : decode cX9_asks 93 = .ok (.iaload, 1) := by decide +kernel
theorem dX9_asks_94 : decode cX9_asks 94 = .ok (.invokestatic 55, 3) := by decide +kernel
theorem dX9_asks_97 : decode cX9_asks 97 = .ok (.irem, 1) := by decide +kernel
theorem dX9_asks_98 : decode cX9_asks 98 = .ok (.iadd, 1) := by decide +kernel
theorem dX9_asks_99 : decode cX9_asks 99 = .ok (.ireturn, 1) := by decide +kernel
theorem dX9_asks_100 : decode cX9_asks 100 = .ok (.aload_n 0, 1) := by decide +kernel
theorem dX9_asks_101 : decode cX9_asks 101 = .ok (.getfield 13, 3) := by decide +kernel
theorem dX9_asks_104 : decode cX9_asks 104 = .ok (.iload_n 3, 1) := by decide +kernel
theorem dX9_asks_105 : decode cX9_asks 105 = .ok (.iconst (-1), 1) := by decide +kernel
theorem dX9_asks_106 : decode cX9_asks 106 = .ok (.iastore, 1) := by decide +kernel
theorem dX9_asks_107 : decode cX9_asks 107 = .ok (.aload_n 0, 1) := by decide +kernel
theorem dX9_asks_108 : decode cX9_asks 108 = .ok (.iload_n 1, 1) := by decide +kernel
theorem dX9_asks_109 : decode cX9_asks 109 = .ok (.invokevirtual 149, 3) := by decide +kernel
theorem dX9_asks_112 : decode cX9_asks 112 = .ok (.istore_n 3, 1) := by decide +kernel
theorem dX9_asks_113 : decode cX9_asks 113 = .ok (.goto (-90), 3) := by decide +kernel
theorem dX9_asks_116 : decode cX9_asks 116 = .ok (.aload_n 0, 1) := by decide +kernel
theorem dX9_asks_117 : decode cX9_asks 117 = .ok (.getfield 13, 3) := by decide +kernel
theorem dX9_asks_120 : decode cX9_asks 120 = .ok (.sipush 332, 3) := by decide +kernel
theorem dX9_asks_123 : decode cX9_asks 123 = .ok (.aload_n 0, 1) := by decide +kernel
theorem dX9_asks_124 : decode cX9_asks 124 = .ok (.getfield 13, 3) := by decide +kernel
theorem dX9_asks_127 : decode cX9_asks 127 = .ok (.sipush 344, 3) := by decide +kernel
theorem dX9_asks_130 : decode cX9_asks 130 = .ok (.iaload, 1) := by decide +kernel
theorem dX9_asks_131 : decode cX9_asks 131 = .ok (.iadd, 1) := by decide +kernel
theorem dX9_asks_132 : decode cX9_asks 132 = .ok (.iaload, 1) := by decide +kernel
theorem dX9_asks_133 : decode cX9_asks 133 = .ok (.istore_n 3, 1) := by decide +kernel
theorem dX9_asks_134 : decode cX9_asks 134 = .ok (.aload_n 0, 1) := by decide +kernel
theorem dX9_asks_135 : decode cX9_asks 135 = .ok (.iload_n 3, 1) := by decide +kernel
theorem dX9_asks_136 : decode cX9_asks 136 = .ok (.iload_n 1, 1) := by decide +kernel
theorem dX9_asks_137 : decode cX9_asks 137 = .ok (.invokevirtual 152, 3) := by decide +kernel
theorem dX9_asks_140 : decode cX9_asks 140 = .ok (.aload_n 0, 1) := by decide +kernel
theorem dX9_asks_141 : decode cX9_asks 141 = .ok (.getfield 114, 3) := by decide +kernel
theorem dX9_asks_144 : decode cX9_asks 144 = .ok (.ifCond .ne 7, 3) := by decide +kernel
theorem dX9_asks_147 : decode cX9_asks 147 = .ok (.iconst 1, 1) := by decide +kernel
theorem dX9_asks_148 : decode cX9_asks 148 = .ok (.goto 4, 3) := by decide +kernel
theorem dX9_asks_151 : decode cX9_asks 151 = .ok (.iconst 0, 1) := by decide +kernel
theorem dX9_asks_152 : decode cX9_asks 152 = .ok (.istore 4, 2) := by decide +kernel
theorem dX9_asks_154 : decode cX9_asks 154 = .ok (.iload 4, 2) := by decide +kernel
theorem dX9_asks_156 : decode cX9_asks 156 = .ok (.ifCond .eq 16, 3) := by decide +kernel
theorem dX9_asks_159 : decode cX9_asks 159 = .ok (.aload_n 0, 1) := by decide +kernel
theorem dX9_asks_160 : decode cX9_asks 160 = .ok (.iload_n 3, 1) := by decide +kernel
theorem dX9_asks_161 : decode cX9_asks 161 = .ok (.iload_n 1, 1) := by decide +kernel
theorem dX9_asks_162 : decode cX9_asks 162 = .ok (.iload_n 2, 1) := by decide +kernel
theorem dX9_asks_163 : decode cX9_asks 163 = .ok (.iconst 0, 1) := by decide +kernel
theorem dX9_asks_164 : decode cX9_asks 164 = .ok (.invokevirtual 155, 3) := by decide +kernel
theorem dX9_asks_167 : decode cX9_asks 167 = .ok (.istore 4, 2) := by decide +kernel
theorem dX9_asks_169 : decode cX9_asks 169 = .ok (.goto (-15), 3) := by decide +kernel
theorem dX9_asks_172 : decode cX9_asks 172 = .ok (.aload_n 0, 1) := by decide +kernel
theorem dX9_asks_173 : decode cX9_asks 173 = .ok (.getfield 13, 3) := by decide +kernel
theorem dX9_asks_176 : decode cX9_asks 176 = .ok (.sipush 323, 3) := by decide +kernel
theorem dX9_asks_179 : decode cX9_asks 179 = .ok (.dup2, 1) := by decide +kernel
theorem dX9_asks_180 : decode cX9_asks 180 = .ok (.iaload, 1) := by decide +kernel
theorem dX9_asks_181 : decode cX9_asks 181 = .ok (.aload_n 0, 1) := by decide +kernel
theorem dX9_asks_182 : decode cX9_asks 182 = .ok (.getfield 130, 3) := by decide +kernel
theorem dX9_asks_185 : decode cX9_asks 185 = .ok (.iadd, 1) := by decide +kernel
theorem dX9_asks_186 : decode cX9_asks 186 = .ok (.iastore, 1) := by decide +kernel
theorem dX9_asks_187 : decode cX9_asks 187 = .ok (.aload_n 0, 1) := by decide +kernel
theorem dX9_asks_188 : decode cX9_asks 188 = .ok (.getfield 13, 3) := by decide +kernel
theorem dX9_asks_191 : decode cX9_asks 191 = .ok (.sipush 325, 3) := by decide +kernel
theorem dX9_asks_194 : decode cX9_asks 194 = .ok (.dup2, 1) := by decide +kernel
theorem dX9_asks_195 : decode cX9_asks 195 = .ok (.iaload, 1) := by decide +kernel
theorem dX9_asks_196 : decode cX9_asks 196 = .ok (.aload_n 0, 1) := by decide +kernel
theorem dX9_asks_197 : decode cX9_asks 197 = .ok (.getfield 114, 3) := by decide +kernel
theorem dX9_asks_200 : decode cX9_asks 200 = .ok (.ifCond .le 7, 3) := by decide +kernel
theorem dX9_asks_203 : decode cX9_asks 203 = .ok (.iconst 1, 1) := by decide +kernel
theorem dX9_asks_204 : decode cX9_asks 204 = .ok (.goto 4, 3) := by decide +kernel
theorem dX9_asks_207 : decode cX9_asks 207 = .ok (.iconst 0, 1) := by decide +kernel
theorem dX9_asks_208 : decode cX9_asks 208 = .ok (.iadd, 1) := by decide +kernel
theorem dX9_asks_209 : decode cX9_asks 209 = .ok (.iastore, 1) := by decide +kernel
theorem dX9_asks_210 : decode cX9_asks 210 = .ok (.aload_n 0, 1) := by decide +kernel
theorem dX9_asks_211 : decode cX9_asks 211 = .ok (.getfield 114, 3) := by decide +kernel
theorem dX9_asks_214 : decode cX9_asks 214 = .ok (.ifCond .le 13, 3) := by decide +kernel
theorem dX9_asks_217 : decode cX9_asks 217 = .ok (.bipush (-2), 2) := by decide +kernel
theorem dX9_asks_219 : decode cX9_asks 219 = .ok (.aload_n 0, 1) := by decide +kernel
theorem dX9_asks_220 : decode cX9_asks 220 = .ok (.getfield 114, 3) := by decide +kernel
theorem dX9_asks_223 : decode cX9_asks 223 = .ok (.isub, 1) := by decide +kernel
theorem dX9_asks_224 : decode cX9_asks 224 = .ok (.goto 7, 3) := by decide +kernel
theorem dX9_asks_227 : decode cX9_asks 227 = .ok (.aload_n 0, 1) := by decide +kernel
theorem dX9_asks_228 : decode cX9_asks 228 = .ok (.getfield 143, 3) := by decide +kernel
theorem dX9_asks_231 : decode cX9_asks 231 = .ok (.ireturn, 1) := by decide +kernel
theorem dX9_canAsk_0 : decode cX9_canAsk 0 = .ok (.iload_n 1, 1) := by decide +kernel
theorem dX9_canAsk_1 : decode cX9_canAsk 1 = .ok (.invokestatic 159, 3) := by decide +kernel
theorem dX9_canAsk_4 : decode cX9_canAsk 4 = .ok (.ifCond .eq 28, 3) := by decide +kernel
theorem dX9_canAsk_7 : decode cX9_canAsk 7 = .ok (.iload_n 2, 1) := by decide +kernel
theorem dX9_canAsk_8 : decode cX9_canAsk 8 = .ok (.iconst 0, 1) := by decide +kernel
theorem dX9_canAsk_9 : decode cX9_canAsk 9 = .ok (.bipush 7, 2) := by decide +kernel
theorem dX9_canAsk_11 : decode cX9_canAsk 11 = .ok (.invokestatic 51, 3) := by decide +kernel
theorem dX9_canAsk_14 : decode cX9_canAsk 14 = .ok (.ifCond .eq 18, 3) := by decide +kernel
theorem dX9_canAsk_17 : decode cX9_canAsk 17 = .ok (.aload_n 0, 1) := by decide +kernel
theorem dX9_canAsk_18 : decode cX9_canAsk 18 = .ok (.getfield 13, 3) := by decide +kernel
theorem dX9_canAsk_21 : decode cX9_canAsk 21 = .ok (.sipush 344, 3) := by decide +kernel
theorem dX9_canAsk_24 : decode cX9_canAsk 24 = .ok (.iaload, 1) := by decide +kernel
theorem dX9_canAsk_25 : decode cX9_canAsk 25 = .ok (.ifCond .lt 7, 3) := by decide +kernel
theorem dX9_canAsk_28 : decode cX9_canAsk 28 = .ok (.iconst 1, 1) := by decide +kernel
theorem dX9_canAsk_29 : decode cX9_canAsk 29 = .ok (.goto 4, 3) := by decide +kernel
theorem dX9_canAsk_32 : decode cX9_canAsk 32 = .ok (.iconst 0, 1) := by decide +kernel
theorem dX9_canAsk_33 : decode cX9_canAsk 33 = .ok (.ireturn, 1) := by decide +kernel
theorem dX9_access_0 : decode cX9_access 0 = .ok (.aload_n 0, 1) := by decide +kernel
theorem dX9_access_1 : decode cX9_access 1 = .ok (.iconst 0, 1) := by decide +kernel
theorem dX9_access_2 : decode cX9_access 2 = .ok (.putfield 1, 3) := by decide +kernel
theorem dX9_access_5 : decode cX9_access 5 = .ok (.aload_n 0, 1) := by decide +kernel
theorem dX9_access_6 : decode cX9_access 6 = .ok (.iload_n 1, 1) := by decide +kernel
theorem dX9_access_7 : decode cX9_access 7 = .ok (.iload_n 2, 1) := by decide +kernel
theorem dX9_access_8 : decode cX9_access 8 = .ok (.invokevirtual 162, 3) := by decide +kernel
theorem dX9_access_11 : decode cX9_access 11 = .ok (.ifCond .eq 12, 3) := by decide +kernel
theorem dX9_access_14 : decode cX9_access 14 = .ok (.aload_n 0, 1) := by decide +kernel
theorem dX9_access_15 : decode cX9_access 15 = .ok (.iload_n 1, 1) := by decide +kernel
theorem dX9_access_16 : decode cX9_access 16 = .ok (.iload_n 2, 1) := by decide +kernel
theorem dX9_access_17 : decode cX9_access 17 = .ok (.invokevirtual 165, 3) := by decide +kernel
theorem dX9_access_20 : decode cX9_access 20 = .ok (.goto 4, 3) := by decide +kernel
theorem dX9_access_23 : decode cX9_access 23 = .ok (.iconst (-1), 1) := by decide +kernel
theorem dX9_access_24 : decode cX9_access 24 = .ok (.ireturn, 1) := by decide +kernel
theorem dX9_foretells_0 : decode cX9_foretells 0 = .ok (.iconst 0, 1) := by decide +kernel
theorem dX9_foretells_1 : decode cX9_foretells 1 = .ok (.istore_n 3, 1) := by decide +kernel
theorem dX9_foretells_2 : decode cX9_foretells 2 = .ok (.iload_n 3, 1) := by decide +kernel
theorem dX9_foretells_3 : decode cX9_foretells 3 = .ok (.sipush 345, 3) := by decide +kernel
theorem dX9_foretells_6 : decode cX9_foretells 6 = .ok (.if_icmp .ge 21, 3) := by decide +kernel
theorem dX9_foretells_9 : decode cX9_foretells 9 = .ok (.aload_n 0, 1) := by decide +kernel
theorem dX9_foretells_10 : decode cX9_foretells 10 = .ok (.getfield 17, 3) := by decide +kernel
theorem dX9_foretells_13 : decode cX9_foretells 13 = .ok (.iload_n 3, 1) := by decide +kernel
theorem dX9_foretells_14 : decode cX9_foretells 14 = .ok (.aload_n 0, 1) := by decide +kernel
theorem dX9_foretells_15 : decode cX9_foretells 15 = .ok (.getfield 13, 3) := by decide +kernel
theorem dX9_foretells_18 : decode cX9_foretells 18 = .ok (.iload_n 3, 1) := by decide +kernel
theorem dX9_foretells_19 : decode cX9_foretells 19 = .ok (.iaload, 1) := by decide +kernel
theorem dX9_foretells_20 : decode cX9_foretells 20 = .ok (.iastore, 1) := by decide +kernel
theorem dX9_foretells_21 : decode cX9_foretells 21 = .ok (.iinc 3 1, 3) := by decide +kernel
theorem dX9_foretells_24 : decode cX9_foretells 24 = .ok (.goto (-22), 3) := by decide +kernel
theorem dX9_foretells_27 : decode cX9_foretells 27 = .ok (.aload_n 0, 1) := by decide +kernel
theorem dX9_foretells_28 : decode cX9_foretells 28 = .ok (.iload_n 1, 1) := by decide +kernel
theorem dX9_foretells_29 : decode cX9_foretells 29 = .ok (.iload_n 2, 1) := by decide +kernel
theorem dX9_foretells_30 : decode cX9_foretells 30 = .ok (.invokevirtual 165, 3) := by decide +kernel
theorem dX9_foretells_33 : decode cX9_foretells 33 = .ok (.istore_n 3, 1) := by decide +kernel
theorem dX9_foretells_34 : decode cX9_foretells 34 = .ok (.iconst 0, 1) := by decide +kernel
theorem dX9_foretells_35 : decode cX9_foretells 35 = .ok (.istore 4, 2) := by decide +kernel
theorem dX9_foretells_37 : decode cX9_foretells 37 = .ok (.iload 4, 2) := by decide +kernel
theorem dX9_foretells_39 : decode cX9_foretells 39 = .ok (.sipush 345, 3) := by decide +kernel
theorem dX9_foretells_42 : decode cX9_foretells 42 = .ok (.if_icmp .ge 23, 3) := by decide +kernel
theorem dX9_foretells_45 : decode cX9_foretells 45 = .ok (.aload_n 0, 1) := by decide +kernel
theorem dX9_foretells_46 : decode cX9_foretells 46 = .ok (.getfield 13, 3) := by decide +kernel
theorem dX9_foretells_49 : decode cX9_foretells 49 = .ok (.iload 4, 2) := by decide +kernel
theorem dX9_foretells_51 : decode cX9_foretells 51 = .ok (.aload_n 0, 1) := by decide +kernel
theorem dX9_foretells_52 : decode cX9_foretells 52 = .ok (.getfield 17, 3) := by decide +kernel
theorem dX9_foretells_55 : decode cX9_foretells 55 = .ok (.iload 4, 2) := by decide +kernel
theorem dX9_foretells_57 : decode cX9_foretells 57 = .ok (.iaload, 1) := by decide +kernel
theorem dX9_foretells_58 : decode cX9_foretells 58 = .ok (.iastore, 1) := by decide +kernel
theorem dX9_foretells_59 : decode cX9_foretells 59 = .ok (.iinc 4 1, 3) := by decide +kernel
theorem dX9_foretells_62 : decode cX9_foretells 62 = .ok (.goto (-25), 3) := by decide +kernel
theorem dX9_foretells_65 : decode cX9_foretells 65 = .ok (.iload_n 3, 1) := by decide +kernel
theorem dX9_foretells_66 : decode cX9_foretells 66 = .ok (.ireturn, 1) := by decide +kernel
theorem dX9_would_0 : decode cX9_would 0 = .ok (.aload_n 0, 1) := by decide +kernel
theorem dX9_would_1 : decode cX9_would 1 = .ok (.iconst 0, 1) := by decide +kernel
theorem dX9_would_2 : decode cX9_would 2 = .ok (.putfield 1, 3) := by decide +kernel
theorem dX9_would_5 : decode cX9_would 5 = .ok (.aload_n 0, 1) := by decide +kernel
theorem dX9_would_6 : decode cX9_would 6 = .ok (.iload_n 1, 1) := by decide +kernel
theorem dX9_would_7 : decode cX9_would 7 = .ok (.iload_n 2, 1) := by decide +kernel
theorem dX9_would_8 : decode cX9_would 8 = .ok (.invokevirtual 162, 3) := by decide +kernel
theorem dX9_would_11 : decode cX9_would 11 = .ok (.ifCond .eq 12, 3) := by decide +kernel
theorem dX9_would_14 : decode cX9_would 14 = .ok (.aload_n 0, 1) := by decide +kernel
theorem dX9_would_15 : decode cX9_would 15 = .ok (.iload_n 1, 1) := by decide +kernel
theorem dX9_would_16 : decode cX9_would 16 = .ok (.iload_n 2, 1) := by decide +kernel
theorem dX9_would_17 : decode cX9_would 17 = .ok (.invokevirtual 168, 3) := by decide +kernel
theorem dX9_would_20 : decode cX9_would 20 = .ok (.goto 4, 3) := by decide +kernel
theorem dX9_would_23 : decode cX9_would 23 = .ok (.iconst (-1), 1) := by decide +kernel
theorem dX9_would_24 : decode cX9_would 24 = .ok (.ireturn, 1) := by decide +kernel
theorem dX9_steps_0 : decode cX9_steps 0 = .ok (.aload_n 0, 1) := by decide +kernel
theorem dX9_steps_1 : decode cX9_steps 1 = .ok (.iconst 0, 1) := by decide +kernel
theorem dX9_steps_2 : decode cX9_steps 2 = .ok (.putfield 1, 3) := by decide +kernel
theorem dX9_steps_5 : decode cX9_steps 5 = .ok (.aload_n 0, 1) := by decide +kernel
theorem dX9_steps_6 : decode cX9_steps 6 = .ok (.iload_n 1, 1) := by decide +kernel
theorem dX9_steps_7 : decode cX9_steps 7 = .ok (.iload_n 2, 1) := by decide +kernel
theorem dX9_steps_8 : decode cX9_steps 8 = .ok (.invokevirtual 162, 3) := by decide +kernel
theorem dX9_steps_11 : decode cX9_steps 11 = .ok (.ifCond .ne 5, 3) := by decide +kernel
theorem dX9_steps_14 : decode cX9_steps 14 = .ok (.iconst (-1), 1) := by decide +kernel
theorem dX9_steps_15 : decode cX9_steps 15 = .ok (.ireturn, 1) := by decide +kernel
theorem dX9_steps_16 : decode cX9_steps 16 = .ok (.aload_n 0, 1) := by decide +kernel
theorem dX9_steps_17 : decode cX9_steps 17 = .ok (.iload_n 1, 1) := by decide +kernel
theorem dX9_steps_18 : decode cX9_steps 18 = .ok (.iload_n 2, 1) := by decide +kernel
theorem dX9_steps_19 : decode cX9_steps 19 = .ok (.invokevirtual 168, 3) := by decide +kernel
theorem dX9_steps_22 : decode cX9_steps 22 = .ok (.istore_n 3, 1) := by decide +kernel
theorem dX9_steps_23 : decode cX9_steps 23 = .ok (.iload_n 3, 1) := by decide +kernel
theorem dX9_steps_24 : decode cX9_steps 24 = .ok (.iconst (-1), 1) := by decide +kernel
theorem dX9_steps_25 : decode cX9_steps 25 = .ok (.if_icmp .ne 7, 3) := by decide +kernel
theorem dX9_steps_28 : decode cX9_steps 28 = .ok (.iconst (-1), 1) := by decide +kernel
theorem dX9_steps_29 : decode cX9_steps 29 = .ok (.goto 7, 3) := by decide +kernel
theorem dX9_steps_32 : decode cX9_steps 32 = .ok (.aload_n 0, 1) := by decide +kernel
theorem dX9_steps_33 : decode cX9_steps 33 = .ok (.getfield 130, 3) := by decide +kernel
theorem dX9_steps_36 : decode cX9_steps 36 = .ok (.ireturn, 1) := by decide +kernel
theorem dX9_keeps_0 : decode cX9_keeps 0 = .ok (.sipush 276, 3) := by decide +kernel
theorem dX9_keeps_3 : decode cX9_keeps 3 = .ok (.bipush 11, 2) := by decide +kernel
theorem dX9_keeps_5 : decode cX9_keeps 5 = .ok (.iload_n 1, 1) := by decide +kernel
theorem dX9_keeps_6 : decode cX9_keeps 6 = .ok (.imul, 1) := by decide +kernel
theorem dX9_keeps_7 : decode cX9_keeps 7 = .ok (.iadd, 1) := by decide +kernel
theorem dX9_keeps_8 : decode cX9_keeps 8 = .ok (.istore_n 2, 1) := by decide +kernel
theorem dX9_keeps_9 : decode cX9_keeps 9 = .ok (.aload_n 0, 1) := by decide +kernel
theorem dX9_keeps_10 : decode cX9_keeps 10 = .ok (.getfield 13, 3) := by decide +kernel
theorem dX9_keeps_13 : decode cX9_keeps 13 = .ok (.iload_n 2, 1) := by decide +kernel
theorem dX9_keeps_14 : decode cX9_keeps 14 = .ok (.bipush 6, 2) := by decide +kernel
theorem dX9_keeps_16 : decode cX9_keeps 16 = .ok (.iadd, 1) := by decide +kernel
theorem dX9_keeps_17 : decode cX9_keeps 17 = .ok (.aload_n 0, 1) := by decide +kernel
theorem dX9_keeps_18 : decode cX9_keeps 18 = .ok (.getfield 117, 3) := by decide +kernel
theorem dX9_keeps_21 : decode cX9_keeps 21 = .ok (.iastore, 1) := by decide +kernel
theorem dX9_keeps_22 : decode cX9_keeps 22 = .ok (.aload_n 0, 1) := by decide +kernel
theorem dX9_keeps_23 : decode cX9_keeps 23 = .ok (.getfield 13, 3) := by decide +kernel
theorem dX9_keeps_26 : decode cX9_keeps 26 = .ok (.iload_n 2, 1) := by decide +kernel
theorem dX9_keeps_27 : decode cX9_keeps 27 = .ok (.bipush 7, 2) := by decide +kernel
theorem dX9_keeps_29 : decode cX9_keeps 29 = .ok (.iadd, 1) := by decide +kernel
theorem dX9_keeps_30 : decode cX9_keeps 30 = .ok (.aload_n 0, 1) := by decide +kernel
theorem dX9_keeps_31 : decode cX9_keeps 31 = .ok (.getfield 120, 3) := by decide +kernel
theorem dX9_keeps_34 : decode cX9_keeps 34 = .ok (.iastore, 1) := by decide +kernel
theorem dX9_keeps_35 : decode cX9_keeps 35 = .ok (.aload_n 0, 1) := by decide +kernel
theorem dX9_keeps_36 : decode cX9_keeps 36 = .ok (.getfield 13, 3) := by decide +kernel
theorem dX9_keeps_39 : decode cX9_keeps 39 = .ok (.iload_n 2, 1) := by decide +kernel
theorem dX9_keeps_40 : decode cX9_keeps 40 = .ok (.bipush 8, 2) := by decide +kernel
theorem dX9_keeps_42 : decode cX9_keeps 42 = .ok (.iadd, 1) := by decide +kernel
theorem dX9_keeps_43 : decode cX9_keeps 43 = .ok (.aload_n 0, 1) := by decide +kernel
theorem dX9_keeps_44 : decode cX9_keeps 44 = .ok (.getfield 123, 3) := by decide +kernel
theorem dX9_keeps_47 : decode cX9_keeps 47 = .ok (.iastore, 1) := by decide +kernel
theorem dX9_keeps_48 : decode cX9_keeps 48 = .ok (.return_, 1) := by decide +kernel
theorem dX9_begin_0 : decode cX9_begin 0 = .ok (.aload_n 0, 1) := by decide +kernel
theorem dX9_begin_1 : decode cX9_begin 1 = .ok (.iconst 0, 1) := by decide +kernel
theorem dX9_begin_2 : decode cX9_begin 2 = .ok (.putfield 1, 3) := by decide +kernel
theorem dX9_begin_5 : decode cX9_begin 5 = .ok (.iload_n 1, 1) := by decide +kernel
theorem dX9_begin_6 : decode cX9_begin 6 = .ok (.iconst 0, 1) := by decide +kernel
theorem dX9_begin_7 : decode cX9_begin 7 = .ok (.iconst 3, 1) := by decide +kernel
theorem dX9_begin_8 : decode cX9_begin 8 = .ok (.invokestatic 51, 3) := by decide +kernel
theorem dX9_begin_11 : decode cX9_begin 11 = .ok (.ifCond .eq 20, 3) := by decide +kernel
theorem dX9_begin_14 : decode cX9_begin 14 = .ok (.aload_n 0, 1) := by decide +kernel
theorem dX9_begin_15 : decode cX9_begin 15 = .ok (.iload_n 2, 1) := by decide +kernel
theorem dX9_begin_16 : decode cX9_begin 16 = .ok (.iload_n 3, 1) := by decide +kernel
theorem dX9_begin_17 : decode cX9_begin 17 = .ok (.invokevirtual 162, 3) := by decide +kernel
theorem dX9_begin_20 : decode cX9_begin 20 = .ok (.ifCond .eq 11, 3) := by decide +kernel
theorem dX9_begin_23 : decode cX9_begin 23 = .ok (.aload_n 0, 1) := by decide +kernel
theorem dX9_begin_24 : decode cX9_begin 24 = .ok (.iload_n 1, 1) := by decide +kernel
theorem dX9_begin_25 : decode cX9_begin 25 = .ok (.invokevirtual 80, 3) := by decide +kernel
theorem dX9_begin_28 : decode cX9_begin 28 = .ok (.ifCond .eq 5, 3) := by decide +kernel
theorem dX9_begin_31 : decode cX9_begin 31 = .ok (.iconst (-1), 1) := by decide +kernel
theorem dX9_begin_32 : decode cX9_begin 32 = .ok (.ireturn, 1) := by decide +kernel
theorem dX9_begin_33 : decode cX9_begin 33 = .ok (.sipush 276, 3) := by decide +kernel
theorem dX9_begin_36 : decode cX9_begin 36 = .ok (.bipush 11, 2) := by decide +kernel
theorem dX9_begin_38 : decode cX9_begin 38 = .ok (.iload_n 1, 1) := by decide +kernel
theorem dX9_begin_39 : decode cX9_begin 39 = .ok (.imul, 1) := by decide +kernel
theorem dX9_begin_40 : decode cX9_begin 40 = .ok (.iadd, 1) := by decide +kernel
theorem dX9_begin_41 : decode cX9_begin 41 = .ok (.istore 5, 2) := by decide +kernel
theorem dX9_begin_43 : decode cX9_begin 43 = .ok (.aload_n 0, 1) := by decide +kernel
theorem dX9_begin_44 : decode cX9_begin 44 = .ok (.getfield 13, 3) := by decide +kernel
theorem dX9_begin_47 : decode cX9_begin 47 = .ok (.iload 5, 2) := by decide +kernel
theorem dX9_begin_49 : decode cX9_begin 49 = .ok (.iconst 1, 1) := by decide +kernel
theorem dX9_begin_50 : decode cX9_begin 50 = .ok (.iadd, 1) := by decide +kernel
theorem dX9_begin_51 : decode cX9_begin 51 = .ok (.iload_n 2, 1) := by decide +kernel
theorem dX9_begin_52 : decode cX9_begin 52 = .ok (.iastore, 1) := by decide +kernel
theorem dX9_begin_53 : decode cX9_begin 53 = .ok (.aload_n 0, 1) := by decide +kernel
theorem dX9_begin_54 : decode cX9_begin 54 = .ok (.getfield 13, 3) := by decide +kernel
theorem dX9_begin_57 : decode cX9_begin 57 = .ok (.iload 5, 2) := by decide +kernel
theorem dX9_begin_59 : decode cX9_begin 59 = .ok (.iconst 2, 1) := by decide +kernel
theorem dX9_begin_60 : decode cX9_begin 60 = .ok (.iadd, 1) := by decide +kernel
theorem dX9_begin_61 : decode cX9_begin 61 = .ok (.iload_n 3, 1) := by decide +kernel
theorem dX9_begin_62 : decode cX9_begin 62 = .ok (.iastore, 1) := by decide +kernel
theorem dX9_begin_63 : decode cX9_begin 63 = .ok (.aload_n 0, 1) := by decide +kernel
theorem dX9_begin_64 : decode cX9_begin 64 = .ok (.getfield 13, 3) := by decide +kernel
theorem dX9_begin_67 : decode cX9_begin 67 = .ok (.iload 5, 2) := by decide +kernel
theorem dX9_begin_69 : decode cX9_begin 69 = .ok (.iconst 3, 1) := by decide +kernel
theorem dX9_begin_70 : decode cX9_begin 70 = .ok (.iadd, 1) := by decide +kernel
theorem dX9_begin_71 : decode cX9_begin 71 = .ok (.iload 4, 2) := by decide +kernel
theorem dX9_begin_73 : decode cX9_begin 73 = .ok (.ifCond .eq 7, 3) := by decide +kernel
theorem dX9_begin_76 : decode cX9_begin 76 = .ok (.iconst 1, 1) := by decide +kernel
theorem dX9_begin_77 : decode cX9_begin 77 = .ok (.goto 4, 3) := by decide +kernel
theorem dX9_begin_80 : decode cX9_begin 80 = .ok (.iconst 0, 1) := by decide +kernel
theorem dX9_begin_81 : decode cX9_begin 81 = .ok (.iastore, 1) := by decide +kernel
theorem dX9_begin_82 : decode cX9_begin 82 = .ok (.aload_n 0, 1) := by decide +kernel
theorem dX9_begin_83 : decode cX9_begin 83 = .ok (.getfield 13, 3) := by decide +kernel
theorem dX9_begin_86 : decode cX9_begin 86 = .ok (.iload 5, 2) := by decide +kernel
theorem dX9_begin_88 : decode cX9_begin 88 = .ok (.iconst 4, 1) := by decide +kernel
theorem dX9_begin_89 : decode cX9_begin 89 = .ok (.iadd, 1) := by decide +kernel
theorem dX9_begin_90 : decode cX9_begin 90 = .ok (.iconst 0, 1) := by decide +kernel
theorem dX9_begin_91 : decode cX9_begin 91 = .ok (.iastore, 1) := by decide +kernel
theorem dX9_begin_92 : decode cX9_begin 92 = .ok (.aload_n 0, 1) := by decide +kernel
theorem dX9_begin_93 : decode cX9_begin 93 = .ok (.getfield 13, 3) := by decide +kernel
theorem dX9_begin_96 : decode cX9_begin 96 = .ok (.iload 5, 2) := by decide +kernel
theorem dX9_begin_98 : decode cX9_begin 98 = .ok (.bipush 9, 2) := by decide +kernel
theorem dX9_begin_100 : decode cX9_begin 100 = .ok (.iadd, 1) := by decide +kernel
theorem dX9_begin_101 : decode cX9_begin 101 = .ok (.aload_n 0, 1) := by decide +kernel
theorem dX9_begin_102 : decode cX9_begin 102 = .ok (.getfield 13, 3) := by decide +kernel
theorem dX9_begin_105 : decode cX9_begin 105 = .ok (.sipush 332, 3) := by decide +kernel
theorem dX9_begin_108 : decode cX9_begin 108 = .ok (.aload_n 0, 1) := by decide +kernel
theorem dX9_begin_109 : decode cX9_begin 109 = .ok (.getfield 13, 3) := by decide +kernel
theorem dX9_begin_112 : decode cX9_begin 112 = .ok (.sipush 344, 3) := by decide +kernel
theorem dX9_begin_115 : decode cX9_begin 115 = .ok (.iaload, 1) := by decide +kernel
theorem dX9_begin_116 : decode cX9_begin 116 = .ok (.iadd, 1) := by decide +kernel
theorem dX9_begin_117 : decode cX9_begin 117 = .ok (.iaload, 1) := by decide +kernel
theorem dX9_begin_118 : decode cX9_begin 118 = .ok (.iastore, 1) := by decide +kernel
theorem dX9_begin_119 : decode cX9_begin 119 = .ok (.aload_n 0, 1) := by decide +kernel
theorem dX9_begin_120 : decode cX9_begin 120 = .ok (.aload_n 0, 1) := by decide +kernel
theorem dX9_begin_121 : decode cX9_begin 121 = .ok (.getfield 13, 3) := by decide +kernel
theorem dX9_begin_124 : decode cX9_begin 124 = .ok (.iload 5, 2) := by decide +kernel
theorem dX9_begin_126 : decode cX9_begin 126 = .ok (.bipush 9, 2) := by decide +kernel
theorem dX9_begin_128 : decode cX9_begin 128 = .ok (.iadd, 1) := by decide +kernel
theorem dX9_begin_129 : decode cX9_begin 129 = .ok (.iaload, 1) := by decide +kernel
theorem dX9_begin_130 : decode cX9_begin 130 = .ok (.iload_n 2, 1) := by decide +kernel
theorem dX9_begin_131 : decode cX9_begin 131 = .ok (.invokevirtual 152, 3) := by decide +kernel
theorem dX9_begin_134 : decode cX9_begin 134 = .ok (.aload_n 0, 1) := by decide +kernel
theorem dX9_begin_135 : decode cX9_begin 135 = .ok (.iload_n 1, 1) := by decide +kernel
theorem dX9_begin_136 : decode cX9_begin 136 = .ok (.invokevirtual 171, 3) := by decide +kernel
theorem dX9_begin_139 : decode cX9_begin 139 = .ok (.aload_n 0, 1) := by decide +kernel
theorem dX9_begin_140 : decode cX9_begin 140 = .ok (.getfield 13, 3) := by decide +kernel
theorem dX9_begin_143 : decode cX9_begin 143 = .ok (.iload 5, 2) := by decide +kernel
theorem dX9_begin_145 : decode cX9_begin 145 = .ok (.aload_n 0, 1) := by decide +kernel
theorem dX9_begin_146 : decode cX9_begin 146 = .ok (.getfield 114, 3) := by decide +kernel
theorem dX9_begin_149 : decode cX9_begin 149 = .ok (.ifCond .le 7, 3) := by decide +kernel
theorem dX9_begin_152 : decode cX9_begin 152 = .ok (.iconst 3, 1) := by decide +kernel
theorem dX9_begin_153 : decode cX9_begin 153 = .ok (.goto 4, 3) := by decide +kernel
theorem dX9_begin_156 : decode cX9_begin 156 = .ok (.iconst 1, 1) := by decide +kernel
theorem dX9_begin_157 : decode cX9_begin 157 = .ok (.iastore, 1) := by decide +kernel
theorem dX9_begin_158 : decode cX9_begin 158 = .ok (.aload_n 0, 1) := by decide +kernel
theorem dX9_begin_159 : decode cX9_begin 159 = .ok (.getfield 13, 3) := by decide +kernel
theorem dX9_begin_162 : decode cX9_begin 162 = .ok (.iload 5, 2) := by decide +kernel
theorem dX9_begin_164 : decode cX9_begin 164 = .ok (.iconst 5, 1) := by decide +kernel
theorem dX9_begin_165 : decode cX9_begin 165 = .ok (.iadd, 1) := by decide +kernel
theorem dX9_begin_166 : decode cX9_begin 166 = .ok (.aload_n 0, 1) := by decide +kernel
theorem dX9_begin_167 : decode cX9_begin 167 = .ok (.getfield 114, 3) := by decide +kernel
theorem dX9_begin_170 : decode cX9_begin 170 = .ok (.iastore, 1) := by decide +kernel
theorem dX9_begin_171 : decode cX9_begin 171 = .ok (.aload_n 0, 1) := by decide +kernel
theorem dX9_begin_172 : decode cX9_begin 172 = .ok (.getfield 13, 3) := by decide +kernel
theorem dX9_begin_175 : decode cX9_begin 175 = .ok (.iload 5, 2) := by decide +kernel
theorem dX9_begin_177 : decode cX9_begin 177 = .ok (.iaload, 1) := by decide +kernel
theorem dX9_begin_178 : decode cX9_begin 178 = .ok (.ireturn, 1) := by decide +kernel
theorem dX9_turn_0 : decode cX9_turn 0 = .ok (.aload_n 0, 1) := by decide +kernel
theorem dX9_turn_1 : decode cX9_turn 1 = .ok (.iconst 0, 1) := by decide +kernel
theorem dX9_turn_2 : decode cX9_turn 2 = .ok (.putfield 1, 3) := by decide +kernel
theorem dX9_turn_5 : decode cX9_turn 5 = .ok (.iload_n 1, 1) := by decide +kernel
theorem dX9_turn_6 : decode cX9_turn 6 = .ok (.iconst 0, 1) := by decide +kernel
theorem dX9_turn_7 : decode cX9_turn 7 = .ok (.iconst 3, 1) := by decide +kernel
theorem dX9_turn_8 : decode cX9_turn 8 = .ok (.invokestatic 51, 3) := by decide +kernel
theorem dX9_turn_11 : decode cX9_turn 11 = .ok (.ifCond .eq 11, 3) := by decide +kernel
theorem dX9_turn_14 : decode cX9_turn 14 = .ok (.aload_n 0, 1) := by decide +kernel
theorem dX9_turn_15 : decode cX9_turn 15 = .ok (.iload_n 1, 1) := by decide +kernel
theorem dX9_turn_16 : decode cX9_turn 16 = .ok (.invokevirtual 80, 3) := by decide +kernel
theorem dX9_turn_19 : decode cX9_turn 19 = .ok (.ifCond .ne 5, 3) := by decide +kernel
theorem dX9_turn_22 : decode cX9_turn 22 = .ok (.iconst (-1), 1) := by decide +kernel
theorem dX9_turn_23 : decode cX9_turn 23 = .ok (.ireturn, 1) := by decide +kernel
theorem dX9_turn_24 : decode cX9_turn 24 = .ok (.sipush 276, 3) := by decide +kernel
theorem dX9_turn_27 : decode cX9_turn 27 = .ok (.bipush 11, 2) := by decide +kernel
theorem dX9_turn_29 : decode cX9_turn 29 = .ok (.iload_n 1, 1) := by decide +kernel
theorem dX9_turn_30 : decode cX9_turn 30 = .ok (.imul, 1) := by decide +kernel
theorem dX9_turn_31 : decode cX9_turn 31 = .ok (.iadd, 1) := by decide +kernel
theorem dX9_turn_32 : decode cX9_turn 32 = .ok (.istore_n 2, 1) := by decide +kernel
theorem dX9_turn_33 : decode cX9_turn 33 = .ok (.aload_n 0, 1) := by decide +kernel
theorem dX9_turn_34 : decode cX9_turn 34 = .ok (.aload_n 0, 1) := by decide +kernel
theorem dX9_turn_35 : decode cX9_turn 35 = .ok (.getfield 13, 3) := by decide +kernel
theorem dX9_turn_38 : decode cX9_turn 38 = .ok (.iload_n 2, 1) := by decide +kernel
theorem dX9_turn_39 : decode cX9_turn 39 = .ok (.bipush 6, 2) := by decide +kernel
theorem dX9_turn_41 : decode cX9_turn 41 = .ok (.iadd, 1) := by decide +kernel
theorem dX9_turn_42 : decode cX9_turn 42 = .ok (.iaload, 1) := by decide +kernel
theorem dX9_turn_43 : decode cX9_turn 43 = .ok (.putfield 117, 3) := by decide +kernel
theorem dX9_turn_46 : decode cX9_turn 46 = .ok (.aload_n 0, 1) := by decide +kernel
theorem dX9_turn_47 : decode cX9_turn 47 = .ok (.aload_n 0, 1) := by decide +kernel
theorem dX9_turn_48 : decode cX9_turn 48 = .ok (.getfield 13, 3) := by decide +kernel
theorem dX9_turn_51 : decode cX9_turn 51 = .ok (.iload_n 2, 1) := by decide +kernel
theorem dX9_turn_52 : decode cX9_turn 52 = .ok (.bipush 7, 2) := by decide +kernel
theorem dX9_turn_54 : decode cX9_turn 54 = .ok (.iadd, 1) := by decide +kernel
theorem dX9_turn_55 : decode cX9_turn 55 = .ok (.iaload, 1) := by decide +kernel
theorem dX9_turn_56 : decode cX9_turn 56 = .ok (.putfield 120, 3) := by decide +kernel
theorem dX9_turn_59 : decode cX9_turn 59 = .ok (.aload_n 0, 1) := by decide +kernel
theorem dX9_turn_60 : decode cX9_turn 60 = .ok (.aload_n 0, 1) := by decide +kernel
theorem dX9_turn_61 : decode cX9_turn 61 = .ok (.getfield 13, 3) := by decide +kernel
theorem dX9_turn_64 : decode cX9_turn 64 = .ok (.iload_n 2, 1) := by decide +kernel
theorem dX9_turn_65 : decode cX9_turn 65 = .ok (.bipush 8, 2) := by decide +kernel
theorem dX9_turn_67 : decode cX9_turn 67 = .ok (.iadd, 1) := by decide +kernel
theorem dX9_turn_68 : decode cX9_turn 68 = .ok (.iaload, 1) := by decide +kernel
theorem dX9_turn_69 : decode cX9_turn 69 = .ok (.putfield 123, 3) := by decide +kernel
theorem dX9_turn_72 : decode cX9_turn 72 = .ok (.aload_n 0, 1) := by decide +kernel
theorem dX9_turn_73 : decode cX9_turn 73 = .ok (.iconst 0, 1) := by decide +kernel
theorem dX9_turn_74 : decode cX9_turn 74 = .ok (.putfield 130, 3) := by decide +kernel
theorem dX9_turn_77 : decode cX9_turn 77 = .ok (.aload_n 0, 1) := by decide +kernel
theorem dX9_turn_78 : decode cX9_turn 78 = .ok (.iconst 0, 1) := by decide +kernel
theorem dX9_turn_79 : decode cX9_turn 79 = .ok (.putfield 114, 3) := by decide +kernel
theorem dX9_turn_82 : decode cX9_turn 82 = .ok (.aload_n 0, 1) := by decide +kernel
theorem dX9_turn_83 : decode cX9_turn 83 = .ok (.aload_n 0, 1) := by decide +kernel
theorem dX9_turn_84 : decode cX9_turn 84 = .ok (.getfield 13, 3) := by decide +kernel
theorem dX9_turn_87 : decode cX9_turn 87 = .ok (.iload_n 2, 1) := by decide +kernel
theorem dX9_turn_88 : decode cX9_turn 88 = .ok (.bipush 9, 2) := by decide +kernel
theorem dX9_turn_90 : decode cX9_turn 90 = .ok (.iadd, 1) := by decide +kernel
theorem dX9_turn_91 : decode cX9_turn 91 = .ok (.iaload, 1) := by decide +kernel
theorem dX9_turn_92 : decode cX9_turn 92 = .ok (.aload_n 0, 1) := by decide +kernel
theorem dX9_turn_93 : decode cX9_turn 93 = .ok (.getfield 13, 3) := by decide +kernel
theorem dX9_turn_96 : decode cX9_turn 96 = .ok (.iload_n 2, 1) := by decide +kernel
theorem dX9_turn_97 : decode cX9_turn 97 = .ok (.iconst 1, 1) := by decide +kernel
theorem dX9_turn_98 : decode cX9_turn 98 = .ok (.iadd, 1) := by decide +kernel
theorem dX9_turn_99 : decode cX9_turn 99 = .ok (.iaload, 1) := by decide +kernel
theorem dX9_turn_100 : decode cX9_turn 100 = .ok (.aload_n 0, 1) := by decide +kernel
theorem dX9_turn_101 : decode cX9_turn 101 = .ok (.getfield 13, 3) := by decide +kernel
theorem dX9_turn_104 : decode cX9_turn 104 = .ok (.iload_n 2, 1) := by decide +kernel
theorem dX9_turn_105 : decode cX9_turn 105 = .ok (.iconst 2, 1) := by decide +kernel
theorem dX9_turn_106 : decode cX9_turn 106 = .ok (.iadd, 1) := by decide +kernel
theorem dX9_turn_107 : decode cX9_turn 107 = .ok (.iaload, 1) := by decide +kernel
theorem dX9_turn_108 : decode cX9_turn 108 = .ok (.aload_n 0, 1) := by decide +kernel
theorem dX9_turn_109 : decode cX9_turn 109 = .ok (.getfield 13, 3) := by decide +kernel
theorem dX9_turn_112 : decode cX9_turn 112 = .ok (.iload_n 2, 1) := by decide +kernel
theorem dX9_turn_113 : decode cX9_turn 113 = .ok (.iconst 3, 1) := by decide +kernel
theorem dX9_turn_114 : decode cX9_turn 114 = .ok (.iadd, 1) := by decide +kernel
theorem dX9_turn_115 : decode cX9_turn 115 = .ok (.iaload, 1) := by decide +kernel
theorem dX9_turn_116 : decode cX9_turn 116 = .ok (.iconst 1, 1) := by decide +kernel
theorem dX9_turn_117 : decode cX9_turn 117 = .ok (.if_icmp .ne 7, 3) := by decide +kernel
theorem dX9_turn_120 : decode cX9_turn 120 = .ok (.iconst 1, 1) := by decide +kernel
theorem dX9_turn_121 : decode cX9_turn 121 = .ok (.goto 4, 3) := by decide +kernel
theorem dX9_turn_124 : decode cX9_turn 124 = .ok (.iconst 0, 1) := by decide +kernel
theorem dX9_turn_125 : decode cX9_turn 125 = .ok (.invokevirtual 155, 3) := by decide +kernel
theorem dX9_turn_128 : decode cX9_turn 128 = .ok (.istore_n 3, 1) := by decide +kernel
theorem dX9_turn_129 : decode cX9_turn 129 = .ok (.aload_n 0, 1) := by decide +kernel
theorem dX9_turn_130 : decode cX9_turn 130 = .ok (.iload_n 1, 1) := by decide +kernel
theorem dX9_turn_131 : decode cX9_turn 131 = .ok (.invokevirtual 171, 3) := by decide +kernel
theorem dX9_turn_134 : decode cX9_turn 134 = .ok (.aload_n 0, 1) := by decide +kernel
theorem dX9_turn_135 : decode cX9_turn 135 = .ok (.getfield 13, 3) := by decide +kernel
theorem dX9_turn_138 : decode cX9_turn 138 = .ok (.iload_n 2, 1) := by decide +kernel
theorem dX9_turn_139 : decode cX9_turn 139 = .ok (.iconst 4, 1) := by decide +kernel
theorem dX9_turn_140 : decode cX9_turn 140 = .ok (.iadd, 1) := by decide +kernel
theorem dX9_turn_141 : decode cX9_turn 141 = .ok (.dup2, 1) := by decide +kernel
theorem dX9_turn_142 : decode cX9_turn 142 = .ok (.iaload, 1) := by decide +kernel
theorem dX9_turn_143 : decode cX9_turn 143 = .ok (.aload_n 0, 1) := by decide +kernel
theorem dX9_turn_144 : decode cX9_turn 144 = .ok (.getfield 130, 3) := by decide +kernel
theorem dX9_turn_147 : decode cX9_turn 147 = .ok (.iadd, 1) := by decide +kernel
theorem dX9_turn_148 : decode cX9_turn 148 = .ok (.iastore, 1) := by decide +kernel
theorem dX9_turn_149 : decode cX9_turn 149 = .ok (.aload_n 0, 1) := by decide +kernel
theorem dX9_turn_150 : decode cX9_turn 150 = .ok (.getfield 13, 3) := by decide +kernel
theorem dX9_turn_153 : decode cX9_turn 153 = .ok (.sipush 323, 3) := by decide +kernel
theorem dX9_turn_156 : decode cX9_turn 156 = .ok (.dup2, 1) := by decide +kernel
theorem dX9_turn_157 : decode cX9_turn 157 = .ok (.iaload, 1) := by decide +kernel
theorem dX9_turn_158 : decode cX9_turn 158 = .ok (.aload_n 0, 1) := by decide +kernel
theorem dX9_turn_159 : decode cX9_turn 159 = .ok (.getfield 130, 3) := by decide +kernel
theorem dX9_turn_162 : decode cX9_turn 162 = .ok (.iadd, 1) := by decide +kernel
theorem dX9_turn_163 : decode cX9_turn 163 = .ok (.iastore, 1) := by decide +kernel
theorem dX9_turn_164 : decode cX9_turn 164 = .ok (.aload_n 0, 1) := by decide +kernel
theorem dX9_turn_165 : decode cX9_turn 165 = .ok (.getfield 13, 3) := by decide +kernel
theorem dX9_turn_168 : decode cX9_turn 168 = .ok (.iload_n 2, 1) := by decide +kernel
theorem dX9_turn_169 : decode cX9_turn 169 = .ok (.iload_n 3, 1) := by decide +kernel
theorem dX9_turn_170 : decode cX9_turn 170 = .ok (.ifCond .eq 7, 3) := by decide +kernel
theorem dX9_turn_173 : decode cX9_turn 173 = .ok (.iconst 1, 1) := by decide +kernel
theorem dX9_turn_174 : decode cX9_turn 174 = .ok (.goto 15, 3) := by decide +kernel
theorem dX9_turn_177 : decode cX9_turn 177 = .ok (.aload_n 0, 1) := by decide +kernel
theorem dX9_turn_178 : decode cX9_turn 178 = .ok (.getfield 114, 3) := by decide +kernel
theorem dX9_turn_181 : decode cX9_turn 181 = .ok (.ifCond .le 7, 3) := by decide +kernel
theorem dX9_turn_184 : decode cX9_turn 184 = .ok (.iconst 3, 1) := by decide +kernel
theorem dX9_turn_185 : decode cX9_turn 185 = .ok (.goto 4, 3) := by decide +kernel
theorem dX9_turn_188 : decode cX9_turn 188 = .ok (.iconst 2, 1) := by decide +kernel
theorem dX9_turn_189 : decode cX9_turn 189 = .ok (.iastore, 1) := by decide +kernel
theorem dX9_turn_190 : decode cX9_turn 190 = .ok (.aload_n 0, 1) := by decide +kernel
theorem dX9_turn_191 : decode cX9_turn 191 = .ok (.getfield 13, 3) := by decide +kernel
theorem dX9_turn_194 : decode cX9_turn 194 = .ok (.iload_n 2, 1) := by decide +kernel
theorem dX9_turn_195 : decode cX9_turn 195 = .ok (.iconst 5, 1) := by decide +kernel
theorem dX9_turn_196 : decode cX9_turn 196 = .ok (.iadd, 1) := by decide +kernel
theorem dX9_turn_197 : decode cX9_turn 197 = .ok (.aload_n 0, 1) := by decide +kernel
theorem dX9_turn_198 : decode cX9_turn 198 = .ok (.getfield 114, 3) := by decide +kernel
theorem dX9_turn_201 : decode cX9_turn 201 = .ok (.ifCond .le 10, 3) := by decide +kernel
theorem dX9_turn_204 : decode cX9_turn 204 = .ok (.aload_n 0, 1) := by decide +kernel
theorem dX9_turn_205 : decode cX9_turn 205 = .ok (.getfield 114, 3) := by decide +kernel
theorem dX9_turn_208 : decode cX9_turn 208 = .ok (.goto 7, 3) := by decide +kernel
theorem dX9_turn_211 : decode cX9_turn 211 = .ok (.aload_n 0, 1) := by decide +kernel
theorem dX9_turn_212 : decode cX9_turn 212 = .ok (.getfield 143, 3) := by decide +kernel
theorem dX9_turn_215 : decode cX9_turn 215 = .ok (.iastore, 1) := by decide +kernel
theorem dX9_turn_216 : decode cX9_turn 216 = .ok (.aload_n 0, 1) := by decide +kernel
theorem dX9_turn_217 : decode cX9_turn 217 = .ok (.getfield 13, 3) := by decide +kernel
theorem dX9_turn_220 : decode cX9_turn 220 = .ok (.iload_n 2, 1) := by decide +kernel
theorem dX9_turn_221 : decode cX9_turn 221 = .ok (.iaload, 1) := by decide +kernel
theorem dX9_turn_222 : decode cX9_turn 222 = .ok (.ireturn, 1) := by decide +kernel
theorem dX9_walker_0 : decode cX9_walker 0 = .ok (.aload_n 0, 1) := by decide +kernel
theorem dX9_walker_1 : decode cX9_walker 1 = .ok (.iconst 0, 1) := by decide +kernel
theorem dX9_walker_2 : decode cX9_walker 2 = .ok (.putfield 1, 3) := by decide +kernel
theorem dX9_walker_5 : decode cX9_walker 5 = .ok (.iload_n 1, 1) := by decide +kernel
theorem dX9_walker_6 : decode cX9_walker 6 = .ok (.iconst 0, 1) := by decide +kernel
theorem dX9_walker_7 : decode cX9_walker 7 = .ok (.iconst 3, 1) := by decide +kernel
theorem dX9_walker_8 : decode cX9_walker 8 = .ok (.invokestatic 51, 3) := by decide +kernel
theorem dX9_walker_11 : decode cX9_walker 11 = .ok (.ifCond .eq 12, 3) := by decide +kernel
theorem dX9_walker_14 : decode cX9_walker 14 = .ok (.iload_n 2, 1) := by decide +kernel
theorem dX9_walker_15 : decode cX9_walker 15 = .ok (.iconst 0, 1) := by decide +kernel
theorem dX9_walker_16 : decode cX9_walker 16 = .ok (.iconst 5, 1) := by decide +kernel
theorem dX9_walker_17 : decode cX9_walker 17 = .ok (.invokestatic 51, 3) := by decide +kernel
theorem dX9_walker_20 : decode cX9_walker 20 = .ok (.ifCond .ne 5, 3) := by decide +kernel
theorem dX9_walker_23 : decode cX9_walker 23 = .ok (.iconst (-1), 1) := by decide +kernel
theorem dX9_walker_24 : decode cX9_walker 24 = .ok (.ireturn, 1) := by decide +kernel
theorem dX9_walker_25 : decode cX9_walker 25 = .ok (.aload_n 0, 1) := by decide +kernel
theorem dX9_walker_26 : decode cX9_walker 26 = .ok (.iload_n 1, 1) := by decide +kernel
theorem dX9_walker_27 : decode cX9_walker 27 = .ok (.iconst 0, 1) := by decide +kernel
theorem dX9_walker_28 : decode cX9_walker 28 = .ok (.invokevirtual 83, 3) := by decide +kernel
theorem dX9_walker_31 : decode cX9_walker 31 = .ok (.istore_n 3, 1) := by decide +kernel
theorem dX9_walker_32 : decode cX9_walker 32 = .ok (.iload_n 2, 1) := by decide +kernel
theorem dX9_walker_33 : decode cX9_walker 33 = .ok (.tableswitch 105 0 4 #[35, 37, 52, 67, 88], 35) := by decide +kernel
theorem dX9_walker_68 : decode cX9_walker 68 = .ok (.iload_n 3, 1) := by decide +kernel
theorem dX9_walker_69 : decode cX9_walker 69 = .ok (.ireturn, 1) := by decide +kernel
theorem dX9_walker_70 : decode cX9_walker 70 = .ok (.iload_n 3, 1) := by decide +kernel
theorem dX9_walker_71 : decode cX9_walker 71 = .ok (.ifCond .ne 7, 3) := by decide +kernel
theorem dX9_walker_74 : decode cX9_walker 74 = .ok (.iconst (-1), 1) := by decide +kernel
theorem dX9_walker_75 : decode cX9_walker 75 = .ok (.goto 9, 3) := by decide +kernel
theorem dX9_walker_78 : decode cX9_walker 78 = .ok (.aload_n 0, 1) := by decide +kernel
theorem dX9_walker_79 : decode cX9_walker 79 = .ok (.iload_n 1, 1) := by decide +kernel
theorem dX9_walker_80 : decode cX9_walker 80 = .ok (.iconst 1, 1) := by decide +kernel
theorem dX9_walker_81 : decode cX9_walker 81 = .ok (.invokevirtual 83, 3) := by decide +kernel
theorem dX9_walker_84 : decode cX9_walker 84 = .ok (.ireturn, 1) := by decide +kernel
theorem dX9_walker_85 : decode cX9_walker 85 = .ok (.iload_n 3, 1) := by decide +kernel
theorem dX9_walker_86 : decode cX9_walker 86 = .ok (.ifCond .ne 7, 3) := by decide +kernel
theorem dX9_walker_89 : decode cX9_walker 89 = .ok (.iconst (-1), 1) := by decide +kernel
theorem dX9_walker_90 : decode cX9_walker 90 = .ok (.goto 9, 3) := by decide +kernel
theorem dX9_walker_93 : decode cX9_walker 93 = .ok (.aload_n 0, 1) := by decide +kernel
theorem dX9_walker_94 : decode cX9_walker 94 = .ok (.iload_n 1, 1) := by decide +kernel
theorem dX9_walker_95 : decode cX9_walker 95 = .ok (.iconst 4, 1) := by decide +kernel
theorem dX9_walker_96 : decode cX9_walker 96 = .ok (.invokevirtual 83, 3) := by decide +kernel
theorem dX9_walker_99 : decode cX9_walker 99 = .ok (.ireturn, 1) := by decide +kernel
theorem dX9_walker_100 : decode cX9_walker 100 = .ok (.iload_n 3, 1) := by decide +kernel
theorem dX9_walker_101 : decode cX9_walker 101 = .ok (.iconst 2, 1) := by decide +kernel
theorem dX9_walker_102 : decode cX9_walker 102 = .ok (.if_icmp .eq 8, 3) := by decide +kernel
theorem dX9_walker_105 : decode cX9_walker 105 = .ok (.iload_n 3, 1) := by decide +kernel
theorem dX9_walker_106 : decode cX9_walker 106 = .ok (.iconst 3, 1) := by decide +kernel
theorem dX9_walker_107 : decode cX9_walker 107 = .ok (.if_icmp .ne 12, 3) := by decide +kernel
theorem dX9_walker_110 : decode cX9_walker 110 = .ok (.aload_n 0, 1) := by decide +kernel
theorem dX9_walker_111 : decode cX9_walker 111 = .ok (.iload_n 1, 1) := by decide +kernel
theorem dX9_walker_112 : decode cX9_walker 112 = .ok (.iconst 5, 1) := by decide +kernel
theorem dX9_walker_113 : decode cX9_walker 113 = .ok (.invokevirtual 83, 3) := by decide +kernel
theorem dX9_walker_116 : decode cX9_walker 116 = .ok (.goto 4, 3) := by decide +kernel
theorem dX9_walker_119 : decode cX9_walker 119 = .ok (.iconst (-1), 1) := by decide +kernel
theorem dX9_walker_120 : decode cX9_walker 120 = .ok (.ireturn, 1) := by decide +kernel
theorem dX9_walker_121 : decode cX9_walker 121 = .ok (.iload_n 3, 1) := by decide +kernel
theorem dX9_walker_122 : decode cX9_walker 122 = .ok (.iconst 1, 1) := by decide +kernel
theorem dX9_walker_123 : decode cX9_walker 123 = .ok (.if_icmp .ne 13, 3) := by decide +kernel
theorem dX9_walker_126 : decode cX9_walker 126 = .ok (.aload_n 0, 1) := by decide +kernel
theorem dX9_walker_127 : decode cX9_walker 127 = .ok (.iload_n 1, 1) := by decide +kernel
theorem dX9_walker_128 : decode cX9_walker 128 = .ok (.bipush 6, 2) := by decide +kernel
theorem dX9_walker_130 : decode cX9_walker 130 = .ok (.invokevirtual 83, 3) := by decide +kernel
theorem dX9_walker_133 : decode cX9_walker 133 = .ok (.goto 4, 3) := by decide +kernel
theorem dX9_walker_136 : decode cX9_walker 136 = .ok (.iconst (-1), 1) := by decide +kernel
theorem dX9_walker_137 : decode cX9_walker 137 = .ok (.ireturn, 1) := by decide +kernel
theorem dX9_walker_138 : decode cX9_walker 138 = .ok (.iload_n 3, 1) := by decide +kernel
theorem dX9_walker_139 : decode cX9_walker 139 = .ok (.ifCond .ne 7, 3) := by decide +kernel
theorem dX9_walker_142 : decode cX9_walker 142 = .ok (.iconst (-1), 1) := by decide +kernel
theorem dX9_walker_143 : decode cX9_walker 143 = .ok (.goto 10, 3) := by decide +kernel
theorem dX9_walker_146 : decode cX9_walker 146 = .ok (.aload_n 0, 1) := by decide +kernel
theorem dX9_walker_147 : decode cX9_walker 147 = .ok (.iload_n 1, 1) := by decide +kernel
theorem dX9_walker_148 : decode cX9_walker 148 = .ok (.bipush 9, 2) := by decide +kernel
theorem dX9_walker_150 : decode cX9_walker 150 = .ok (.invokevirtual 83, 3) := by decide +kernel
theorem dX9_walker_153 : decode cX9_walker 153 = .ok (.ireturn, 1) := by decide +kernel
theorem dX9_goes_0 : decode cX9_goes 0 = .ok (.aload_n 0, 1) := by decide +kernel
theorem dX9_goes_1 : decode cX9_goes 1 = .ok (.iload_n 1, 1) := by decide +kernel
theorem dX9_goes_2 : decode cX9_goes 2 = .ok (.invokevirtual 101, 3) := by decide +kernel
theorem dX9_goes_5 : decode cX9_goes 5 = .ok (.ifCond .ne 11, 3) := by decide +kernel
theorem dX9_goes_8 : decode cX9_goes 8 = .ok (.iload_n 2, 1) := by decide +kernel
theorem dX9_goes_9 : decode cX9_goes 9 = .ok (.ifCond .eq 7, 3) := by decide +kernel
theorem dX9_goes_12 : decode cX9_goes 12 = .ok (.iconst 1, 1) := by decide +kernel
theorem dX9_goes_13 : decode cX9_goes 13 = .ok (.goto 4, 3) := by decide +kernel
theorem dX9_goes_16 : decode cX9_goes 16 = .ok (.iconst 0, 1) := by decide +kernel
theorem dX9_goes_17 : decode cX9_goes 17 = .ok (.istore_n 3, 1) := by decide +kernel
theorem dX9_goes_18 : decode cX9_goes 18 = .ok (.aload_n 0, 1) := by decide +kernel
theorem dX9_goes_19 : decode cX9_goes 19 = .ok (.getfield 13, 3) := by decide +kernel
theorem dX9_goes_22 : decode cX9_goes 22 = .ok (.iload_n 1, 1) := by decide +kernel
theorem dX9_goes_23 : decode cX9_goes 23 = .ok (.iload_n 3, 1) := by decide +kernel
theorem dX9_goes_24 : decode cX9_goes 24 = .ok (.ifCond .eq 7, 3) := by decide +kernel
theorem dX9_goes_27 : decode cX9_goes 27 = .ok (.iconst (-1), 1) := by decide +kernel
theorem dX9_goes_28 : decode cX9_goes 28 = .ok (.goto 9, 3) := by decide +kernel
theorem dX9_goes_31 : decode cX9_goes 31 = .ok (.aload_n 0, 1) := by decide +kernel
theorem dX9_goes_32 : decode cX9_goes 32 = .ok (.getfield 13, 3) := by decide +kernel
theorem dX9_goes_35 : decode cX9_goes 35 = .ok (.iload_n 1, 1) := by decide +kernel
theorem dX9_goes_36 : decode cX9_goes 36 = .ok (.iaload, 1) := by decide +kernel
theorem dX9_goes_37 : decode cX9_goes 37 = .ok (.iastore, 1) := by decide +kernel
theorem dX9_goes_38 : decode cX9_goes 38 = .ok (.iload_n 3, 1) := by decide +kernel
theorem dX9_goes_39 : decode cX9_goes 39 = .ok (.ifCond .eq 7, 3) := by decide +kernel
theorem dX9_goes_42 : decode cX9_goes 42 = .ok (.iconst 1, 1) := by decide +kernel
theorem dX9_goes_43 : decode cX9_goes 43 = .ok (.goto 4, 3) := by decide +kernel
theorem dX9_goes_46 : decode cX9_goes 46 = .ok (.iconst 0, 1) := by decide +kernel
theorem dX9_goes_47 : decode cX9_goes 47 = .ok (.ireturn, 1) := by decide +kernel
theorem dX9_isGlobal_0 : decode cX9_isGlobal 0 = .ok (.aload_n 0, 1) := by decide +kernel
theorem dX9_isGlobal_1 : decode cX9_isGlobal 1 = .ok (.getfield 13, 3) := by decide +kernel
theorem dX9_isGlobal_4 : decode cX9_isGlobal 4 = .ok (.iload_n 1, 1) := by decide +kernel
theorem dX9_isGlobal_5 : decode cX9_isGlobal 5 = .ok (.iconst 4, 1) := by decide +kernel
theorem dX9_isGlobal_6 : decode cX9_isGlobal 6 = .ok (.iadd, 1) := by decide +kernel
theorem dX9_isGlobal_7 : decode cX9_isGlobal 7 = .ok (.iaload, 1) := by decide +kernel
theorem dX9_isGlobal_8 : decode cX9_isGlobal 8 = .ok (.bipush 8, 2) := by decide +kernel
theorem dX9_isGlobal_10 : decode cX9_isGlobal 10 = .ok (.iand, 1) := by decide +kernel
theorem dX9_isGlobal_11 : decode cX9_isGlobal 11 = .ok (.ifCond .eq 7, 3) := by decide +kernel
theorem dX9_isGlobal_14 : decode cX9_isGlobal 14 = .ok (.iconst 1, 1) := by decide +kernel
theorem dX9_isGlobal_15 : decode cX9_isGlobal 15 = .ok (.goto 4, 3) := by decide +kernel
theorem dX9_isGlobal_18 : decode cX9_isGlobal 18 = .ok (.iconst 0, 1) := by decide +kernel
theorem dX9_isGlobal_19 : decode cX9_isGlobal 19 = .ok (.ireturn, 1) := by decide +kernel
theorem dX9_fence_0 : decode cX9_fence 0 = .ok (.aload_n 0, 1) := by decide +kernel
theorem dX9_fence_1 : decode cX9_fence 1 = .ok (.iconst 0, 1) := by decide +kernel
theorem dX9_fence_2 : decode cX9_fence 2 = .ok (.putfield 1, 3) := by decide +kernel
theorem dX9_fence_5 : decode cX9_fence 5 = .ok (.iload_n 1, 1) := by decide +kernel
theorem dX9_fence_6 : decode cX9_fence 6 = .ok (.invokestatic 159, 3) := by decide +kernel
theorem dX9_fence_9 : decode cX9_fence 9 = .ok (.ifCond .eq 10, 3) := by decide +kernel
theorem dX9_fence_12 : decode cX9_fence 12 = .ok (.iload_n 2, 1) := by decide +kernel
theorem dX9_fence_13 : decode cX9_fence 13 = .ok (.invokestatic 76, 3) := by decide +kernel
theorem dX9_fence_16 : decode cX9_fence 16 = .ok (.ifCond .ne 5, 3) := by decide +kernel
theorem dX9_fence_19 : decode cX9_fence 19 = .ok (.iconst (-1), 1) := by decide +kernel
theorem dX9_fence_20 : decode cX9_fence 20 = .ok (.ireturn, 1) := by decide +kernel
theorem dX9_fence_21 : decode cX9_fence 21 = .ok (.aload_n 0, 1) := by decide +kernel
theorem dX9_fence_22 : decode cX9_fence 22 = .ok (.getfield 32, 3) := by decide +kernel
theorem dX9_fence_25 : decode cX9_fence 25 = .ok (.sipush 512, 3) := by decide +kernel
theorem dX9_fence_28 : decode cX9_fence 28 = .ok (.iload_n 2, 1) := by decide +kernel
theorem dX9_fence_29 : decode cX9_fence 29 = .ok (.imul, 1) := by decide +kernel
theorem dX9_fence_30 : decode cX9_fence 30 = .ok (.iload_n 1, 1) := by decide +kernel
theorem dX9_fence_31 : decode cX9_fence 31 = .ok (.iadd, 1) := by decide +kernel
theorem dX9_fence_32 : decode cX9_fence 32 = .ok (.aload_n 0, 1) := by decide +kernel
theorem dX9_fence_33 : decode cX9_fence 33 = .ok (.getfield 62, 3) := by decide +kernel
theorem dX9_fence_36 : decode cX9_fence 36 = .ok (.iastore, 1) := by decide +kernel
theorem dX9_fence_37 : decode cX9_fence 37 = .ok (.aload_n 0, 1) := by decide +kernel
theorem dX9_fence_38 : decode cX9_fence 38 = .ok (.getfield 13, 3) := by decide +kernel
theorem dX9_fence_41 : decode cX9_fence 41 = .ok (.sipush 332, 3) := by decide +kernel
theorem dX9_fence_44 : decode cX9_fence 44 = .ok (.iload_n 2, 1) := by decide +kernel
theorem dX9_fence_45 : decode cX9_fence 45 = .ok (.iadd, 1) := by decide +kernel
theorem dX9_fence_46 : decode cX9_fence 46 = .ok (.iaload, 1) := by decide +kernel
theorem dX9_fence_47 : decode cX9_fence 47 = .ok (.istore_n 3, 1) := by decide +kernel
theorem dX9_fence_48 : decode cX9_fence 48 = .ok (.iconst 0, 1) := by decide +kernel
theorem dX9_fence_49 : decode cX9_fence 49 = .ok (.istore 4, 2) := by decide +kernel
theorem dX9_fence_51 : decode cX9_fence 51 = .ok (.iconst 0, 1) := by decide +kernel
theorem dX9_fence_52 : decode cX9_fence 52 = .ok (.istore 5, 2) := by decide +kernel
theorem dX9_fence_54 : decode cX9_fence 54 = .ok (.iload 5, 2) := by decide +kernel
theorem dX9_fence_56 : decode cX9_fence 56 = .ok (.bipush 6, 2) := by decide +kernel
theorem dX9_fence_58 : decode cX9_fence 58 = .ok (.if_icmp .ge 114, 3) := by decide +kernel
theorem dX9_fence_61 : decode cX9_fence 61 = .ok (.sipush 192, 3) := by decide +kernel
theorem dX9_fence_64 : decode cX9_fence 64 = .ok (.bipush 7, 2) := by decide +kernel
theorem dX9_fence_66 : decode cX9_fence 66 = .ok (.iload 5, 2) := by decide +kernel
theorem dX9_fence_68 : decode cX9_fence 68 = .ok (.imul, 1) := by decide +kernel
theorem dX9_fence_69 : decode cX9_fence 69 = .ok (.iadd, 1) := by decide +kernel
theorem dX9_fence_70 : decode cX9_fence 70 = .ok (.istore 6, 2) := by decide +kernel
theorem dX9_fence_72 : decode cX9_fence 72 = .ok (.sipush 234, 3) := by decide +kernel
theorem dX9_fence_75 : decode cX9_fence 75 = .ok (.bipush 7, 2) := by decide +kernel
theorem dX9_fence_77 : decode cX9_fence 77 = .ok (.iload 5, 2) := by decide +kernel
theorem dX9_fence_79 : decode cX9_fence 79 = .ok (.imul, 1) := by decide +kernel
theorem dX9_fence_80 : decode cX9_fence 80 = .ok (.iadd, 1) := by decide +kernel
theorem dX9_fence_81 : decode cX9_fence 81 = .ok (.istore 7, 2) := by decide +kernel
theorem dX9_fence_83 : decode cX9_fence 83 = .ok (.iload 4, 2) := by decide +kernel
theorem dX9_fence_85 : decode cX9_fence 85 = .ok (.aload_n 0, 1) := by decide +kernel
theorem dX9_fence_86 : decode cX9_fence 86 = .ok (.iload 6, 2) := by decide +kernel
theorem dX9_fence_88 : decode cX9_fence 88 = .ok (.aload_n 0, 1) := by decide +kernel
theorem dX9_fence_89 : decode cX9_fence 89 = .ok (.iload 6, 2) := by decide +kernel
theorem dX9_fence_91 : decode cX9_fence 91 = .ok (.iload_n 1, 1) := by decide +kernel
theorem dX9_fence_92 : decode cX9_fence 92 = .ok (.invokevirtual 111, 3) := by decide +kernel
theorem dX9_fence_95 : decode cX9_fence 95 = .ok (.ifCond .eq 27, 3) := by decide +kernel
theorem dX9_fence_98 : decode cX9_fence 98 = .ok (.aload_n 0, 1) := by decide +kernel
theorem dX9_fence_99 : decode cX9_fence 99 = .ok (.getfield 13, 3) := by decide +kernel
theorem dX9_fence_102 : decode cX9_fence 102 = .ok (.iload 6, 2) := by decide +kernel
theorem dX9_fence_104 : decode cX9_fence 104 = .ok (.iaload, 1) := by decide +kernel
theorem dX9_fence_105 : decode cX9_fence 105 = .ok (.iload_n 3, 1) := by decide +kernel
theorem dX9_fence_106 : decode cX9_fence 106 = .ok (.if_icmp .eq 12, 3) := by decide +kernel
theorem dX9_fence_109 : decode cX9_fence 109 = .ok (.aload_n 0, 1) := by decide +kernel
theorem dX9_fence_110 : decode cX9_fence 110 = .ok (.iload 6, 2) := by decide +kernel
theorem dX9_fence_112 : decode cX9_fence 112 = .ok (.invokevirtual 174, 3) := by decide +kernel
theorem dX9_fence_115 : decode cX9_fence 115 = .ok (.ifCond .eq 7, 3) := by decide +kernel
theorem dX9_fence_118 : decode cX9_fence 118 = .ok (.iconst 1, 1) := by decide +kernel
theorem dX9_fence_119 : decode cX9_fence 119 = .ok (.goto 4, 3) := by decide +kernel
theorem dX9_fence_122 : decode cX9_fence 122 = .ok (.iconst 0, 1) := by decide +kernel
theorem dX9_fence_123 : decode cX9_fence 123 = .ok (.invokevirtual 177, 3) := by decide +kernel
theorem dX9_fence_126 : decode cX9_fence 126 = .ok (.iadd, 1) := by decide +kernel
theorem dX9_fence_127 : decode cX9_fence 127 = .ok (.istore 4, 2) := by decide +kernel
theorem dX9_fence_129 : decode cX9_fence 129 = .ok (.iload 4, 2) := by decide +kernel
theorem dX9_fence_131 : decode cX9_fence 131 = .ok (.aload_n 0, 1) := by decide +kernel
theorem dX9_fence_132 : decode cX9_fence 132 = .ok (.iload 7, 2) := by decide +kernel
theorem dX9_fence_134 : decode cX9_fence 134 = .ok (.aload_n 0, 1) := by decide +kernel
theorem dX9_fence_135 : decode cX9_fence 135 = .ok (.iload 7, 2) := by decide +kernel
theorem dX9_fence_137 : decode cX9_fence 137 = .ok (.iload_n 1, 1) := by decide +kernel
theorem dX9_fence_138 : decode cX9_fence 138 = .ok (.invokevirtual 111, 3) := by decide +kernel
theorem dX9_fence_141 : decode cX9_fence 141 = .ok (.ifCond .eq 18, 3) := by decide +kernel
theorem dX9_fence_144 : decode cX9_fence 144 = .ok (.aload_n 0, 1) := by decide +kernel
theorem dX9_fence_145 : decode cX9_fence 145 = .ok (.getfield 13, 3) := by decide +kernel
theorem dX9_fence_148 : decode cX9_fence 148 = .ok (.iload 7, 2) := by decide +kernel
theorem dX9_fence_150 : decode cX9_fence 150 = .ok (.iaload, 1) := by decide +kernel
theorem dX9_fence_151 : decode cX9_fence 151 = .ok (.iload_n 3, 1) := by decide +kernel
theorem dX9_fence_152 : decode cX9_fence 152 = .ok (.if_icmp .ne 7, 3) := by decide +kernel
theorem dX9_fence_155 : decode cX9_fence 155 = .ok (.iconst 1, 1) := by decide +kernel
theorem dX9_fence_156 : decode cX9_fence 156 = .ok (.goto 4, 3) := by decide +kernel
theorem dX9_fence_159 : decode cX9_fence 159 = .ok (.iconst 0, 1) := by decide +kernel
theorem dX9_fence_160 : decode cX9_fence 160 = .ok (.invokevirtual 177, 3) := by decide +kernel
theorem dX9_fence_163 : decode cX9_fence 163 = .ok (.iadd, 1) := by decide +kernel
theorem dX9_fence_164 : decode cX9_fence 164 = .ok (.istore 4, 2) := by decide +kernel
theorem dX9_fence_166 : decode cX9_fence 166 = .ok (.iinc 5 1, 3) := by decide +kernel
theorem dX9_fence_169 : decode cX9_fence 169 = .ok (.goto (-115), 3) := by decide +kernel
theorem dX9_fence_172 : decode cX9_fence 172 = .ok (.iconst 0, 1) := by decide +kernel
theorem dX9_fence_173 : decode cX9_fence 173 = .ok (.istore 5, 2) := by decide +kernel
theorem dX9_fence_175 : decode cX9_fence 175 = .ok (.iload 5, 2) := by decide +kernel
theorem dX9_fence_177 : decode cX9_fence 177 = .ok (.iconst 4, 1) := by decide +kernel
theorem dX9_fence_178 : decode cX9_fence 178 = .ok (.if_icmp .ge 47, 3) := by decide +kernel
theorem dX9_fence_181 : decode cX9_fence 181 = .ok (.aload_n 0, 1) := by decide +kernel
theorem dX9_fence_182 : decode cX9_fence 182 = .ok (.iload 5, 2) := by decide +kernel
theorem dX9_fence_184 : decode cX9_fence 184 = .ok (.invokevirtual 80, 3) := by decide +kernel
theorem dX9_fence_187 : decode cX9_fence 187 = .ok (.ifCond .eq 32, 3) := by decide +kernel
theorem dX9_fence_190 : decode cX9_fence 190 = .ok (.aload_n 0, 1) := by decide +kernel
theorem dX9_fence_191 : decode cX9_fence 191 = .ok (.iload 5, 2) := by decide +kernel
theorem dX9_fence_193 : decode cX9_fence 193 = .ok (.bipush 9, 2) := by decide +kernel
theorem dX9_fence_195 : decode cX9_fence 195 = .ok (.invokevirtual 83, 3) := by decide +kernel
theorem dX9_fence_198 : decode cX9_fence 198 = .ok (.iload_n 3, 1) := by decide +kernel
theorem dX9_fence_199 : decode cX9_fence 199 = .ok (.if_icmp .eq 14, 3) := by decide +kernel
theorem dX9_fence_202 : decode cX9_fence 202 = .ok (.aload_n 0, 1) := by decide +kernel
theorem dX9_fence_203 : decode cX9_fence 203 = .ok (.iload 5, 2) := by decide +kernel
theorem dX9_fence_205 : decode cX9_fence 205 = .ok (.iconst 1, 1) := by decide +kernel
theorem dX9_fence_206 : decode cX9_fence 206 = .ok (.invokevirtual 83, 3) := by decide +kernel
theorem dX9_fence_209 : decode cX9_fence 209 = .ok (.iload_n 1, 1) := by decide +kernel
theorem dX9_fence_210 : decode cX9_fence 210 = .ok (.if_icmp .ne 9, 3) := by decide +kernel
theorem dX9_fence_213 : decode cX9_fence 213 = .ok (.aload_n 0, 1) := by decide +kernel
theorem dX9_fence_214 : decode cX9_fence 214 = .ok (.iload 5, 2) := by decide +kernel
theorem dX9_fence_216 : decode cX9_fence 216 = .ok (.invokevirtual 87, 3) := by decide +kernel
theorem dX9_fence_219 : decode cX9_fence 219 = .ok (.iinc 5 1, 3) := by decide +kernel
theorem dX9_fence_222 : decode cX9_fence 222 = .ok (.goto (-47), 3) := by decide +kernel
theorem dX9_fence_225 : decode cX9_fence 225 = .ok (.iload 4, 2) := by decide +kernel
theorem dX9_fence_227 : decode cX9_fence 227 = .ok (.ireturn, 1) := by decide +kernel
theorem dX9_fenceSpace_0 : decode cX9_fenceSpace 0 = .ok (.aload_n 0, 1) := by decide +kernel
theorem dX9_fenceSpace_1 : decode cX9_fenceSpace 1 = .ok (.iconst 0, 1) := by decide +kernel
theorem dX9_fenceSpace_2 : decode cX9_fenceSpace 2 = .ok (.putfield 1, 3) := by decide +kernel
theorem dX9_fenceSpace_5 : decode cX9_fenceSpace 5 = .ok (.iload_n 1, 1) := by decide +kernel
theorem dX9_fenceSpace_6 : decode cX9_fenceSpace 6 = .ok (.invokestatic 76, 3) := by decide +kernel
theorem dX9_fenceSpace_9 : decode cX9_fenceSpace 9 = .ok (.ifCond .ne 5, 3) := by decide +kernel
theorem dX9_fenceSpace_12 : decode cX9_fenceSpace 12 = .ok (.iconst (-1), 1) := by decide +kernel
theorem dX9_fenceSpace_13 : decode cX9_fenceSpace 13 = .ok (.ireturn, 1) := by decide +kernel
theorem dX9_fenceSpace_14 : decode cX9_fenceSpace 14 = .ok (.aload_n 0, 1) := by decide +kernel
theorem dX9_fenceSpace_15 : decode cX9_fenceSpace 15 = .ok (.getfield 29, 3) := by decide +kernel
theorem dX9_fenceSpace_18 : decode cX9_fenceSpace 18 = .ok (.iload_n 1, 1) := by decide +kernel
theorem dX9_fenceSpace_19 : decode cX9_fenceSpace 19 = .ok (.aload_n 0, 1) := by decide +kernel
theorem dX9_fenceSpace_20 : decode cX9_fenceSpace 20 = .ok (.getfield 62, 3) := by decide +kernel
theorem dX9_fenceSpace_23 : decode cX9_fenceSpace 23 = .ok (.iastore, 1) := by decide +kernel
theorem dX9_fenceSpace_24 : decode cX9_fenceSpace 24 = .ok (.aload_n 0, 1) := by decide +kernel
theorem dX9_fenceSpace_25 : decode cX9_fenceSpace 25 = .ok (.getfield 13, 3) := by decide +kernel
theorem dX9_fenceSpace_28 : decode cX9_fenceSpace 28 = .ok (.sipush 332, 3) := by decide +kernel
theorem dX9_fenceSpace_31 : decode cX9_fenceSpace 31 = .ok (.iload_n 1, 1) := by decide +kernel
theorem dX9_fenceSpace_32 : decode cX9_fenceSpace 32 = .ok (.iadd, 1) := by decide +kernel
theorem dX9_fenceSpace_33 : decode cX9_fenceSpace 33 = .ok (.iaload, 1) := by decide +kernel
theorem dX9_fenceSpace_34 : decode cX9_fenceSpace 34 = .ok (.istore_n 2, 1) := by decide +kernel
theorem dX9_fenceSpace_35 : decode cX9_fenceSpace 35 = .ok (.iconst 0, 1) := by decide +kernel
theorem dX9_fenceSpace_36 : decode cX9_fenceSpace 36 = .ok (.istore_n 3, 1) := by decide +kernel
theorem dX9_fenceSpace_37 : decode cX9_fenceSpace 37 = .ok (.iconst 0, 1) := by decide +kernel
theorem dX9_fenceSpace_38 : decode cX9_fenceSpace 38 = .ok (.istore 4, 2) := by decide +kernel
theorem dX9_fenceSpace_40 : decode cX9_fenceSpace 40 = .ok (.iload 4, 2) := by decide +kernel
theorem dX9_fenceSpace_42 : decode cX9_fenceSpace 42 = .ok (.bipush 6, 2) := by decide +kernel
theorem dX9_fenceSpace_44 : decode cX9_fenceSpace 44 = .ok (.if_icmp .ge 90, 3) := by decide +kernel
theorem dX9_fenceSpace_47 : decode cX9_fenceSpace 47 = .ok (.sipush 192, 3) := by decide +kernel
theorem dX9_fenceSpace_50 : decode cX9_fenceSpace 50 = .ok (.bipush 7, 2) := by decide +kernel
theorem dX9_fenceSpace_52 : decode cX9_fenceSpace 52 = .ok (.iload 4, 2) := by decide +kernel
theorem dX9_fenceSpace_54 : decode cX9_fenceSpace 54 = .ok (.imul, 1) := by decide +kernel
theorem dX9_fenceSpace_55 : decode cX9_fenceSpace 55 = .ok (.iadd, 1) := by decide +kernel
theorem dX9_fenceSpace_56 : decode cX9_fenceSpace 56 = .ok (.istore 5, 2) := by decide +kernel
theorem dX9_fenceSpace_58 : decode cX9_fenceSpace 58 = .ok (.sipush 234, 3) := by decide +kernel
theorem dX9_fenceSpace_61 : decode cX9_fenceSpace 61 = .ok (.bipush 7, 2) := by decide +kernel
theorem dX9_fenceSpace_63 : decode cX9_fenceSpace 63 = .ok (.iload 4, 2) := by decide +kernel
theorem dX9_fenceSpace_65 : decode cX9_fenceSpace 65 = .ok (.imul, 1) := by decide +kernel
theorem dX9_fenceSpace_66 : decode cX9_fenceSpace 66 = .ok (.iadd, 1) := by decide +kernel
theorem dX9_fenceSpace_67 : decode cX9_fenceSpace 67 = .ok (.istore 6, 2) := by decide +kernel
theorem dX9_fenceSpace_69 : decode cX9_fenceSpace 69 = .ok (.iload_n 3, 1) := by decide +kernel
theorem dX9_fenceSpace_70 : decode cX9_fenceSpace 70 = .ok (.aload_n 0, 1) := by decide +kernel
theorem dX9_fenceSpace_71 : decode cX9_fenceSpace 71 = .ok (.iload 5, 2) := by decide +kernel
theorem dX9_fenceSpace_73 : decode cX9_fenceSpace 73 = .ok (.aload_n 0, 1) := by decide +kernel
theorem dX9_fenceSpace_74 : decode cX9_fenceSpace 74 = .ok (.getfield 13, 3) := by decide +kernel
theorem dX9_fenceSpace_77 : decode cX9_fenceSpace 77 = .ok (.iload 5, 2) := by decide +kernel
theorem dX9_fenceSpace_79 : decode cX9_fenceSpace 79 = .ok (.iaload, 1) := by decide +kernel
theorem dX9_fenceSpace_80 : decode cX9_fenceSpace 80 = .ok (.iload_n 2, 1) := by decide +kernel
theorem dX9_fenceSpace_81 : decode cX9_fenceSpace 81 = .ok (.if_icmp .ne 16, 3) := by decide +kernel
theorem dX9_fenceSpace_84 : decode cX9_fenceSpace 84 = .ok (.aload_n 0, 1) := by decide +kernel
theorem dX9_fenceSpace_85 : decode cX9_fenceSpace 85 = .ok (.iload 5, 2) := by decide +kernel
theorem dX9_fenceSpace_87 : decode cX9_fenceSpace 87 = .ok (.invokevirtual 174, 3) := by decide +kernel
theorem dX9_fenceSpace_90 : decode cX9_fenceSpace 90 = .ok (.ifCond .ne 7, 3) := by decide +kernel
theorem dX9_fenceSpace_93 : decode cX9_fenceSpace 93 = .ok (.iconst 1, 1) := by decide +kernel
theorem dX9_fenceSpace_94 : decode cX9_fenceSpace 94 = .ok (.goto 4, 3) := by decide +kernel
theorem dX9_fenceSpace_97 : decode cX9_fenceSpace 97 = .ok (.iconst 0, 1) := by decide +kernel
theorem dX9_fenceSpace_98 : decode cX9_fenceSpace 98 = .ok (.invokevirtual 177, 3) := by decide +kernel
theorem dX9_fenceSpace_101 : decode cX9_fenceSpace 101 = .ok (.iadd, 1) := by decide +kernel
theorem dX9_fenceSpace_102 : decode cX9_fenceSpace 102 = .ok (.istore_n 3, 1) := by decide +kernel
theorem dX9_fenceSpace_103 : decode cX9_fenceSpace 103 = .ok (.iload_n 3, 1) := by decide +kernel
theorem dX9_fenceSpace_104 : decode cX9_fenceSpace 104 = .ok (.aload_n 0, 1) := by decide +kernel
theorem dX9_fenceSpace_105 : decode cX9_fenceSpace 105 = .ok (.iload 6, 2) := by decide +kernel
theorem dX9_fenceSpace_107 : decode cX9_fenceSpace 107 = .ok (.aload_n 0, 1) := by decide +kernel
theorem dX9_fenceSpace_108 : decode cX9_fenceSpace 108 = .ok (.getfield 13, 3) := by decide +kernel
theorem dX9_fenceSpace_111 : decode cX9_fenceSpace 111 = .ok (.iload 6, 2) := by decide +kernel
theorem dX9_fenceSpace_113 : decode cX9_fenceSpace 113 = .ok (.iaload, 1) := by decide +kernel
theorem dX9_fenceSpace_114 : decode cX9_fenceSpace 114 = .ok (.iload_n 2, 1) := by decide +kernel
theorem dX9_fenceSpace_115 : decode cX9_fenceSpace 115 = .ok (.if_icmp .ne 7, 3) := by decide +kernel
theorem dX9_fenceSpace_118 : decode cX9_fenceSpace 118 = .ok (.iconst 1, 1) := by decide +kernel
theorem dX9_fenceSpace_119 : decode cX9_fenceSpace 119 = .ok (.goto 4, 3) := by decide +kernel
theorem dX9_fenceSpace_122 : decode cX9_fenceSpace 122 = .ok (.iconst 0, 1) := by decide +kernel
theorem dX9_fenceSpace_123 : decode cX9_fenceSpace 123 = .ok (.invokevirtual 177, 3) := by decide +kernel
theorem dX9_fenceSpace_126 : decode cX9_fenceSpace 126 = .ok (.iadd, 1) := by decide +kernel
theorem dX9_fenceSpace_127 : decode cX9_fenceSpace 127 = .ok (.istore_n 3, 1) := by decide +kernel
theorem dX9_fenceSpace_128 : decode cX9_fenceSpace 128 = .ok (.iinc 4 1, 3) := by decide +kernel
theorem dX9_fenceSpace_131 : decode cX9_fenceSpace 131 = .ok (.goto (-91), 3) := by decide +kernel
theorem dX9_fenceSpace_134 : decode cX9_fenceSpace 134 = .ok (.iconst 0, 1) := by decide +kernel
theorem dX9_fenceSpace_135 : decode cX9_fenceSpace 135 = .ok (.istore 4, 2) := by decide +kernel
theorem dX9_fenceSpace_137 : decode cX9_fenceSpace 137 = .ok (.iload 4, 2) := by decide +kernel
theorem dX9_fenceSpace_139 : decode cX9_fenceSpace 139 = .ok (.iconst 4, 1) := by decide +kernel
theorem dX9_fenceSpace_140 : decode cX9_fenceSpace 140 = .ok (.if_icmp .ge 36, 3) := by decide +kernel
theorem dX9_fenceSpace_143 : decode cX9_fenceSpace 143 = .ok (.aload_n 0, 1) := by decide +kernel
theorem dX9_fenceSpace_144 : decode cX9_fenceSpace 144 = .ok (.iload 4, 2) := by decide +kernel
theorem dX9_fenceSpace_146 : decode cX9_fenceSpace 146 = .ok (.invokevirtual 80, 3) := by decide +kernel
theorem dX9_fenceSpace_149 : decode cX9_fenceSpace 149 = .ok (.ifCond .eq 21, 3) := by decide +kernel
theorem dX9_fenceSpace_152 : decode cX9_fenceSpace 152 = .ok (.aload_n 0, 1) := by decide +kernel
theorem dX9_fenceSpace_153 : decode cX9_fenceSpace 153 = .ok (.iload 4, 2) := by decide +kernel
theorem dX9_fenceSpace_155 : decode cX9_fenceSpace 155 = .ok (.bipush 9, 2) := by decide +kernel
theorem dX9_fenceSpace_157 : decode cX9_fenceSpace 157 = .ok (.invokevirtual 83, 3) := by decide +kernel
theorem dX9_fenceSpace_160 : decode cX9_fenceSpace 160 = .ok (.iload_n 2, 1) := by decide +kernel
theorem dX9_fenceSpace_161 : decode cX9_fenceSpace 161 = .ok (.if_icmp .ne 9, 3) := by decide +kernel
theorem dX9_fenceSpace_164 : decode cX9_fenceSpace 164 = .ok (.aload_n 0, 1) := by decide +kernel
theorem dX9_fenceSpace_165 : decode cX9_fenceSpace 165 = .ok (.iload 4, 2) := by decide +kernel
theorem dX9_fenceSpace_167 : decode cX9_fenceSpace 167 = .ok (.invokevirtual 87, 3) := by decide +kernel
theorem dX9_fenceSpace_170 : decode cX9_fenceSpace 170 = .ok (.iinc 4 1, 3) := by decide +kernel
theorem dX9_fenceSpace_173 : decode cX9_fenceSpace 173 = .ok (.goto (-36), 3) := by decide +kernel
theorem dX9_fenceSpace_176 : decode cX9_fenceSpace 176 = .ok (.iload_n 3, 1) := by decide +kernel
theorem dX9_fenceSpace_177 : decode cX9_fenceSpace 177 = .ok (.ireturn, 1) := by decide +kernel
theorem dX9_fenceAll_0 : decode cX9_fenceAll 0 = .ok (.aload_n 0, 1) := by decide +kernel
theorem dX9_fenceAll_1 : decode cX9_fenceAll 1 = .ok (.iconst 0, 1) := by decide +kernel
theorem dX9_fenceAll_2 : decode cX9_fenceAll 2 = .ok (.putfield 1, 3) := by decide +kernel
theorem dX9_fenceAll_5 : decode cX9_fenceAll 5 = .ok (.aload_n 0, 1) := by decide +kernel
theorem dX9_fenceAll_6 : decode cX9_fenceAll 6 = .ok (.aload_n 0, 1) := by decide +kernel
theorem dX9_fenceAll_7 : decode cX9_fenceAll 7 = .ok (.getfield 62, 3) := by decide +kernel
theorem dX9_fenceAll_10 : decode cX9_fenceAll 10 = .ok (.putfield 181, 3) := by decide +kernel
theorem dX9_fenceAll_13 : decode cX9_fenceAll 13 = .ok (.iconst 0, 1) := by decide +kernel
theorem dX9_fenceAll_14 : decode cX9_fenceAll 14 = .ok (.istore_n 1, 1) := by decide +kernel
theorem dX9_fenceAll_15 : decode cX9_fenceAll 15 = .ok (.iconst 0, 1) := by decide +kernel
theorem dX9_fenceAll_16 : decode cX9_fenceAll 16 = .ok (.istore_n 2, 1) := by decide +kernel
theorem dX9_fenceAll_17 : decode cX9_fenceAll 17 = .ok (.iload_n 2, 1) := by decide +kernel
theorem dX9_fenceAll_18 : decode cX9_fenceAll 18 = .ok (.bipush 6, 2) := by decide +kernel
theorem dX9_fenceAll_20 : decode cX9_fenceAll 20 = .ok (.if_icmp .ge 39, 3) := by decide +kernel
theorem dX9_fenceAll_23 : decode cX9_fenceAll 23 = .ok (.iload_n 1, 1) := by decide +kernel
theorem dX9_fenceAll_24 : decode cX9_fenceAll 24 = .ok (.aload_n 0, 1) := by decide +kernel
theorem dX9_fenceAll_25 : decode cX9_fenceAll 25 = .ok (.sipush 192, 3) := by decide +kernel
theorem dX9_fenceAll_28 : decode cX9_fenceAll 28 = .ok (.bipush 7, 2) := by decide +kernel
theorem dX9_fenceAll_30 : decode cX9_fenceAll 30 = .ok (.iload_n 2, 1) := by decide +kernel
theorem dX9_fenceAll_31 : decode cX9_fenceAll 31 = .ok (.imul, 1) := by decide +kernel
theorem dX9_fenceAll_32 : decode cX9_fenceAll 32 = .ok (.iadd, 1) := by decide +kernel
theorem dX9_fenceAll_33 : decode cX9_fenceAll 33 = .ok (.iconst 1, 1) := by decide +kernel
theorem dX9_fenceAll_34 : decode cX9_fenceAll 34 = .ok (.invokevirtual 177, 3) := by decide +kernel
theorem dX9_fenceAll_37 : decode cX9_fenceAll 37 = .ok (.aload_n 0, 1) := by decide +kernel
theorem dX9_fenceAll_38 : decode cX9_fenceAll 38 = .ok (.sipush 234, 3) := by decide +kernel
theorem dX9_fenceAll_41 : decode cX9_fenceAll 41 = .ok (.bipush 7, 2) := by decide +kernel
theorem dX9_fenceAll_43 : decode cX9_fenceAll 43 = .ok (.iload_n 2, 1) := by decide +kernel
theorem dX9_fenceAll_44 : decode cX9_fenceAll 44 = .ok (.imul, 1) := by decide +kernel
theorem dX9_fenceAll_45 : decode cX9_fenceAll 45 = .ok (.iadd, 1) := by decide +kernel
theorem dX9_fenceAll_46 : decode cX9_fenceAll 46 = .ok (.iconst 1, 1) := by decide +kernel
theorem dX9_fenceAll_47 : decode cX9_fenceAll 47 = .ok (.invokevirtual 177, 3) := by decide +kernel
theorem dX9_fenceAll_50 : decode cX9_fenceAll 50 = .ok (.iadd, 1) := by decide +kernel
theorem dX9_fenceAll_51 : decode cX9_fenceAll 51 = .ok (.iadd, 1) := by decide +kernel
theorem dX9_fenceAll_52 : decode cX9_fenceAll 52 = .ok (.istore_n 1, 1) := by decide +kernel
theorem dX9_fenceAll_53 : decode cX9_fenceAll 53 = .ok (.iinc 2 1, 3) := by decide +kernel
theorem dX9_fenceAll_56 : decode cX9_fenceAll 56 = .ok (.goto (-39), 3) := by decide +kernel
theorem dX9_fenceAll_59 : decode cX9_fenceAll 59 = .ok (.iconst 0, 1) := by decide +kernel
theorem dX9_fenceAll_60 : decode cX9_fenceAll 60 = .ok (.istore_n 2, 1) := by decide +kernel
theorem dX9_fenceAll_61 : decode cX9_fenceAll 61 = .ok (.iload_n 2, 1) := by decide +kernel
theorem dX9_fenceAll_62 : decode cX9_fenceAll 62 = .ok (.iconst 4, 1) := by decide +kernel
theorem dX9_fenceAll_63 : decode cX9_fenceAll 63 = .ok (.if_icmp .ge 22, 3) := by decide +kernel
theorem dX9_fenceAll_66 : decode cX9_fenceAll 66 = .ok (.aload_n 0, 1) := by decide +kernel
theorem dX9_fenceAll_67 : decode cX9_fenceAll 67 = .ok (.iload_n 2, 1) := by decide +kernel
theorem dX9_fenceAll_68 : decode cX9_fenceAll 68 = .ok (.invokevirtual 80, 3) := by decide +kernel
theorem dX9_fenceAll_71 : decode cX9_fenceAll 71 = .ok (.ifCond .eq 8, 3) := by decide +kernel
theorem dX9_fenceAll_74 : decode cX9_fenceAll 74 = .ok (.aload_n 0, 1) := by decide +kernel
theorem dX9_fenceAll_75 : decode cX9_fenceAll 75 = .ok (.iload_n 2, 1) := by decide +kernel
theorem dX9_fenceAll_76 : decode cX9_fenceAll 76 = .ok (.invokevirtual 87, 3) := by decide +kernel
theorem dX9_fenceAll_79 : decode cX9_fenceAll 79 = .ok (.iinc 2 1, 3) := by decide +kernel
theorem dX9_fenceAll_82 : decode cX9_fenceAll 82 = .ok (.goto (-21), 3) := by decide +kernel
theorem dX9_fenceAll_85 : decode cX9_fenceAll 85 = .ok (.iload_n 1, 1) := by decide +kernel
theorem dX9_fenceAll_86 : decode cX9_fenceAll 86 = .ok (.ireturn, 1) := by decide +kernel
theorem dX9_walksNow_0 : decode cX9_walksNow 0 = .ok (.aload_n 0, 1) := by decide +kernel
