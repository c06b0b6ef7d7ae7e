theorem dX7_init_0 : decode cX7_init 0 = .ok (.aload_n 0, 1) := by decide +kernel
theorem dX7_init_1 : decode cX7_init 1 = .ok (.invokespecial 3, 3) := by decide +kernel
theorem dX7_init_4 : decode cX7_init 4 = .ok (.aload_n 0, 1) := by decide +kernel
theorem dX7_init_5 : decode cX7_init 5 = .ok (.sipush 136, 3) := by decide +kernel
theorem dX7_init_8 : decode cX7_init 8 = .ok (.newarray .int, 2) := by decide +kernel
theorem dX7_init_10 : decode cX7_init 10 = .ok (.putfield 9, 3) := by decide +kernel
theorem dX7_init_13 : decode cX7_init 13 = .ok (.aload_n 0, 1) := by decide +kernel
theorem dX7_init_14 : decode cX7_init 14 = .ok (.sipush 136, 3) := by decide +kernel
theorem dX7_init_17 : decode cX7_init 17 = .ok (.newarray .int, 2) := by decide +kernel
theorem dX7_init_19 : decode cX7_init 19 = .ok (.putfield 13, 3) := by decide +kernel
theorem dX7_init_22 : decode cX7_init 22 = .ok (.aload_n 0, 1) := by decide +kernel
theorem dX7_init_23 : decode cX7_init 23 = .ok (.sipush 136, 3) := by decide +kernel
theorem dX7_init_26 : decode cX7_init 26 = .ok (.newarray .int, 2) := by decide +kernel
theorem dX7_init_28 : decode cX7_init 28 = .ok (.putfield 16, 3) := by decide +kernel
theorem dX7_init_31 : decode cX7_init 31 = .ok (.aload_n 0, 1) := by decide +kernel
theorem dX7_init_32 : decode cX7_init 32 = .ok (.bipush 7, 2) := by decide +kernel
theorem dX7_init_34 : decode cX7_init 34 = .ok (.newarray .int, 2) := by decide +kernel
theorem dX7_init_36 : decode cX7_init 36 = .ok (.putfield 19, 3) := by decide +kernel
theorem dX7_init_39 : decode cX7_init 39 = .ok (.aload_n 0, 1) := by decide +kernel
theorem dX7_init_40 : decode cX7_init 40 = .ok (.bipush 8, 2) := by decide +kernel
theorem dX7_init_42 : decode cX7_init 42 = .ok (.newarray .int, 2) := by decide +kernel
theorem dX7_init_44 : decode cX7_init 44 = .ok (.putfield 22, 3) := by decide +kernel
theorem dX7_init_47 : decode cX7_init 47 = .ok (.aload_n 0, 1) := by decide +kernel
theorem dX7_init_48 : decode cX7_init 48 = .ok (.bipush 64, 2) := by decide +kernel
theorem dX7_init_50 : decode cX7_init 50 = .ok (.newarray .int, 2) := by decide +kernel
theorem dX7_init_52 : decode cX7_init 52 = .ok (.putfield 25, 3) := by decide +kernel
theorem dX7_init_55 : decode cX7_init 55 = .ok (.aload_n 0, 1) := by decide +kernel
theorem dX7_init_56 : decode cX7_init 56 = .ok (.bipush 8, 2) := by decide +kernel
theorem dX7_init_58 : decode cX7_init 58 = .ok (.newarray .int, 2) := by decide +kernel
theorem dX7_init_60 : decode cX7_init 60 = .ok (.putfield 28, 3) := by decide +kernel
theorem dX7_init_63 : decode cX7_init 63 = .ok (.aload_n 0, 1) := by decide +kernel
theorem dX7_init_64 : decode cX7_init 64 = .ok (.bipush 8, 2) := by decide +kernel
theorem dX7_init_66 : decode cX7_init 66 = .ok (.newarray .int, 2) := by decide +kernel
theorem dX7_init_68 : decode cX7_init 68 = .ok (.putfield 31, 3) := by decide +kernel
theorem dX7_init_71 : decode cX7_init 71 = .ok (.aload_n 0, 1) := by decide +kernel
theorem dX7_init_72 : decode cX7_init 72 = .ok (.bipush 120, 2) := by decide +kernel
theorem dX7_init_74 : decode cX7_init 74 = .ok (.newarray .int, 2) := by decide +kernel
theorem dX7_init_76 : decode cX7_init 76 = .ok (.putfield 34, 3) := by decide +kernel
theorem dX7_init_79 : decode cX7_init 79 = .ok (.aload_n 0, 1) := by decide +kernel
theorem dX7_init_80 : decode cX7_init 80 = .ok (.iconst 4, 1) := by decide +kernel
theorem dX7_init_81 : decode cX7_init 81 = .ok (.newarray .int, 2) := by decide +kernel
theorem dX7_init_83 : decode cX7_init 83 = .ok (.putfield 37, 3) := by decide +kernel
theorem dX7_init_86 : decode cX7_init 86 = .ok (.aload_n 0, 1) := by decide +kernel
theorem dX7_init_87 : decode cX7_init 87 = .ok (.iconst 4, 1) := by decide +kernel
theorem dX7_init_88 : decode cX7_init 88 = .ok (.newarray .int, 2) := by decide +kernel
theorem dX7_init_90 : decode cX7_init 90 = .ok (.putfield 40, 3) := by decide +kernel
theorem dX7_init_93 : decode cX7_init 93 = .ok (.aload_n 0, 1) := by decide +kernel
theorem dX7_init_94 : decode cX7_init 94 = .ok (.sipush 160, 3) := by decide +kernel
theorem dX7_init_97 : decode cX7_init 97 = .ok (.newarray .int, 2) := by decide +kernel
theorem dX7_init_99 : decode cX7_init 99 = .ok (.putfield 43, 3) := by decide +kernel
theorem dX7_init_102 : decode cX7_init 102 = .ok (.aload_n 0, 1) := by decide +kernel
theorem dX7_init_103 : decode cX7_init 103 = .ok (.getfield 9, 3) := by decide +kernel
theorem dX7_init_106 : decode cX7_init 106 = .ok (.iconst 1, 1) := by decide +kernel
theorem dX7_init_107 : decode cX7_init 107 = .ok (.bipush 50, 2) := by decide +kernel
theorem dX7_init_109 : decode cX7_init 109 = .ok (.iastore, 1) := by decide +kernel
theorem dX7_init_110 : decode cX7_init 110 = .ok (.aload_n 0, 1) := by decide +kernel
theorem dX7_init_111 : decode cX7_init 111 = .ok (.getfield 9, 3) := by decide +kernel
theorem dX7_init_114 : decode cX7_init 114 = .ok (.iconst 2, 1) := by decide +kernel
theorem dX7_init_115 : decode cX7_init 115 = .ok (.iconst 1, 1) := by decide +kernel
theorem dX7_init_116 : decode cX7_init 116 = .ok (.iastore, 1) := by decide +kernel
theorem dX7_init_117 : decode cX7_init 117 = .ok (.iconst 0, 1) := by decide +kernel
theorem dX7_init_118 : decode cX7_init 118 = .ok (.istore_n 1, 1) := by decide +kernel
theorem dX7_init_119 : decode cX7_init 119 = .ok (.iload_n 1, 1) := by decide +kernel
theorem dX7_init_120 : decode cX7_init 120 = .ok (.bipush 8, 2) := by decide +kernel
theorem dX7_init_122 : decode cX7_init 122 = .ok (.if_icmp .ge 20, 3) := by decide +kernel
theorem dX7_init_125 : decode cX7_init 125 = .ok (.aload_n 0, 1) := by decide +kernel
theorem dX7_init_126 : decode cX7_init 126 = .ok (.getfield 9, 3) := by decide +kernel
theorem dX7_init_129 : decode cX7_init 129 = .ok (.bipush 68, 2) := by decide +kernel
theorem dX7_init_131 : decode cX7_init 131 = .ok (.iload_n 1, 1) := by decide +kernel
theorem dX7_init_132 : decode cX7_init 132 = .ok (.iadd, 1) := by decide +kernel
theorem dX7_init_133 : decode cX7_init 133 = .ok (.bipush 10, 2) := by decide +kernel
theorem dX7_init_135 : decode cX7_init 135 = .ok (.iastore, 1) := by decide +kernel
theorem dX7_init_136 : decode cX7_init 136 = .ok (.iinc 1 1, 3) := by decide +kernel
theorem dX7_init_139 : decode cX7_init 139 = .ok (.goto (-20), 3) := by decide +kernel
theorem dX7_init_142 : decode cX7_init 142 = .ok (.iconst 0, 1) := by decide +kernel
theorem dX7_init_143 : decode cX7_init 143 = .ok (.istore_n 1, 1) := by decide +kernel
theorem dX7_init_144 : decode cX7_init 144 = .ok (.iload_n 1, 1) := by decide +kernel
theorem dX7_init_145 : decode cX7_init 145 = .ok (.bipush 10, 2) := by decide +kernel
theorem dX7_init_147 : decode cX7_init 147 = .ok (.if_icmp .ge 19, 3) := by decide +kernel
theorem dX7_init_150 : decode cX7_init 150 = .ok (.aload_n 0, 1) := by decide +kernel
theorem dX7_init_151 : decode cX7_init 151 = .ok (.getfield 9, 3) := by decide +kernel
theorem dX7_init_154 : decode cX7_init 154 = .ok (.bipush 126, 2) := by decide +kernel
theorem dX7_init_156 : decode cX7_init 156 = .ok (.iload_n 1, 1) := by decide +kernel
theorem dX7_init_157 : decode cX7_init 157 = .ok (.iadd, 1) := by decide +kernel
theorem dX7_init_158 : decode cX7_init 158 = .ok (.iconst (-1), 1) := by decide +kernel
theorem dX7_init_159 : decode cX7_init 159 = .ok (.iastore, 1) := by decide +kernel
theorem dX7_init_160 : decode cX7_init 160 = .ok (.iinc 1 1, 3) := by decide +kernel
theorem dX7_init_163 : decode cX7_init 163 = .ok (.goto (-19), 3) := by decide +kernel
theorem dX7_init_166 : decode cX7_init 166 = .ok (.return_, 1) := by decide +kernel
theorem dX7_finds_0 : decode cX7_finds 0 = .ok (.aload_n 0, 1) := by decide +kernel
theorem dX7_finds_1 : decode cX7_finds 1 = .ok (.getfield 19, 3) := by decide +kernel
theorem dX7_finds_4 : decode cX7_finds 4 = .ok (.ldc 46, 2) := by decide +kernel
theorem dX7_finds_6 : decode cX7_finds 6 = .ok (.iload_n 1, 1) := by decide +kernel
theorem dX7_finds_7 : decode cX7_finds 7 = .ok (.isub, 1) := by decide +kernel
theorem dX7_finds_8 : decode cX7_finds 8 = .ok (.dup2, 1) := by decide +kernel
theorem dX7_finds_9 : decode cX7_finds 9 = .ok (.iaload, 1) := by decide +kernel
theorem dX7_finds_10 : decode cX7_finds 10 = .ok (.iconst 1, 1) := by decide +kernel
theorem dX7_finds_11 : decode cX7_finds 11 = .ok (.iadd, 1) := by decide +kernel
theorem dX7_finds_12 : decode cX7_finds 12 = .ok (.iastore, 1) := by decide +kernel
theorem dX7_finds_13 : decode cX7_finds 13 = .ok (.iload_n 1, 1) := by decide +kernel
theorem dX7_finds_14 : decode cX7_finds 14 = .ok (.ireturn, 1) := by decide +kernel
theorem dX7_orNone_0 : decode cX7_orNone 0 = .ok (.iload_n 1, 1) := by decide +kernel
theorem dX7_orNone_1 : decode cX7_orNone 1 = .ok (.ifCond .ge 12, 3) := by decide +kernel
theorem dX7_orNone_4 : decode cX7_orNone 4 = .ok (.aload_n 0, 1) := by decide +kernel
theorem dX7_orNone_5 : decode cX7_orNone 5 = .ok (.ldc 47, 2) := by decide +kernel
theorem dX7_orNone_7 : decode cX7_orNone 7 = .ok (.invokevirtual 48, 3) := by decide +kernel
theorem dX7_orNone_10 : decode cX7_orNone 10 = .ok (.goto 4, 3) := by decide +kernel
theorem dX7_orNone_13 : decode cX7_orNone 13 = .ok (.iload_n 1, 1) := by decide +kernel
theorem dX7_orNone_14 : decode cX7_orNone 14 = .ok (.ireturn, 1) := by decide +kernel
theorem dX7_in_0 : decode cX7_in 0 = .ok (.lload_n 0, 1) := by decide +kernel
theorem dX7_in_1 : decode cX7_in 1 = .ok (.lload_n 2, 1) := by decide +kernel
theorem dX7_in_2 : decode cX7_in 2 = .ok (.lcmp, 1) := by decide +kernel
theorem dX7_in_3 : decode cX7_in 3 = .ok (.ifCond .lt 14, 3) := by decide +kernel
theorem dX7_in_6 : decode cX7_in 6 = .ok (.lload_n 0, 1) := by decide +kernel
theorem dX7_in_7 : decode cX7_in 7 = .ok (.lload 4, 2) := by decide +kernel
theorem dX7_in_9 : decode cX7_in 9 = .ok (.lcmp, 1) := by decide +kernel
theorem dX7_in_10 : decode cX7_in 10 = .ok (.ifCond .gt 7, 3) := by decide +kernel
theorem dX7_in_13 : decode cX7_in 13 = .ok (.iconst 1, 1) := by decide +kernel
theorem dX7_in_14 : decode cX7_in 14 = .ok (.goto 4, 3) := by decide +kernel
theorem dX7_in_17 : decode cX7_in 17 = .ok (.iconst 0, 1) := by decide +kernel
theorem dX7_in_18 : decode cX7_in 18 = .ok (.ireturn, 1) := by decide +kernel
theorem dX7_has_0 : decode cX7_has 0 = .ok (.iload_n 0, 1) := by decide +kernel
theorem dX7_has_1 : decode cX7_has 1 = .ok (.iload_n 1, 1) := by decide +kernel
theorem dX7_has_2 : decode cX7_has 2 = .ok (.ishr, 1) := by decide +kernel
theorem dX7_has_3 : decode cX7_has 3 = .ok (.iconst 1, 1) := by decide +kernel
theorem dX7_has_4 : decode cX7_has 4 = .ok (.iand, 1) := by decide +kernel
theorem dX7_has_5 : decode cX7_has 5 = .ok (.iconst 1, 1) := by decide +kernel
theorem dX7_has_6 : decode cX7_has 6 = .ok (.if_icmp .ne 7, 3) := by decide +kernel
theorem dX7_has_9 : decode cX7_has 9 = .ok (.iconst 1, 1) := by decide +kernel
theorem dX7_has_10 : decode cX7_has 10 = .ok (.goto 4, 3) := by decide +kernel
theorem dX7_has_13 : decode cX7_has 13 = .ok (.iconst 0, 1) := by decide +kernel
theorem dX7_has_14 : decode cX7_has 14 = .ok (.ireturn, 1) := by decide +kernel
theorem dX7_many_0 : decode cX7_many 0 = .ok (.iconst 0, 1) := by decide +kernel
theorem dX7_many_1 : decode cX7_many 1 = .ok (.istore_n 1, 1) := by decide +kernel
theorem dX7_many_2 : decode cX7_many 2 = .ok (.iconst 0, 1) := by decide +kernel
theorem dX7_many_3 : decode cX7_many 3 = .ok (.istore_n 2, 1) := by decide +kernel
theorem dX7_many_4 : decode cX7_many 4 = .ok (.iload_n 2, 1) := by decide +kernel
theorem dX7_many_5 : decode cX7_many 5 = .ok (.bipush 8, 2) := by decide +kernel
theorem dX7_many_7 : decode cX7_many 7 = .ok (.if_icmp .ge 17, 3) := by decide +kernel
theorem dX7_many_10 : decode cX7_many 10 = .ok (.iload_n 1, 1) := by decide +kernel
theorem dX7_many_11 : decode cX7_many 11 = .ok (.iload_n 0, 1) := by decide +kernel
theorem dX7_many_12 : decode cX7_many 12 = .ok (.iload_n 2, 1) := by decide +kernel
theorem dX7_many_13 : decode cX7_many 13 = .ok (.ishr, 1) := by decide +kernel
theorem dX7_many_14 : decode cX7_many 14 = .ok (.iconst 1, 1) := by decide +kernel
theorem dX7_many_15 : decode cX7_many 15 = .ok (.iand, 1) := by decide +kernel
theorem dX7_many_16 : decode cX7_many 16 = .ok (.iadd, 1) := by decide +kernel
theorem dX7_many_17 : decode cX7_many 17 = .ok (.istore_n 1, 1) := by decide +kernel
theorem dX7_many_18 : decode cX7_many 18 = .ok (.iinc 2 1, 3) := by decide +kernel
theorem dX7_many_21 : decode cX7_many 21 = .ok (.goto (-17), 3) := by decide +kernel
theorem dX7_many_24 : decode cX7_many 24 = .ok (.iload_n 1, 1) := by decide +kernel
theorem dX7_many_25 : decode cX7_many 25 = .ok (.ireturn, 1) := by decide +kernel
theorem dX7_row_0 : decode cX7_row 0 = .ok (.iconst 0, 1) := by decide +kernel
theorem dX7_row_1 : decode cX7_row 1 = .ok (.istore_n 2, 1) := by decide +kernel
theorem dX7_row_2 : decode cX7_row 2 = .ok (.iload_n 2, 1) := by decide +kernel
theorem dX7_row_3 : decode cX7_row 3 = .ok (.sipush 136, 3) := by decide +kernel
theorem dX7_row_6 : decode cX7_row 6 = .ok (.if_icmp .ge 15, 3) := by decide +kernel
theorem dX7_row_9 : decode cX7_row 9 = .ok (.aload_n 1, 1) := by decide +kernel
theorem dX7_row_10 : decode cX7_row 10 = .ok (.iload_n 2, 1) := by decide +kernel
theorem dX7_row_11 : decode cX7_row 11 = .ok (.aload_n 0, 1) := by decide +kernel
theorem dX7_row_12 : decode cX7_row 12 = .ok (.iload_n 2, 1) := by decide +kernel
theorem dX7_row_13 : decode cX7_row 13 = .ok (.iaload, 1) := by decide +kernel
theorem dX7_row_14 : decode cX7_row 14 = .ok (.iastore, 1) := by decide +kernel
theorem dX7_row_15 : decode cX7_row 15 = .ok (.iinc 2 1, 3) := by decide +kernel
theorem dX7_row_18 : decode cX7_row 18 = .ok (.goto (-16), 3) := by decide +kernel
theorem dX7_row_21 : decode cX7_row 21 = .ok (.return_, 1) := by decide +kernel
theorem dX7_becomes_0 : decode cX7_becomes 0 = .ok (.aload_n 0, 1) := by decide +kernel
theorem dX7_becomes_1 : decode cX7_becomes 1 = .ok (.getfield 9, 3) := by decide +kernel
theorem dX7_becomes_4 : decode cX7_becomes 4 = .ok (.iload_n 1, 1) := by decide +kernel
theorem dX7_becomes_5 : decode cX7_becomes 5 = .ok (.iaload, 1) := by decide +kernel
theorem dX7_becomes_6 : decode cX7_becomes 6 = .ok (.istore_n 3, 1) := by decide +kernel
theorem dX7_becomes_7 : decode cX7_becomes 7 = .ok (.aload_n 0, 1) := by decide +kernel
theorem dX7_becomes_8 : decode cX7_becomes 8 = .ok (.getfield 9, 3) := by decide +kernel
theorem dX7_becomes_11 : decode cX7_becomes 11 = .ok (.iload_n 1, 1) := by decide +kernel
theorem dX7_becomes_12 : decode cX7_becomes 12 = .ok (.iload_n 2, 1) := by decide +kernel
theorem dX7_becomes_13 : decode cX7_becomes 13 = .ok (.iastore, 1) := by decide +kernel
theorem dX7_becomes_14 : decode cX7_becomes 14 = .ok (.iload_n 3, 1) := by decide +kernel
theorem dX7_becomes_15 : decode cX7_becomes 15 = .ok (.ireturn, 1) := by decide +kernel
theorem dX7_isPerson_0 : decode cX7_isPerson 0 = .ok (.iload_n 0, 1) := by decide +kernel
theorem dX7_isPerson_1 : decode cX7_isPerson 1 = .ok (.i2l, 1) := by decide +kernel
theorem dX7_isPerson_2 : decode cX7_isPerson 2 = .ok (.lconst 0, 1) := by decide +kernel
theorem dX7_isPerson_3 : decode cX7_isPerson 3 = .ok (.ldc2_w 52, 3) := by decide +kernel
theorem dX7_isPerson_6 : decode cX7_isPerson 6 = .ok (.invokestatic 54, 3) := by decide +kernel
theorem dX7_isPerson_9 : decode cX7_isPerson 9 = .ok (.ireturn, 1) := by decide +kernel
theorem dX7_isBench_0 : decode cX7_isBench 0 = .ok (.iload_n 1, 1) := by decide +kernel
theorem dX7_isBench_1 : decode cX7_isBench 1 = .ok (.i2l, 1) := by decide +kernel
theorem dX7_isBench_2 : decode cX7_isBench 2 = .ok (.lconst 0, 1) := by decide +kernel
theorem dX7_isBench_3 : decode cX7_isBench 3 = .ok (.aload_n 0, 1) := by decide +kernel
theorem dX7_isBench_4 : decode cX7_isBench 4 = .ok (.getfield 9, 3) := by decide +kernel
theorem dX7_isBench_7 : decode cX7_isBench 7 = .ok (.iconst 3, 1) := by decide +kernel
theorem dX7_isBench_8 : decode cX7_isBench 8 = .ok (.iaload, 1) := by decide +kernel
theorem dX7_isBench_9 : decode cX7_isBench 9 = .ok (.iconst 1, 1) := by decide +kernel
theorem dX7_isBench_10 : decode cX7_isBench 10 = .ok (.isub, 1) := by decide +kernel
theorem dX7_isBench_11 : decode cX7_isBench 11 = .ok (.i2l, 1) := by decide +kernel
theorem dX7_isBench_12 : decode cX7_isBench 12 = .ok (.invokestatic 54, 3) := by decide +kernel
theorem dX7_isBench_15 : decode cX7_isBench 15 = .ok (.ireturn, 1) := by decide +kernel
theorem dX7_isSet_0 : decode cX7_isSet 0 = .ok (.iload_n 0, 1) := by decide +kernel
theorem dX7_isSet_1 : decode cX7_isSet 1 = .ok (.i2l, 1) := by decide +kernel
theorem dX7_isSet_2 : decode cX7_isSet 2 = .ok (.lconst 0, 1) := by decide +kernel
theorem dX7_isSet_3 : decode cX7_isSet 3 = .ok (.ldc2_w 58, 3) := by decide +kernel
theorem dX7_isSet_6 : decode cX7_isSet 6 = .ok (.invokestatic 54, 3) := by decide +kernel
theorem dX7_isSet_9 : decode cX7_isSet 9 = .ok (.ireturn, 1) := by decide +kernel
theorem dX7_isKind_0 : decode cX7_isKind 0 = .ok (.iload_n 0, 1) := by decide +kernel
theorem dX7_isKind_1 : decode cX7_isKind 1 = .ok (.i2l, 1) := by decide +kernel
theorem dX7_isKind_2 : decode cX7_isKind 2 = .ok (.lconst 0, 1) := by decide +kernel
theorem dX7_isKind_3 : decode cX7_isKind 3 = .ok (.ldc2_w 60, 3) := by decide +kernel
theorem dX7_isKind_6 : decode cX7_isKind 6 = .ok (.invokestatic 54, 3) := by decide +kernel
theorem dX7_isKind_9 : decode cX7_isKind 9 = .ok (.ireturn, 1) := by decide +kernel
theorem dX7_kindOf_0 : decode cX7_kindOf 0 = .ok (.aload_n 0, 1) := by decide +kernel
theorem dX7_kindOf_1 : decode cX7_kindOf 1 = .ok (.getfield 9, 3) := by decide +kernel
theorem dX7_kindOf_4 : decode cX7_kindOf 4 = .ok (.bipush 76, 2) := by decide +kernel
theorem dX7_kindOf_6 : decode cX7_kindOf 6 = .ok (.bipush 10, 2) := by decide +kernel
theorem dX7_kindOf_8 : decode cX7_kindOf 8 = .ok (.iload_n 1, 1) := by decide +kernel
theorem dX7_kindOf_9 : decode cX7_kindOf 9 = .ok (.imul, 1) := by decide +kernel
theorem dX7_kindOf_10 : decode cX7_kindOf 10 = .ok (.iadd, 1) := by decide +kernel
theorem dX7_kindOf_11 : decode cX7_kindOf 11 = .ok (.iaload, 1) := by decide +kernel
theorem dX7_kindOf_12 : decode cX7_kindOf 12 = .ok (.ireturn, 1) := by decide +kernel
theorem dX7_seatsOf_0 : decode cX7_seatsOf 0 = .ok (.aload_n 0, 1) := by decide +kernel
theorem dX7_seatsOf_1 : decode cX7_seatsOf 1 = .ok (.getfield 9, 3) := by decide +kernel
theorem dX7_seatsOf_4 : decode cX7_seatsOf 4 = .ok (.bipush 76, 2) := by decide +kernel
theorem dX7_seatsOf_6 : decode cX7_seatsOf 6 = .ok (.bipush 10, 2) := by decide +kernel
theorem dX7_seatsOf_8 : decode cX7_seatsOf 8 = .ok (.iload_n 1, 1) := by decide +kernel
theorem dX7_seatsOf_9 : decode cX7_seatsOf 9 = .ok (.imul, 1) := by decide +kernel
theorem dX7_seatsOf_10 : decode cX7_seatsOf 10 = .ok (.iadd, 1) := by decide +kernel
theorem dX7_seatsOf_11 : decode cX7_seatsOf 11 = .ok (.iconst 1, 1) := by decide +kernel
theorem dX7_seatsOf_12 : decode cX7_seatsOf 12 = .ok (.iadd, 1) := by decide +kernel
theorem dX7_seatsOf_13 : decode cX7_seatsOf 13 = .ok (.iaload, 1) := by decide +kernel
theorem dX7_seatsOf_14 : decode cX7_seatsOf 14 = .ok (.ireturn, 1) := by decide +kernel
theorem dX7_at_0 : decode cX7_at 0 = .ok (.bipush 76, 2) := by decide +kernel
theorem dX7_at_2 : decode cX7_at 2 = .ok (.bipush 10, 2) := by decide +kernel
theorem dX7_at_4 : decode cX7_at 4 = .ok (.iload_n 0, 1) := by decide +kernel
theorem dX7_at_5 : decode cX7_at 5 = .ok (.imul, 1) := by decide +kernel
theorem dX7_at_6 : decode cX7_at 6 = .ok (.iadd, 1) := by decide +kernel
theorem dX7_at_7 : decode cX7_at 7 = .ok (.iconst 2, 1) := by decide +kernel
theorem dX7_at_8 : decode cX7_at 8 = .ok (.iadd, 1) := by decide +kernel
theorem dX7_at_9 : decode cX7_at 9 = .ok (.iload_n 1, 1) := by decide +kernel
theorem dX7_at_10 : decode cX7_at 10 = .ok (.iadd, 1) := by decide +kernel
theorem dX7_at_11 : decode cX7_at 11 = .ok (.ireturn, 1) := by decide +kernel
theorem dX7_isSeat_0 : decode cX7_isSeat 0 = .ok (.aload_n 0, 1) := by decide +kernel
theorem dX7_isSeat_1 : decode cX7_isSeat 1 = .ok (.iload_n 1, 1) := by decide +kernel
theorem dX7_isSeat_2 : decode cX7_isSeat 2 = .ok (.invokevirtual 62, 3) := by decide +kernel
theorem dX7_isSeat_5 : decode cX7_isSeat 5 = .ok (.ifCond .eq 24, 3) := by decide +kernel
theorem dX7_isSeat_8 : decode cX7_isSeat 8 = .ok (.iload_n 2, 1) := by decide +kernel
theorem dX7_isSeat_9 : decode cX7_isSeat 9 = .ok (.i2l, 1) := by decide +kernel
theorem dX7_isSeat_10 : decode cX7_isSeat 10 = .ok (.lconst 0, 1) := by decide +kernel
theorem dX7_isSeat_11 : decode cX7_isSeat 11 = .ok (.aload_n 0, 1) := by decide +kernel
theorem dX7_isSeat_12 : decode cX7_isSeat 12 = .ok (.iload_n 1, 1) := by decide +kernel
theorem dX7_isSeat_13 : decode cX7_isSeat 13 = .ok (.invokevirtual 66, 3) := by decide +kernel
theorem dX7_isSeat_16 : decode cX7_isSeat 16 = .ok (.iconst 1, 1) := by decide +kernel
theorem dX7_isSeat_17 : decode cX7_isSeat 17 = .ok (.isub, 1) := by decide +kernel
theorem dX7_isSeat_18 : decode cX7_isSeat 18 = .ok (.i2l, 1) := by decide +kernel
theorem dX7_isSeat_19 : decode cX7_isSeat 19 = .ok (.invokestatic 54, 3) := by decide +kernel
theorem dX7_isSeat_22 : decode cX7_isSeat 22 = .ok (.ifCond .eq 7, 3) := by decide +kernel
theorem dX7_isSeat_25 : decode cX7_isSeat 25 = .ok (.iconst 1, 1) := by decide +kernel
theorem dX7_isSeat_26 : decode cX7_isSeat 26 = .ok (.goto 4, 3) := by decide +kernel
theorem dX7_isSeat_29 : decode cX7_isSeat 29 = .ok (.iconst 0, 1) := by decide +kernel
theorem dX7_isSeat_30 : decode cX7_isSeat 30 = .ok (.ireturn, 1) := by decide +kernel
theorem dX7_areTwo_0 : decode cX7_areTwo 0 = .ok (.iload_n 0, 1) := by decide +kernel
theorem dX7_areTwo_1 : decode cX7_areTwo 1 = .ok (.invokestatic 69, 3) := by decide +kernel
theorem dX7_areTwo_4 : decode cX7_areTwo 4 = .ok (.ifCond .eq 19, 3) := by decide +kernel
theorem dX7_areTwo_7 : decode cX7_areTwo 7 = .ok (.iload_n 1, 1) := by decide +kernel
theorem dX7_areTwo_8 : decode cX7_areTwo 8 = .ok (.invokestatic 69, 3) := by decide +kernel
theorem dX7_areTwo_11 : decode cX7_areTwo 11 = .ok (.ifCond .eq 12, 3) := by decide +kernel
theorem dX7_areTwo_14 : decode cX7_areTwo 14 = .ok (.iload_n 0, 1) := by decide +kernel
theorem dX7_areTwo_15 : decode cX7_areTwo 15 = .ok (.iload_n 1, 1) := by decide +kernel
theorem dX7_areTwo_16 : decode cX7_areTwo 16 = .ok (.if_icmp .eq 7, 3) := by decide +kernel
theorem dX7_areTwo_19 : decode cX7_areTwo 19 = .ok (.iconst 1, 1) := by decide +kernel
theorem dX7_areTwo_20 : decode cX7_areTwo 20 = .ok (.goto 4, 3) := by decide +kernel
theorem dX7_areTwo_23 : decode cX7_areTwo 23 = .ok (.iconst 0, 1) := by decide +kernel
theorem dX7_areTwo_24 : decode cX7_areTwo 24 = .ok (.ireturn, 1) := by decide +kernel
theorem dX7_befriends_0 : decode cX7_befriends 0 = .ok (.aload_n 0, 1) := by decide +kernel
theorem dX7_befriends_1 : decode cX7_befriends 1 = .ok (.getfield 9, 3) := by decide +kernel
theorem dX7_befriends_4 : decode cX7_befriends 4 = .ok (.iconst 4, 1) := by decide +kernel
theorem dX7_befriends_5 : decode cX7_befriends 5 = .ok (.bipush 8, 2) := by decide +kernel
theorem dX7_befriends_7 : decode cX7_befriends 7 = .ok (.iload_n 1, 1) := by decide +kernel
theorem dX7_befriends_8 : decode cX7_befriends 8 = .ok (.imul, 1) := by decide +kernel
theorem dX7_befriends_9 : decode cX7_befriends 9 = .ok (.iadd, 1) := by decide +kernel
theorem dX7_befriends_10 : decode cX7_befriends 10 = .ok (.iload_n 2, 1) := by decide +kernel
theorem dX7_befriends_11 : decode cX7_befriends 11 = .ok (.iadd, 1) := by decide +kernel
theorem dX7_befriends_12 : decode cX7_befriends 12 = .ok (.iload_n 3, 1) := by decide +kernel
theorem dX7_befriends_13 : decode cX7_befriends 13 = .ok (.iastore, 1) := by decide +kernel
theorem dX7_befriends_14 : decode cX7_befriends 14 = .ok (.aload_n 0, 1) := by decide +kernel
theorem dX7_befriends_15 : decode cX7_befriends 15 = .ok (.getfield 9, 3) := by decide +kernel
theorem dX7_befriends_18 : decode cX7_befriends 18 = .ok (.iconst 4, 1) := by decide +kernel
theorem dX7_befriends_19 : decode cX7_befriends 19 = .ok (.bipush 8, 2) := by decide +kernel
theorem dX7_befriends_21 : decode cX7_befriends 21 = .ok (.iload_n 2, 1) := by decide +kernel
theorem dX7_befriends_22 : decode cX7_befriends 22 = .ok (.imul, 1) := by decide +kernel
theorem dX7_befriends_23 : decode cX7_befriends 23 = .ok (.iadd, 1) := by decide +kernel
theorem dX7_befriends_24 : decode cX7_befriends 24 = .ok (.iload_n 1, 1) := by decide +kernel
theorem dX7_befriends_25 : decode cX7_befriends 25 = .ok (.iadd, 1) := by decide +kernel
theorem dX7_befriends_26 : decode cX7_befriends 26 = .ok (.iload_n 3, 1) := by decide +kernel
theorem dX7_befriends_27 : decode cX7_befriends 27 = .ok (.iastore, 1) := by decide +kernel
theorem dX7_befriends_28 : decode cX7_befriends 28 = .ok (.return_, 1) := by decide +kernel
theorem dX7_how_0 : decode cX7_how 0 = .ok (.aload_n 0, 1) := by decide +kernel
theorem dX7_how_1 : decode cX7_how 1 = .ok (.getfield 9, 3) := by decide +kernel
theorem dX7_how_4 : decode cX7_how 4 = .ok (.iconst 4, 1) := by decide +kernel
theorem dX7_how_5 : decode cX7_how 5 = .ok (.bipush 8, 2) := by decide +kernel
theorem dX7_how_7 : decode cX7_how 7 = .ok (.iload_n 1, 1) := by decide +kernel
theorem dX7_how_8 : decode cX7_how 8 = .ok (.imul, 1) := by decide +kernel
theorem dX7_how_9 : decode cX7_how 9 = .ok (.iadd, 1) := by decide +kernel
theorem dX7_how_10 : decode cX7_how 10 = .ok (.iload_n 2, 1) := by decide +kernel
theorem dX7_how_11 : decode cX7_how 11 = .ok (.iadd, 1) := by decide +kernel
theorem dX7_how_12 : decode cX7_how 12 = .ok (.iaload, 1) := by decide +kernel
theorem dX7_how_13 : decode cX7_how 13 = .ok (.ireturn, 1) := by decide +kernel
theorem dX7_areFriends_0 : decode cX7_areFriends 0 = .ok (.aload_n 0, 1) := by decide +kernel
theorem dX7_areFriends_1 : decode cX7_areFriends 1 = .ok (.iload_n 1, 1) := by decide +kernel
theorem dX7_areFriends_2 : decode cX7_areFriends 2 = .ok (.iload_n 2, 1) := by decide +kernel
theorem dX7_areFriends_3 : decode cX7_areFriends 3 = .ok (.invokevirtual 72, 3) := by decide +kernel
theorem dX7_areFriends_6 : decode cX7_areFriends 6 = .ok (.iconst 1, 1) := by decide +kernel
theorem dX7_areFriends_7 : decode cX7_areFriends 7 = .ok (.if_icmp .eq 23, 3) := by decide +kernel
theorem dX7_areFriends_10 : decode cX7_areFriends 10 = .ok (.aload_n 0, 1) := by decide +kernel
theorem dX7_areFriends_11 : decode cX7_areFriends 11 = .ok (.iload_n 1, 1) := by decide +kernel
theorem dX7_areFriends_12 : decode cX7_areFriends 12 = .ok (.iload_n 2, 1) := by decide +kernel
theorem dX7_areFriends_13 : decode cX7_areFriends 13 = .ok (.invokevirtual 72, 3) := by decide +kernel
theorem dX7_areFriends_16 : decode cX7_areFriends 16 = .ok (.iconst 2, 1) := by decide +kernel
theorem dX7_areFriends_17 : decode cX7_areFriends 17 = .ok (.if_icmp .ne 17, 3) := by decide +kernel
theorem dX7_areFriends_20 : decode cX7_areFriends 20 = .ok (.aload_n 0, 1) := by decide +kernel
theorem dX7_areFriends_21 : decode cX7_areFriends 21 = .ok (.getfield 9, 3) := by decide +kernel
theorem dX7_areFriends_24 : decode cX7_areFriends 24 = .ok (.iconst 0, 1) := by decide +kernel
theorem dX7_areFriends_25 : decode cX7_areFriends 25 = .ok (.iaload, 1) := by decide +kernel
theorem dX7_areFriends_26 : decode cX7_areFriends 26 = .ok (.iconst 1, 1) := by decide +kernel
theorem dX7_areFriends_27 : decode cX7_areFriends 27 = .ok (.if_icmp .ne 7, 3) := by decide +kernel
theorem dX7_areFriends_30 : decode cX7_areFriends 30 = .ok (.iconst 1, 1) := by decide +kernel
theorem dX7_areFriends_31 : decode cX7_areFriends 31 = .ok (.goto 4, 3) := by decide +kernel
theorem dX7_areFriends_34 : decode cX7_areFriends 34 = .ok (.iconst 0, 1) := by decide +kernel
theorem dX7_areFriends_35 : decode cX7_areFriends 35 = .ok (.ireturn, 1) := by decide +kernel
theorem dX7_friends_0 : decode cX7_friends 0 = .ok (.iload_n 1, 1) := by decide +kernel
theorem dX7_friends_1 : decode cX7_friends 1 = .ok (.iload_n 2, 1) := by decide +kernel
theorem dX7_friends_2 : decode cX7_friends 2 = .ok (.invokestatic 76, 3) := by decide +kernel
theorem dX7_friends_5 : decode cX7_friends 5 = .ok (.ifCond .eq 15, 3) := by decide +kernel
theorem dX7_friends_8 : decode cX7_friends 8 = .ok (.iload_n 3, 1) := by decide +kernel
theorem dX7_friends_9 : decode cX7_friends 9 = .ok (.i2l, 1) := by decide +kernel
theorem dX7_friends_10 : decode cX7_friends 10 = .ok (.lconst 0, 1) := by decide +kernel
theorem dX7_friends_11 : decode cX7_friends 11 = .ok (.ldc2_w 80, 3) := by decide +kernel
theorem dX7_friends_14 : decode cX7_friends 14 = .ok (.invokestatic 54, 3) := by decide +kernel
theorem dX7_friends_17 : decode cX7_friends 17 = .ok (.ifCond .ne 10, 3) := by decide +kernel
theorem dX7_friends_20 : decode cX7_friends 20 = .ok (.aload_n 0, 1) := by decide +kernel
theorem dX7_friends_21 : decode cX7_friends 21 = .ok (.ldc 46, 2) := by decide +kernel
theorem dX7_friends_23 : decode cX7_friends 23 = .ok (.invokevirtual 48, 3) := by decide +kernel
theorem dX7_friends_26 : decode cX7_friends 26 = .ok (.ireturn, 1) := by decide +kernel
theorem dX7_friends_27 : decode cX7_friends 27 = .ok (.aload_n 0, 1) := by decide +kernel
theorem dX7_friends_28 : decode cX7_friends 28 = .ok (.iload_n 1, 1) := by decide +kernel
theorem dX7_friends_29 : decode cX7_friends 29 = .ok (.iload_n 2, 1) := by decide +kernel
theorem dX7_friends_30 : decode cX7_friends 30 = .ok (.invokevirtual 72, 3) := by decide +kernel
theorem dX7_friends_33 : decode cX7_friends 33 = .ok (.istore 4, 2) := by decide +kernel
theorem dX7_friends_35 : decode cX7_friends 35 = .ok (.aload_n 0, 1) := by decide +kernel
theorem dX7_friends_36 : decode cX7_friends 36 = .ok (.iload_n 1, 1) := by decide +kernel
theorem dX7_friends_37 : decode cX7_friends 37 = .ok (.iload_n 2, 1) := by decide +kernel
theorem dX7_friends_38 : decode cX7_friends 38 = .ok (.iload_n 3, 1) := by decide +kernel
theorem dX7_friends_39 : decode cX7_friends 39 = .ok (.invokevirtual 82, 3) := by decide +kernel
theorem dX7_friends_42 : decode cX7_friends 42 = .ok (.iload 4, 2) := by decide +kernel
theorem dX7_friends_44 : decode cX7_friends 44 = .ok (.ireturn, 1) := by decide +kernel
theorem dX7_are_0 : decode cX7_are 0 = .ok (.iload_n 1, 1) := by decide +kernel
theorem dX7_are_1 : decode cX7_are 1 = .ok (.iload_n 2, 1) := by decide +kernel
theorem dX7_are_2 : decode cX7_are 2 = .ok (.invokestatic 76, 3) := by decide +kernel
theorem dX7_are_5 : decode cX7_are 5 = .ok (.ifCond .eq 12, 3) := by decide +kernel
theorem dX7_are_8 : decode cX7_are 8 = .ok (.aload_n 0, 1) := by decide +kernel
theorem dX7_are_9 : decode cX7_are 9 = .ok (.iload_n 1, 1) := by decide +kernel
theorem dX7_are_10 : decode cX7_are 10 = .ok (.iload_n 2, 1) := by decide +kernel
theorem dX7_are_11 : decode cX7_are 11 = .ok (.invokevirtual 72, 3) := by decide +kernel
theorem dX7_are_14 : decode cX7_are 14 = .ok (.goto 9, 3) := by decide +kernel
theorem dX7_are_17 : decode cX7_are 17 = .ok (.aload_n 0, 1) := by decide +kernel
theorem dX7_are_18 : decode cX7_are 18 = .ok (.ldc 46, 2) := by decide +kernel
theorem dX7_are_20 : decode cX7_are 20 = .ok (.invokevirtual 48, 3) := by decide +kernel
theorem dX7_are_23 : decode cX7_are 23 = .ok (.ireturn, 1) := by decide +kernel
theorem dX7_weight_0 : decode cX7_weight 0 = .ok (.iload_n 1, 1) := by decide +kernel
theorem dX7_weight_1 : decode cX7_weight 1 = .ok (.invokestatic 69, 3) := by decide +kernel
theorem dX7_weight_4 : decode cX7_weight 4 = .ok (.ifCond .eq 27, 3) := by decide +kernel
theorem dX7_weight_7 : decode cX7_weight 7 = .ok (.iload_n 2, 1) := by decide +kernel
theorem dX7_weight_8 : decode cX7_weight 8 = .ok (.i2l, 1) := by decide +kernel
theorem dX7_weight_9 : decode cX7_weight 9 = .ok (.lconst 1, 1) := by decide +kernel
theorem dX7_weight_10 : decode cX7_weight 10 = .ok (.ldc2_w 86, 3) := by decide +kernel
theorem dX7_weight_13 : decode cX7_weight 13 = .ok (.invokestatic 54, 3) := by decide +kernel
theorem dX7_weight_16 : decode cX7_weight 16 = .ok (.ifCond .eq 15, 3) := by decide +kernel
theorem dX7_weight_19 : decode cX7_weight 19 = .ok (.aload_n 0, 1) := by decide +kernel
theorem dX7_weight_20 : decode cX7_weight 20 = .ok (.bipush 68, 2) := by decide +kernel
theorem dX7_weight_22 : decode cX7_weight 22 = .ok (.iload_n 1, 1) := by decide +kernel
theorem dX7_weight_23 : decode cX7_weight 23 = .ok (.iadd, 1) := by decide +kernel
theorem dX7_weight_24 : decode cX7_weight 24 = .ok (.iload_n 2, 1) := by decide +kernel
theorem dX7_weight_25 : decode cX7_weight 25 = .ok (.invokevirtual 88, 3) := by decide +kernel
theorem dX7_weight_28 : decode cX7_weight 28 = .ok (.goto 9, 3) := by decide +kernel
theorem dX7_weight_31 : decode cX7_weight 31 = .ok (.aload_n 0, 1) := by decide +kernel
theorem dX7_weight_32 : decode cX7_weight 32 = .ok (.ldc 46, 2) := by decide +kernel
theorem dX7_weight_34 : decode cX7_weight 34 = .ok (.invokevirtual 48, 3) := by decide +kernel
theorem dX7_weight_37 : decode cX7_weight 37 = .ok (.ireturn, 1) := by decide +kernel
theorem dX7_over_0 : decode cX7_over 0 = .ok (.aload_n 0, 1) := by decide +kernel
theorem dX7_over_1 : decode cX7_over 1 = .ok (.iconst 0, 1) := by decide +kernel
theorem dX7_over_2 : decode cX7_over 2 = .ok (.iload_n 1, 1) := by decide +kernel
theorem dX7_over_3 : decode cX7_over 3 = .ok (.ifCond .eq 7, 3) := by decide +kernel
theorem dX7_over_6 : decode cX7_over 6 = .ok (.iconst 1, 1) := by decide +kernel
theorem dX7_over_7 : decode cX7_over 7 = .ok (.goto 4, 3) := by decide +kernel
theorem dX7_over_10 : decode cX7_over 10 = .ok (.iconst 0, 1) := by decide +kernel
theorem dX7_over_11 : decode cX7_over 11 = .ok (.invokevirtual 88, 3) := by decide +kernel
theorem dX7_over_14 : decode cX7_over 14 = .ok (.ireturn, 1) := by decide +kernel
theorem dX7_held_0 : decode cX7_held 0 = .ok (.iload_n 1, 1) := by decide +kernel
theorem dX7_held_1 : decode cX7_held 1 = .ok (.i2l, 1) := by decide +kernel
theorem dX7_held_2 : decode cX7_held 2 = .ok (.lconst 0, 1) := by decide +kernel
theorem dX7_held_3 : decode cX7_held 3 = .ok (.ldc2_w 91, 3) := by decide +kernel
theorem dX7_held_6 : decode cX7_held 6 = .ok (.invokestatic 54, 3) := by decide +kernel
theorem dX7_held_9 : decode cX7_held 9 = .ok (.ifCond .eq 12, 3) := by decide +kernel
theorem dX7_held_12 : decode cX7_held 12 = .ok (.aload_n 0, 1) := by decide +kernel
theorem dX7_held_13 : decode cX7_held 13 = .ok (.iconst 1, 1) := by decide +kernel
theorem dX7_held_14 : decode cX7_held 14 = .ok (.iload_n 1, 1) := by decide +kernel
theorem dX7_held_15 : decode cX7_held 15 = .ok (.invokevirtual 88, 3) := by decide +kernel
theorem dX7_held_18 : decode cX7_held 18 = .ok (.goto 9, 3) := by decide +kernel
theorem dX7_held_21 : decode cX7_held 21 = .ok (.aload_n 0, 1) := by decide +kernel
theorem dX7_held_22 : decode cX7_held 22 = .ok (.ldc 46, 2) := by decide +kernel
theorem dX7_held_24 : decode cX7_held 24 = .ok (.invokevirtual 48, 3) := by decide +kernel
theorem dX7_held_27 : decode cX7_held 27 = .ok (.ireturn, 1) := by decide +kernel
theorem dX7_circle_0 : decode cX7_circle 0 = .ok (.iload_n 1, 1) := by decide +kernel
theorem dX7_circle_1 : decode cX7_circle 1 = .ok (.invokestatic 69, 3) := by decide +kernel
theorem dX7_circle_4 : decode cX7_circle 4 = .ok (.ifCond .ne 10, 3) := by decide +kernel
theorem dX7_circle_7 : decode cX7_circle 7 = .ok (.aload_n 0, 1) := by decide +kernel
theorem dX7_circle_8 : decode cX7_circle 8 = .ok (.ldc 46, 2) := by decide +kernel
theorem dX7_circle_10 : decode cX7_circle 10 = .ok (.invokevirtual 48, 3) := by decide +kernel
theorem dX7_circle_13 : decode cX7_circle 13 = .ok (.ireturn, 1) := by decide +kernel
theorem dX7_circle_14 : decode cX7_circle 14 = .ok (.iconst 0, 1) := by decide +kernel
theorem dX7_circle_15 : decode cX7_circle 15 = .ok (.istore_n 2, 1) := by decide +kernel
theorem dX7_circle_16 : decode cX7_circle 16 = .ok (.iconst 0, 1) := by decide +kernel
theorem dX7_circle_17 : decode cX7_circle 17 = .ok (.istore_n 3, 1) := by decide +kernel
theorem dX7_circle_18 : decode cX7_circle 18 = .ok (.iload_n 3, 1) := by decide +kernel
theorem dX7_circle_19 : decode cX7_circle 19 = .ok (.bipush 8, 2) := by decide +kernel
theorem dX7_circle_21 : decode cX7_circle 21 = .ok (.if_icmp .ge 28, 3) := by decide +kernel
theorem dX7_circle_24 : decode cX7_circle 24 = .ok (.iload_n 2, 1) := by decide +kernel
theorem dX7_circle_25 : decode cX7_circle 25 = .ok (.aload_n 0, 1) := by decide +kernel
theorem dX7_circle_26 : decode cX7_circle 26 = .ok (.iload_n 1, 1) := by decide +kernel
theorem dX7_circle_27 : decode cX7_circle 27 = .ok (.iload_n 3, 1) := by decide +kernel
theorem dX7_circle_28 : decode cX7_circle 28 = .ok (.invokevirtual 93, 3) := by decide +kernel
theorem dX7_circle_31 : decode cX7_circle 31 = .ok (.ifCond .eq 9, 3) := by decide +kernel
theorem dX7_circle_34 : decode cX7_circle 34 = .ok (.iconst 1, 1) := by decide +kernel
theorem dX7_circle_35 : decode cX7_circle 35 = .ok (.iload_n 3, 1) := by decide +kernel
theorem dX7_circle_36 : decode cX7_circle 36 = .ok (.ishl, 1) := by decide +kernel
theorem dX7_circle_37 : decode cX7_circle 37 = .ok (.goto 4, 3) := by decide +kernel
theorem dX7_circle_40 : decode cX7_circle 40 = .ok (.iconst 0, 1) := by decide +kernel
theorem dX7_circle_41 : decode cX7_circle 41 = .ok (.ior, 1) := by decide +kernel
theorem dX7_circle_42 : decode cX7_circle 42 = .ok (.istore_n 2, 1) := by decide +kernel
theorem dX7_circle_43 : decode cX7_circle 43 = .ok (.iinc 3 1, 3) := by decide +kernel
theorem dX7_circle_46 : decode cX7_circle 46 = .ok (.goto (-28), 3) := by decide +kernel
theorem dX7_circle_49 : decode cX7_circle 49 = .ok (.iload_n 2, 1) := by decide +kernel
theorem dX7_circle_50 : decode cX7_circle 50 = .ok (.ireturn, 1) := by decide +kernel
theorem dX7_looksAt_0 : decode cX7_looksAt 0 = .ok (.aload_n 0, 1) := by decide +kernel
theorem dX7_looksAt_1 : decode cX7_looksAt 1 = .ok (.aload_n 0, 1) := by decide +kernel
theorem dX7_looksAt_2 : decode cX7_looksAt 2 = .ok (.iload_n 1, 1) := by decide +kernel
theorem dX7_looksAt_3 : decode cX7_looksAt 3 = .ok (.invokevirtual 96, 3) := by decide +kernel
theorem dX7_looksAt_6 : decode cX7_looksAt 6 = .ok (.putfield 99, 3) := by decide +kernel
theorem dX7_looksAt_9 : decode cX7_looksAt 9 = .ok (.aload_n 0, 1) := by decide +kernel
theorem dX7_looksAt_10 : decode cX7_looksAt 10 = .ok (.aload_n 0, 1) := by decide +kernel
theorem dX7_looksAt_11 : decode cX7_looksAt 11 = .ok (.iload_n 1, 1) := by decide +kernel
theorem dX7_looksAt_12 : decode cX7_looksAt 12 = .ok (.invokevirtual 66, 3) := by decide +kernel
theorem dX7_looksAt_15 : decode cX7_looksAt 15 = .ok (.putfield 103, 3) := by decide +kernel
theorem dX7_looksAt_18 : decode cX7_looksAt 18 = .ok (.iconst 0, 1) := by decide +kernel
theorem dX7_looksAt_19 : decode cX7_looksAt 19 = .ok (.istore_n 2, 1) := by decide +kernel
theorem dX7_looksAt_20 : decode cX7_looksAt 20 = .ok (.iload_n 2, 1) := by decide +kernel
theorem dX7_looksAt_21 : decode cX7_looksAt 21 = .ok (.aload_n 0, 1) := by decide +kernel
theorem dX7_looksAt_22 : decode cX7_looksAt 22 = .ok (.getfield 103, 3) := by decide +kernel
theorem dX7_looksAt_25 : decode cX7_looksAt 25 = .ok (.if_icmp .ge 25, 3) := by decide +kernel
theorem dX7_looksAt_28 : decode cX7_looksAt 28 = .ok (.aload_n 0, 1) := by decide +kernel
theorem dX7_looksAt_29 : decode cX7_looksAt 29 = .ok (.getfield 22, 3) := by decide +kernel
theorem dX7_looksAt_32 : decode cX7_looksAt 32 = .ok (.iload_n 2, 1) := by decide +kernel
theorem dX7_looksAt_33 : decode cX7_looksAt 33 = .ok (.aload_n 0, 1) := by decide +kernel
theorem dX7_looksAt_34 : decode cX7_looksAt 34 = .ok (.getfield 9, 3) := by decide +kernel
theorem dX7_looksAt_37 : decode cX7_looksAt 37 = .ok (.iload_n 1, 1) := by decide +kernel
theorem dX7_looksAt_38 : decode cX7_looksAt 38 = .ok (.iload_n 2, 1) := by decide +kernel
theorem dX7_looksAt_39 : decode cX7_looksAt 39 = .ok (.invokestatic 106, 3) := by decide +kernel
theorem dX7_looksAt_42 : decode cX7_looksAt 42 = .ok (.iaload, 1) := by decide +kernel
theorem dX7_looksAt_43 : decode cX7_looksAt 43 = .ok (.iastore, 1) := by decide +kernel
theorem dX7_looksAt_44 : decode cX7_looksAt 44 = .ok (.iinc 2 1, 3) := by decide +kernel
theorem dX7_looksAt_47 : decode cX7_looksAt 47 = .ok (.goto (-27), 3) := by decide +kernel
theorem dX7_looksAt_50 : decode cX7_looksAt 50 = .ok (.return_, 1) := by decide +kernel
theorem dX7_laysDown_0 : decode cX7_laysDown 0 = .ok (.iconst 0, 1) := by decide +kernel
theorem dX7_laysDown_1 : decode cX7_laysDown 1 = .ok (.istore_n 2, 1) := by decide +kernel
theorem dX7_laysDown_2 : decode cX7_laysDown 2 = .ok (.iload_n 2, 1) := by decide +kernel
theorem dX7_laysDown_3 : decode cX7_laysDown 3 = .ok (.aload_n 0, 1) := by decide +kernel
theorem dX7_laysDown_4 : decode cX7_laysDown 4 = .ok (.getfield 103, 3) := by decide +kernel
theorem dX7_laysDown_7 : decode cX7_laysDown 7 = .ok (.if_icmp .ge 25, 3) := by decide +kernel
theorem dX7_laysDown_10 : decode cX7_laysDown 10 = .ok (.aload_n 0, 1) := by decide +kernel
theorem dX7_laysDown_11 : decode cX7_laysDown 11 = .ok (.getfield 9, 3) := by decide +kernel
theorem dX7_laysDown_14 : decode cX7_laysDown 14 = .ok (.iload_n 1, 1) := by decide +kernel
theorem dX7_laysDown_15 : decode cX7_laysDown 15 = .ok (.iload_n 2, 1) := by decide +kernel
theorem dX7_laysDown_16 : decode cX7_laysDown 16 = .ok (.invokestatic 106, 3) := by decide +kernel
theorem dX7_laysDown_19 : decode cX7_laysDown 19 = .ok (.aload_n 0, 1) := by decide +kernel
theorem dX7_laysDown_20 : decode cX7_laysDown 20 = .ok (.getfield 22, 3) := by decide +kernel
theorem dX7_laysDown_23 : decode cX7_laysDown 23 = .ok (.iload_n 2, 1) := by decide +kernel
theorem dX7_laysDown_24 : decode cX7_laysDown 24 = .ok (.iaload, 1) := by decide +kernel
theorem dX7_laysDown_25 : decode cX7_laysDown 25 = .ok (.iastore, 1) := by decide +kernel
theorem dX7_laysDown_26 : decode cX7_laysDown 26 = .ok (.iinc 2 1, 3) := by decide +kernel
theorem dX7_laysDown_29 : decode cX7_laysDown 29 = .ok (.goto (-27), 3) := by decide +kernel
theorem dX7_laysDown_32 : decode cX7_laysDown 32 = .ok (.return_, 1) := by decide +kernel
theorem dX7_isThere_0 : decode cX7_isThere 0 = .ok (.iload_n 1, 1) := by decide +kernel
theorem dX7_isThere_1 : decode cX7_isThere 1 = .ok (.i2l, 1) := by decide +kernel
theorem dX7_isThere_2 : decode cX7_isThere 2 = .ok (.lconst 0, 1) := by decide +kernel
theorem dX7_isThere_3 : decode cX7_isThere 3 = .ok (.aload_n 0, 1) := by decide +kernel
theorem dX7_isThere_4 : decode cX7_isThere 4 = .ok (.getfield 103, 3) := by decide +kernel
theorem dX7_isThere_7 : decode cX7_isThere 7 = .ok (.iconst 1, 1) := by decide +kernel
theorem dX7_isThere_8 : decode cX7_isThere 8 = .ok (.isub, 1) := by decide +kernel
theorem dX7_isThere_9 : decode cX7_isThere 9 = .ok (.i2l, 1) := by decide +kernel
theorem dX7_isThere_10 : decode cX7_isThere 10 = .ok (.invokestatic 54, 3) := by decide +kernel
theorem dX7_isThere_13 : decode cX7_isThere 13 = .ok (.ireturn, 1) := by decide +kernel
theorem dX7_whoIsOn_0 : decode cX7_whoIsOn 0 = .ok (.aload_n 0, 1) := by decide +kernel
theorem dX7_whoIsOn_1 : decode cX7_whoIsOn 1 = .ok (.iload_n 1, 1) := by decide +kernel
theorem dX7_whoIsOn_2 : decode cX7_whoIsOn 2 = .ok (.invokevirtual 109, 3) := by decide +kernel
theorem dX7_whoIsOn_5 : decode cX7_whoIsOn 5 = .ok (.ifCond .eq 12, 3) := by decide +kernel
theorem dX7_whoIsOn_8 : decode cX7_whoIsOn 8 = .ok (.aload_n 0, 1) := by decide +kernel
theorem dX7_whoIsOn_9 : decode cX7_whoIsOn 9 = .ok (.getfield 22, 3) := by decide +kernel
theorem dX7_whoIsOn_12 : decode cX7_whoIsOn 12 = .ok (.iload_n 1, 1) := by decide +kernel
theorem dX7_whoIsOn_13 : decode cX7_whoIsOn 13 = .ok (.iaload, 1) := by decide +kernel
theorem dX7_whoIsOn_14 : decode cX7_whoIsOn 14 = .ok (.goto 4, 3) := by decide +kernel
theorem dX7_whoIsOn_17 : decode cX7_whoIsOn 17 = .ok (.iconst (-1), 1) := by decide +kernel
theorem dX7_whoIsOn_18 : decode cX7_whoIsOn 18 = .ok (.ireturn, 1) := by decide +kernel
theorem dX7_besideOf_0 : decode cX7_besideOf 0 = .ok (.iload_n 1, 1) := by decide +kernel
theorem dX7_besideOf_1 : decode cX7_besideOf 1 = .ok (.iload_n 2, 1) := by decide +kernel
theorem dX7_besideOf_2 : decode cX7_besideOf 2 = .ok (.iadd, 1) := by decide +kernel
theorem dX7_besideOf_3 : decode cX7_besideOf 3 = .ok (.istore_n 3, 1) := by decide +kernel
theorem dX7_besideOf_4 : decode cX7_besideOf 4 = .ok (.aload_n 0, 1) := by decide +kernel
theorem dX7_besideOf_5 : decode cX7_besideOf 5 = .ok (.getfield 99, 3) := by decide +kernel
theorem dX7_besideOf_8 : decode cX7_besideOf 8 = .ok (.iconst 2, 1) := by decide +kernel
theorem dX7_besideOf_9 : decode cX7_besideOf 9 = .ok (.if_icmp .eq 11, 3) := by decide +kernel
theorem dX7_besideOf_12 : decode cX7_besideOf 12 = .ok (.aload_n 0, 1) := by decide +kernel
theorem dX7_besideOf_13 : decode cX7_besideOf 13 = .ok (.getfield 99, 3) := by decide +kernel
theorem dX7_besideOf_16 : decode cX7_besideOf 16 = .ok (.iconst 5, 1) := by decide +kernel
theorem dX7_besideOf_17 : decode cX7_besideOf 17 = .ok (.if_icmp .ne 84, 3) := by decide +kernel
theorem dX7_besideOf_20 : decode cX7_besideOf 20 = .ok (.iload_n 3, 1) := by decide +kernel
theorem dX7_besideOf_21 : decode cX7_besideOf 21 = .ok (.aload_n 0, 1) := by decide +kernel
theorem dX7_besideOf_22 : decode cX7_besideOf 22 = .ok (.getfield 103, 3) := by decide +kernel
theorem dX7_besideOf_25 : decode cX7_besideOf 25 = .ok (.iadd, 1) := by decide +kernel
theorem dX7_besideOf_26 : decode cX7_besideOf 26 = .ok (.aload_n 0, 1) := by decide +kernel
theorem dX7_besideOf_27 : decode cX7_besideOf 27 = .ok (.getfield 103, 3) := by decide +kernel
theorem dX7_besideOf_30 : decode cX7_besideOf 30 = .ok (.irem, 1) := by decide +kernel
theorem dX7_besideOf_31 : decode cX7_besideOf 31 = .ok (.istore 4, 2) := by decide +kernel
theorem dX7_besideOf_33 : decode cX7_besideOf 33 = .ok (.iload 4, 2) := by decide +kernel
theorem dX7_besideOf_35 : decode cX7_besideOf 35 = .ok (.iload_n 2, 1) := by decide +kernel
theorem dX7_besideOf_36 : decode cX7_besideOf 36 = .ok (.iadd, 1) := by decide +kernel
theorem dX7_besideOf_37 : decode cX7_besideOf 37 = .ok (.aload_n 0, 1) := by decide +kernel
theorem dX7_besideOf_38 : decode cX7_besideOf 38 = .ok (.getfield 103, 3) := by decide +kernel
theorem dX7_besideOf_41 : decode cX7_besideOf 41 = .ok (.iadd, 1) := by decide +kernel
theorem dX7_besideOf_42 : decode cX7_besideOf 42 = .ok (.aload_n 0, 1) := by decide +kernel
theorem dX7_besideOf_43 : decode cX7_besideOf 43 = .ok (.getfield 103, 3) := by decide +kernel
theorem dX7_besideOf_46 : decode cX7_besideOf 46 = .ok (.irem, 1) := by decide +kernel
theorem dX7_besideOf_47 : decode cX7_besideOf 47 = .ok (.istore 5, 2) := by decide +kernel
theorem dX7_besideOf_49 : decode cX7_besideOf 49 = .ok (.iload 4, 2) := by decide +kernel
theorem dX7_besideOf_51 : decode cX7_besideOf 51 = .ok (.iload_n 1, 1) := by decide +kernel
theorem dX7_besideOf_52 : decode cX7_besideOf 52 = .ok (.if_icmp .ne 5, 3) := by decide +kernel
theorem dX7_besideOf_55 : decode cX7_besideOf 55 = .ok (.iconst (-1), 1) := by decide +kernel
theorem dX7_besideOf_56 : decode cX7_besideOf 56 = .ok (.ireturn, 1) := by decide +kernel
theorem dX7_besideOf_57 : decode cX7_besideOf 57 = .ok (.aload_n 0, 1) := by decide +kernel
theorem dX7_besideOf_58 : decode cX7_besideOf 58 = .ok (.getfield 99, 3) := by decide +kernel
theorem dX7_besideOf_61 : decode cX7_besideOf 61 = .ok (.iconst 2, 1) := by decide +kernel
theorem dX7_besideOf_62 : decode cX7_besideOf 62 = .ok (.if_icmp .eq 13, 3) := by decide +kernel
theorem dX7_besideOf_65 : decode cX7_besideOf 65 = .ok (.aload_n 0, 1) := by decide +kernel
theorem dX7_besideOf_66 : decode cX7_besideOf 66 = .ok (.getfield 22, 3) := by decide +kernel
theorem dX7_besideOf_69 : decode cX7_besideOf 69 = .ok (.iload 4, 2) := by decide +kernel
theorem dX7_besideOf_71 : decode cX7_besideOf 71 = .ok (.iaload, 1) := by decide +kernel
theorem dX7_besideOf_72 : decode cX7_besideOf 72 = .ok (.ifCond .lt 11, 3) := by decide +kernel
theorem dX7_besideOf_75 : decode cX7_besideOf 75 = .ok (.aload_n 0, 1) := by decide +kernel
theorem dX7_besideOf_76 : decode cX7_besideOf 76 = .ok (.getfield 22, 3) := by decide +kernel
theorem dX7_besideOf_79 : decode cX7_besideOf 79 = .ok (.iload 4, 2) := by decide +kernel
theorem dX7_besideOf_81 : decode cX7_besideOf 81 = .ok (.iaload, 1) := by decide +kernel
theorem dX7_besideOf_82 : decode cX7_besideOf 82 = .ok (.ireturn, 1) := by decide +kernel
theorem dX7_besideOf_83 : decode cX7_besideOf 83 = .ok (.iload 5, 2) := by decide +kernel
theorem dX7_besideOf_85 : decode cX7_besideOf 85 = .ok (.iload_n 1, 1) := by decide +kernel
theorem dX7_besideOf_86 : decode cX7_besideOf 86 = .ok (.if_icmp .ne 7, 3) := by decide +kernel
theorem dX7_besideOf_89 : decode cX7_besideOf 89 = .ok (.iconst (-1), 1) := by decide +kernel
theorem dX7_besideOf_90 : decode cX7_besideOf 90 = .ok (.goto 10, 3) := by decide +kernel
theorem dX7_besideOf_93 : decode cX7_besideOf 93 = .ok (.aload_n 0, 1) := by decide +kernel
theorem dX7_besideOf_94 : decode cX7_besideOf 94 = .ok (.getfield 22, 3) := by decide +kernel
theorem dX7_besideOf_97 : decode cX7_besideOf 97 = .ok (.iload 5, 2) := by decide +kernel
theorem dX7_besideOf_99 : decode cX7_besideOf 99 = .ok (.iaload, 1) := by decide +kernel
theorem dX7_besideOf_100 : decode cX7_besideOf 100 = .ok (.ireturn, 1) := by decide +kernel
theorem dX7_besideOf_101 : decode cX7_besideOf 101 = .ok (.aload_n 0, 1) := by decide +kernel
theorem dX7_besideOf_102 : decode cX7_besideOf 102 = .ok (.getfield 99, 3) := by decide +kernel
theorem dX7_besideOf_105 : decode cX7_besideOf 105 = .ok (.iconst 4, 1) := by decide +kernel
theorem dX7_besideOf_106 : decode cX7_besideOf 106 = .ok (.if_icmp .ne 33, 3) := by decide +kernel
theorem dX7_besideOf_109 : decode cX7_besideOf 109 = .ok (.aload_n 0, 1) := by decide +kernel
theorem dX7_besideOf_110 : decode cX7_besideOf 110 = .ok (.iload_n 3, 1) := by decide +kernel
theorem dX7_besideOf_111 : decode cX7_besideOf 111 = .ok (.invokevirtual 109, 3) := by decide +kernel
theorem dX7_besideOf_114 : decode cX7_besideOf 114 = .ok (.ifCond .eq 19, 3) := by decide +kernel
theorem dX7_besideOf_117 : decode cX7_besideOf 117 = .ok (.aload_n 0, 1) := by decide +kernel
theorem dX7_besideOf_118 : decode cX7_besideOf 118 = .ok (.getfield 22, 3) := by decide +kernel
theorem dX7_besideOf_121 : decode cX7_besideOf 121 = .ok (.iload_n 3, 1) := by decide +kernel
theorem dX7_besideOf_122 : decode cX7_besideOf 122 = .ok (.iaload, 1) := by decide +kernel
theorem dX7_besideOf_123 : decode cX7_besideOf 123 = .ok (.ifCond .ge 10, 3) := by decide +kernel
theorem dX7_besideOf_126 : decode cX7_besideOf 126 = .ok (.iload_n 3, 1) := by decide +kernel
theorem dX7_besideOf_127 : decode cX7_besideOf 127 = .ok (.iload_n 2, 1) := by decide +kernel
theorem dX7_besideOf_128 : decode cX7_besideOf 128 = .ok (.iadd, 1) := by decide +kernel
theorem dX7_besideOf_129 : decode cX7_besideOf 129 = .ok (.istore_n 3, 1) := by decide +kernel
theorem dX7_besideOf_130 : decode cX7_besideOf 130 = .ok (.goto (-21), 3) := by decide +kernel
theorem dX7_besideOf_133 : decode cX7_besideOf 133 = .ok (.aload_n 0, 1) := by decide +kernel
theorem dX7_besideOf_134 : decode cX7_besideOf 134 = .ok (.iload_n 3, 1) := by decide +kernel
theorem dX7_besideOf_135 : decode cX7_besideOf 135 = .ok (.invokevirtual 112, 3) := by decide +kernel
theorem dX7_besideOf_138 : decode cX7_besideOf 138 = .ok (.ireturn, 1) := by decide +kernel
theorem dX7_besideOf_139 : decode cX7_besideOf 139 = .ok (.aload_n 0, 1) := by decide +kernel
theorem dX7_besideOf_140 : decode cX7_besideOf 140 = .ok (.iload_n 3, 1) := by decide +kernel
theorem dX7_besideOf_141 : decode cX7_besideOf 141 = .ok (.invokevirtual 109, 3) := by decide +kernel
theorem dX7_besideOf_144 : decode cX7_besideOf 144 = .ok (.ifCond .eq 16, 3) := by decide +kernel
theorem dX7_besideOf_147 : decode cX7_besideOf 147 = .ok (.aload_n 0, 1) := by decide +kernel
theorem dX7_besideOf_148 : decode cX7_besideOf 148 = .ok (.getfield 22, 3) := by decide +kernel
theorem dX7_besideOf_151 : decode cX7_besideOf 151 = .ok (.iload_n 3, 1) := by decide +kernel
theorem dX7_besideOf_152 : decode cX7_besideOf 152 = .ok (.iaload, 1) := by decide +kernel
theorem dX7_besideOf_153 : decode cX7_besideOf 153 = .ok (.ifCond .ge 7, 3) := by decide +kernel
theorem dX7_besideOf_156 : decode cX7_besideOf 156 = .ok (.iconst 1, 1) := by decide +kernel
theorem dX7_besideOf_157 : decode cX7_besideOf 157 = .ok (.goto 4, 3) := by decide +kernel
theorem dX7_besideOf_160 : decode cX7_besideOf 160 = .ok (.iconst 0, 1) := by decide +kernel
theorem dX7_besideOf_161 : decode cX7_besideOf 161 = .ok (.istore 4, 2) := by decide +kernel
theorem dX7_besideOf_163 : decode cX7_besideOf 163 = .ok (.aload_n 0, 1) := by decide +kernel
theorem dX7_besideOf_164 : decode cX7_besideOf 164 = .ok (.getfield 99, 3) := by decide +kernel
theorem dX7_besideOf_167 : decode cX7_besideOf 167 = .ok (.iconst 1, 1) := by decide +kernel
theorem dX7_besideOf_168 : decode cX7_besideOf 168 = .ok (.if_icmp .ne 18, 3) := by decide +kernel
theorem dX7_besideOf_171 : decode cX7_besideOf 171 = .ok (.iload 4, 2) := by decide +kernel
theorem dX7_besideOf_173 : decode cX7_besideOf 173 = .ok (.ifCond .eq 13, 3) := by decide +kernel
theorem dX7_besideOf_176 : decode cX7_besideOf 176 = .ok (.aload_n 0, 1) := by decide +kernel
theorem dX7_besideOf_177 : decode cX7_besideOf 177 = .ok (.iload_n 3, 1) := by decide +kernel
theorem dX7_besideOf_178 : decode cX7_besideOf 178 = .ok (.iload_n 2, 1) := by decide +kernel
theorem dX7_besideOf_179 : decode cX7_besideOf 179 = .ok (.iadd, 1) := by decide +kernel
theorem dX7_besideOf_180 : decode cX7_besideOf 180 = .ok (.invokevirtual 112, 3) := by decide +kernel
theorem dX7_besideOf_183 : decode cX7_besideOf 183 = .ok (.goto 8, 3) := by decide +kernel
theorem dX7_besideOf_186 : decode cX7_besideOf 186 = .ok (.aload_n 0, 1) := by decide +kernel
theorem dX7_besideOf_187 : decode cX7_besideOf 187 = .ok (.iload_n 3, 1) := by decide +kernel
theorem dX7_besideOf_188 : decode cX7_besideOf 188 = .ok (.invokevirtual 112, 3) := by decide +kernel
theorem dX7_besideOf_191 : decode cX7_besideOf 191 = .ok (.ireturn, 1) := by decide +kernel
theorem dX7_firstWrong_0 : decode cX7_firstWrong 0 = .ok (.iconst 0, 1) := by decide +kernel
theorem dX7_firstWrong_1 : decode cX7_firstWrong 1 = .ok (.istore_n 1, 1) := by decide +kernel
theorem dX7_firstWrong_2 : decode cX7_firstWrong 2 = .ok (.iload_n 1, 1) := by decide +kernel
theorem dX7_firstWrong_3 : decode cX7_firstWrong 3 = .ok (.aload_n 0, 1) := by decide +kernel
theorem dX7_firstWrong_4 : decode cX7_firstWrong 4 = .ok (.getfield 103, 3) := by decide +kernel
theorem dX7_firstWrong_7 : decode cX7_firstWrong 7 = .ok (.if_icmp .ge 59, 3) := by decide +kernel
theorem dX7_firstWrong_10 : decode cX7_firstWrong 10 = .ok (.aload_n 0, 1) := by decide +kernel
theorem dX7_firstWrong_11 : decode cX7_firstWrong 11 = .ok (.getfield 22, 3) := by decide +kernel
theorem dX7_firstWrong_14 : decode cX7_firstWrong 14 = .ok (.iload_n 1, 1) := by decide +kernel
theorem dX7_firstWrong_15 : decode cX7_firstWrong 15 = .ok (.iaload, 1) := by decide +kernel
theorem dX7_firstWrong_16 : decode cX7_firstWrong 16 = .ok (.ifCond .ge 6, 3) := by decide +kernel
theorem dX7_firstWrong_19 : decode cX7_firstWrong 19 = .ok (.goto 41, 3) := by decide +kernel
theorem dX7_firstWrong_22 : decode cX7_firstWrong 22 = .ok (.aload_n 0, 1) := by decide +kernel
theorem dX7_firstWrong_23 : decode cX7_firstWrong 23 = .ok (.iload_n 1, 1) := by decide +kernel
theorem dX7_firstWrong_24 : decode cX7_firstWrong 24 = .ok (.iconst (-1), 1) := by decide +kernel
theorem dX7_firstWrong_25 : decode cX7_firstWrong 25 = .ok (.invokevirtual 115, 3) := by decide +kernel
theorem dX7_firstWrong_28 : decode cX7_firstWrong 28 = .ok (.istore_n 2, 1) := by decide +kernel
theorem dX7_firstWrong_29 : decode cX7_firstWrong 29 = .ok (.aload_n 0, 1) := by decide +kernel
theorem dX7_firstWrong_30 : decode cX7_firstWrong 30 = .ok (.iload_n 1, 1) := by decide +kernel
theorem dX7_firstWrong_31 : decode cX7_firstWrong 31 = .ok (.iconst 1, 1) := by decide +kernel
theorem dX7_firstWrong_32 : decode cX7_firstWrong 32 = .ok (.invokevirtual 115, 3) := by decide +kernel
theorem dX7_firstWrong_35 : decode cX7_firstWrong 35 = .ok (.istore_n 3, 1) := by decide +kernel
theorem dX7_firstWrong_36 : decode cX7_firstWrong 36 = .ok (.iload_n 2, 1) := by decide +kernel
theorem dX7_firstWrong_37 : decode cX7_firstWrong 37 = .ok (.ifCond .lt 23, 3) := by decide +kernel
theorem dX7_firstWrong_40 : decode cX7_firstWrong 40 = .ok (.iload_n 3, 1) := by decide +kernel
theorem dX7_firstWrong_41 : decode cX7_firstWrong 41 = .ok (.ifCond .lt 19, 3) := by decide +kernel
theorem dX7_firstWrong_44 : decode cX7_firstWrong 44 = .ok (.iload_n 2, 1) := by decide +kernel
theorem dX7_firstWrong_45 : decode cX7_firstWrong 45 = .ok (.iload_n 3, 1) := by decide +kernel
theorem dX7_firstWrong_46 : decode cX7_firstWrong 46 = .ok (.if_icmp .eq 14, 3) := by decide +kernel
theorem dX7_firstWrong_49 : decode cX7_firstWrong 49 = .ok (.aload_n 0, 1) := by decide +kernel
theorem dX7_firstWrong_50 : decode cX7_firstWrong 50 = .ok (.iload_n 2, 1) := by decide +kernel
theorem dX7_firstWrong_51 : decode cX7_firstWrong 51 = .ok (.iload_n 3, 1) := by decide +kernel
theorem dX7_firstWrong_52 : decode cX7_firstWrong 52 = .ok (.invokevirtual 93, 3) := by decide +kernel
theorem dX7_firstWrong_55 : decode cX7_firstWrong 55 = .ok (.ifCond .eq 5, 3) := by decide +kernel
theorem dX7_firstWrong_58 : decode cX7_firstWrong 58 = .ok (.iload_n 1, 1) := by decide +kernel
theorem dX7_firstWrong_59 : decode cX7_firstWrong 59 = .ok (.ireturn, 1) := by decide +kernel
theorem dX7_firstWrong_60 : decode cX7_firstWrong 60 = .ok (.iinc 1 1, 3) := by decide +kernel
theorem dX7_firstWrong_63 : decode cX7_firstWrong 63 = .ok (.goto (-61), 3) := by decide +kernel
theorem dX7_firstWrong_66 : decode cX7_firstWrong 66 = .ok (.iconst (-1), 1) := by decide +kernel
theorem dX7_firstWrong_67 : decode cX7_firstWrong 67 = .ok (.ireturn, 1) := by decide +kernel
theorem dX7_listsNow_0 : decode cX7_listsNow 0 = .ok (.iconst 0, 1) := by decide +kernel
theorem dX7_listsNow_1 : decode cX7_listsNow 1 = .ok (.istore_n 1, 1) := by decide +kernel
theorem dX7_listsNow_2 : decode cX7_listsNow 2 = .ok (.iconst 0, 1) := by decide +kernel
theorem dX7_listsNow_3 : decode cX7_listsNow 3 = .ok (.istore_n 2, 1) := by decide +kernel
theorem dX7_listsNow_4 : decode cX7_listsNow 4 = .ok (.iload_n 2, 1) := by decide +kernel
theorem dX7_listsNow_5 : decode cX7_listsNow 5 = .ok (.aload_n 0, 1) := by decide +kernel
theorem dX7_listsNow_6 : decode cX7_listsNow 6 = .ok (.getfield 103, 3) := by decide +kernel
theorem dX7_listsNow_9 : decode cX7_listsNow 9 = .ok (.if_icmp .ge 50, 3) := by decide +kernel
theorem dX7_listsNow_12 : decode cX7_listsNow 12 = .ok (.iload_n 1, 1) := by decide +kernel
theorem dX7_listsNow_13 : decode cX7_listsNow 13 = .ok (.aload_n 0, 1) := by decide +kernel
theorem dX7_listsNow_14 : decode cX7_listsNow 14 = .ok (.getfield 22, 3) := by decide +kernel
theorem dX7_listsNow_17 : decode cX7_listsNow 17 = .ok (.iload_n 2, 1) := by decide +kernel
theorem dX7_listsNow_18 : decode cX7_listsNow 18 = .ok (.iaload, 1) := by decide +kernel
theorem dX7_listsNow_19 : decode cX7_listsNow 19 = .ok (.ifCond .ge 7, 3) := by decide +kernel
theorem dX7_listsNow_22 : decode cX7_listsNow 22 = .ok (.iconst 0, 1) := by decide +kernel
theorem dX7_listsNow_23 : decode cX7_listsNow 23 = .ok (.goto 28, 3) := by decide +kernel
theorem dX7_listsNow_26 : decode cX7_listsNow 26 = .ok (.aload_n 0, 1) := by decide +kernel
theorem dX7_listsNow_27 : decode cX7_listsNow 27 = .ok (.getfield 9, 3) := by decide +kernel
theorem dX7_listsNow_30 : decode cX7_listsNow 30 = .ok (.bipush 68, 2) := by decide +kernel
theorem dX7_listsNow_32 : decode cX7_listsNow 32 = .ok (.aload_n 0, 1) := by decide +kernel
theorem dX7_listsNow_33 : decode cX7_listsNow 33 = .ok (.getfield 22, 3) := by decide +kernel
theorem dX7_listsNow_36 : decode cX7_listsNow 36 = .ok (.iload_n 2, 1) := by decide +kernel
theorem dX7_listsNow_37 : decode cX7_listsNow 37 = .ok (.iaload, 1) := by decide +kernel
theorem dX7_listsNow_38 : decode cX7_listsNow 38 = .ok (.iadd, 1) := by decide +kernel
theorem dX7_listsNow_39 : decode cX7_listsNow 39 = .ok (.iaload, 1) := by decide +kernel
theorem dX7_listsNow_40 : decode cX7_listsNow 40 = .ok (.iconst 2, 1) := by decide +kernel
theorem dX7_listsNow_41 : decode cX7_listsNow 41 = .ok (.iload_n 2, 1) := by decide +kernel
theorem dX7_listsNow_42 : decode cX7_listsNow 42 = .ok (.imul, 1) := by decide +kernel
theorem dX7_listsNow_43 : decode cX7_listsNow 43 = .ok (.aload_n 0, 1) := by decide +kernel
theorem dX7_listsNow_44 : decode cX7_listsNow 44 = .ok (.getfield 103, 3) := by decide +kernel
theorem dX7_listsNow_47 : decode cX7_listsNow 47 = .ok (.iconst 1, 1) := by decide +kernel
theorem dX7_listsNow_48 : decode cX7_listsNow 48 = .ok (.isub, 1) := by decide +kernel
theorem dX7_listsNow_49 : decode cX7_listsNow 49 = .ok (.isub, 1) := by decide +kernel
theorem dX7_listsNow_50 : decode cX7_listsNow 50 = .ok (.imul, 1) := by decide +kernel
theorem dX7_listsNow_51 : decode cX7_listsNow 51 = .ok (.iadd, 1) := by decide +kernel
theorem dX7_listsNow_52 : decode cX7_listsNow 52 = .ok (.istore_n 1, 1) := by decide +kernel
theorem dX7_listsNow_53 : decode cX7_listsNow 53 = .ok (.iinc 2 1, 3) := by decide +kernel
theorem dX7_listsNow_56 : decode cX7_listsNow 56 = .ok (.goto (-52), 3) := by decide +kernel
theorem dX7_listsNow_59 : decode cX7_listsNow 59 = .ok (.iload_n 1, 1) := by decide +kernel
theorem dX7_listsNow_60 : decode cX7_listsNow 60 = .ok (.ireturn, 1) := by decide +kernel
theorem dX7_holdsNow_0 : decode cX7_holdsNow 0 = .ok (.aload_n 0, 1) := by decide +kernel
theorem dX7_holdsNow_1 : decode cX7_holdsNow 1 = .ok (.invokevirtual 118, 3) := by decide +kernel
theorem dX7_holdsNow_4 : decode cX7_holdsNow 4 = .ok (.ifCond .lt 5, 3) := by decide +kernel
theorem dX7_holdsNow_7 : decode cX7_holdsNow 7 = .ok (.iconst 0, 1) := by decide +kernel
theorem dX7_holdsNow_8 : decode cX7_holdsNow 8 = .ok (.ireturn, 1) := by decide +kernel
theorem dX7_holdsNow_9 : decode cX7_holdsNow 9 = .ok (.aload_n 0, 1) := by decide +kernel
theorem dX7_holdsNow_10 : decode cX7_holdsNow 10 = .ok (.getfield 99, 3) := by decide +kernel
theorem dX7_holdsNow_13 : decode cX7_holdsNow 13 = .ok (.iconst 3, 1) := by decide +kernel
theorem dX7_holdsNow_14 : decode cX7_holdsNow 14 = .ok (.if_icmp .eq 14, 3) := by decide +kernel
theorem dX7_holdsNow_17 : decode cX7_holdsNow 17 = .ok (.aload_n 0, 1) := by decide +kernel
theorem dX7_holdsNow_18 : decode cX7_holdsNow 18 = .ok (.getfield 99, 3) := by decide +kernel
theorem dX7_holdsNow_21 : decode cX7_holdsNow 21 = .ok (.bipush 6, 2) := by decide +kernel
theorem dX7_holdsNow_23 : decode cX7_holdsNow 23 = .ok (.if_icmp .eq 5, 3) := by decide +kernel
theorem dX7_holdsNow_26 : decode cX7_holdsNow 26 = .ok (.iconst 1, 1) := by decide +kernel
theorem dX7_holdsNow_27 : decode cX7_holdsNow 27 = .ok (.ireturn, 1) := by decide +kernel
theorem dX7_holdsNow_28 : decode cX7_holdsNow 28 = .ok (.aload_n 0, 1) := by decide +kernel
theorem dX7_holdsNow_29 : decode cX7_holdsNow 29 = .ok (.invokevirtual 122, 3) := by decide +kernel
theorem dX7_holdsNow_32 : decode cX7_holdsNow 32 = .ok (.istore_n 1, 1) := by decide +kernel
theorem dX7_holdsNow_33 : decode cX7_holdsNow 33 = .ok (.aload_n 0, 1) := by decide +kernel
theorem dX7_holdsNow_34 : decode cX7_holdsNow 34 = .ok (.getfield 99, 3) := by decide +kernel
theorem dX7_holdsNow_37 : decode cX7_holdsNow 37 = .ok (.iconst 3, 1) := by decide +kernel
theorem dX7_holdsNow_38 : decode cX7_holdsNow 38 = .ok (.if_icmp .ne 12, 3) := by decide +kernel
theorem dX7_holdsNow_41 : decode cX7_holdsNow 41 = .ok (.aload_n 0, 1) := by decide +kernel
theorem dX7_holdsNow_42 : decode cX7_holdsNow 42 = .ok (.getfield 9, 3) := by decide +kernel
theorem dX7_holdsNow_45 : decode cX7_holdsNow 45 = .ok (.iconst 1, 1) := by decide +kernel
theorem dX7_holdsNow_46 : decode cX7_holdsNow 46 = .ok (.iaload, 1) := by decide +kernel
theorem dX7_holdsNow_47 : decode cX7_holdsNow 47 = .ok (.goto 11, 3) := by decide +kernel
theorem dX7_holdsNow_50 : decode cX7_holdsNow 50 = .ok (.iconst 2, 1) := by decide +kernel
theorem dX7_holdsNow_51 : decode cX7_holdsNow 51 = .ok (.aload_n 0, 1) := by decide +kernel
theorem dX7_holdsNow_52 : decode cX7_holdsNow 52 = .ok (.getfield 9, 3) := by decide +kernel
theorem dX7_holdsNow_55 : decode cX7_holdsNow 55 = .ok (.iconst 1, 1) := by decide +kernel
theorem dX7_holdsNow_56 : decode cX7_holdsNow 56 = .ok (.iaload, 1) := by decide +kernel
theorem dX7_holdsNow_57 : decode cX7_holdsNow 57 = .ok (.imul, 1) := by decide +kernel
theorem dX7_holdsNow_58 : decode cX7_holdsNow 58 = .ok (.istore_n 2, 1) := by decide +kernel
theorem dX7_holdsNow_59 : decode cX7_holdsNow 59 = .ok (.iload_n 1, 1) := by decide +kernel
theorem dX7_holdsNow_60 : decode cX7_holdsNow 60 = .ok (.i2l, 1) := by decide +kernel
theorem dX7_holdsNow_61 : decode cX7_holdsNow 61 = .ok (.iload_n 2, 1) := by decide +kernel
theorem dX7_holdsNow_62 : decode cX7_holdsNow 62 = .ok (.ineg, 1) := by decide +kernel
theorem dX7_holdsNow_63 : decode cX7_holdsNow 63 = .ok (.i2l, 1) := by decide +kernel
theorem dX7_holdsNow_64 : decode cX7_holdsNow 64 = .ok (.iload_n 2, 1) := by decide +kernel
theorem dX7_holdsNow_65 : decode cX7_holdsNow 65 = .ok (.i2l, 1) := by decide +kernel
theorem dX7_holdsNow_66 : decode cX7_holdsNow 66 = .ok (.invokestatic 54, 3) := by decide +kernel
theorem dX7_holdsNow_69 : decode cX7_holdsNow 69 = .ok (.ireturn, 1) := by decide +kernel
theorem dX7_holds_0 : decode cX7_holds 0 = .ok (.aload_n 0, 1) := by decide +kernel
theorem dX7_holds_1 : decode cX7_holds 1 = .ok (.iload_n 1, 1) := by decide +kernel
theorem dX7_holds_2 : decode cX7_holds 2 = .ok (.invokevirtual 125, 3) := by decide +kernel
theorem dX7_holds_5 : decode cX7_holds 5 = .ok (.aload_n 0, 1) := by decide +kernel
theorem dX7_holds_6 : decode cX7_holds 6 = .ok (.invokevirtual 129, 3) := by decide +kernel
theorem dX7_holds_9 : decode cX7_holds 9 = .ok (.ireturn, 1) := by decide +kernel
theorem dX7_comes_0 : decode cX7_comes 0 = .ok (.aload_n 0, 1) := by decide +kernel
theorem dX7_comes_1 : decode cX7_comes 1 = .ok (.getfield 9, 3) := by decide +kernel
theorem dX7_comes_4 : decode cX7_comes 4 = .ok (.iconst 3, 1) := by decide +kernel
theorem dX7_comes_5 : decode cX7_comes 5 = .ok (.iaload, 1) := by decide +kernel
theorem dX7_comes_6 : decode cX7_comes 6 = .ok (.istore_n 3, 1) := by decide +kernel
theorem dX7_comes_7 : decode cX7_comes 7 = .ok (.aload_n 0, 1) := by decide +kernel
theorem dX7_comes_8 : decode cX7_comes 8 = .ok (.getfield 9, 3) := by decide +kernel
theorem dX7_comes_11 : decode cX7_comes 11 = .ok (.bipush 76, 2) := by decide +kernel
theorem dX7_comes_13 : decode cX7_comes 13 = .ok (.bipush 10, 2) := by decide +kernel
theorem dX7_comes_15 : decode cX7_comes 15 = .ok (.iload_n 3, 1) := by decide +kernel
theorem dX7_comes_16 : decode cX7_comes 16 = .ok (.imul, 1) := by decide +kernel
theorem dX7_comes_17 : decode cX7_comes 17 = .ok (.iadd, 1) := by decide +kernel
theorem dX7_comes_18 : decode cX7_comes 18 = .ok (.iload_n 1, 1) := by decide +kernel
theorem dX7_comes_19 : decode cX7_comes 19 = .ok (.iastore, 1) := by decide +kernel
theorem dX7_comes_20 : decode cX7_comes 20 = .ok (.aload_n 0, 1) := by decide +kernel
theorem dX7_comes_21 : decode cX7_comes 21 = .ok (.getfield 9, 3) := by decide +kernel
theorem dX7_comes_24 : decode cX7_comes 24 = .ok (.bipush 76, 2) := by decide +kernel
theorem dX7_comes_26 : decode cX7_comes 26 = .ok (.bipush 10, 2) := by decide +kernel
theorem dX7_comes_28 : decode cX7_comes 28 = .ok (.iload_n 3, 1) := by decide +kernel
theorem dX7_comes_29 : decode cX7_comes 29 = .ok (.imul, 1) := by decide +kernel
theorem dX7_comes_30 : decode cX7_comes 30 = .ok (.iadd, 1) := by decide +kernel
theorem dX7_comes_31 : decode cX7_comes 31 = .ok (.iconst 1, 1) := by decide +kernel
theorem dX7_comes_32 : decode cX7_comes 32 = .ok (.iadd, 1) := by decide +kernel
theorem dX7_comes_33 : decode cX7_comes 33 = .ok (.iload_n 2, 1) := by decide +kernel
theorem dX7_comes_34 : decode cX7_comes 34 = .ok (.iastore, 1) := by decide +kernel
theorem dX7_comes_35 : decode cX7_comes 35 = .ok (.iconst 0, 1) := by decide +kernel
theorem dX7_comes_36 : decode cX7_comes 36 = .ok (.istore 4, 2) := by decide +kernel
theorem dX7_comes_38 : decode cX7_comes 38 = .ok (.iload 4, 2) := by decide +kernel
theorem dX7_comes_40 : decode cX7_comes 40 = .ok (.bipush 8, 2) := by decide +kernel
theorem dX7_comes_42 : decode cX7_comes 42 = .ok (.if_icmp .ge 21, 3) := by decide +kernel
theorem dX7_comes_45 : decode cX7_comes 45 = .ok (.aload_n 0, 1) := by decide +kernel
theorem dX7_comes_46 : decode cX7_comes 46 = .ok (.getfield 9, 3) := by decide +kernel
theorem dX7_comes_49 : decode cX7_comes 49 = .ok (.iload_n 3, 1) := by decide +kernel
theorem dX7_comes_50 : decode cX7_comes 50 = .ok (.iload 4, 2) := by decide +kernel
theorem dX7_comes_52 : decode cX7_comes 52 = .ok (.invokestatic 106, 3) := by decide +kernel
theorem dX7_comes_55 : decode cX7_comes 55 = .ok (.iconst (-1), 1) := by decide +kernel
theorem dX7_comes_56 : decode cX7_comes 56 = .ok (.iastore, 1) := by decide +kernel
theorem dX7_comes_57 : decode cX7_comes 57 = .ok (.iinc 4 1, 3) := by decide +kernel
theorem dX7_comes_60 : decode cX7_comes 60 = .ok (.goto (-22), 3) := by decide +kernel
theorem dX7_comes_63 : decode cX7_comes 63 = .ok (.aload_n 0, 1) := by decide +kernel
theorem dX7_comes_64 : decode cX7_comes 64 = .ok (.getfield 9, 3) := by decide +kernel
theorem dX7_comes_67 : decode cX7_comes 67 = .ok (.iconst 3, 1) := by decide +kernel
theorem dX7_comes_68 : decode cX7_comes 68 = .ok (.dup2, 1) := by decide +kernel
theorem dX7_comes_69 : decode cX7_comes 69 = .ok (.iaload, 1) := by decide +kernel
theorem dX7_comes_70 : decode cX7_comes 70 = .ok (.iconst 1, 1) := by decide +kernel
theorem dX7_comes_71 : decode cX7_comes 71 = .ok (.iadd, 1) := by decide +kernel
theorem dX7_comes_72 : decode cX7_comes 72 = .ok (.iastore, 1) := by decide +kernel
theorem dX7_comes_73 : decode cX7_comes 73 = .ok (.return_, 1) := by decide +kernel
theorem dX7_bench_0 : decode cX7_bench 0 = .ok (.iload_n 1, 1) := by decide +kernel
theorem dX7_bench_1 : decode cX7_bench 1 = .ok (.invokestatic 133, 3) := by decide +kernel
theorem dX7_bench_4 : decode cX7_bench 4 = .ok (.ifCond .eq 15, 3) := by decide +kernel
theorem dX7_bench_7 : decode cX7_bench 7 = .ok (.iload_n 2, 1) := by decide +kernel
theorem dX7_bench_8 : decode cX7_bench 8 = .ok (.i2l, 1) := by decide +kernel
theorem dX7_bench_9 : decode cX7_bench 9 = .ok (.lconst 1, 1) := by decide +kernel
theorem dX7_bench_10 : decode cX7_bench 10 = .ok (.ldc2_w 136, 3) := by decide +kernel
theorem dX7_bench_13 : decode cX7_bench 13 = .ok (.invokestatic 54, 3) := by decide +kernel
theorem dX7_bench_16 : decode cX7_bench 16 = .ok (.ifCond .ne 10, 3) := by decide +kernel
theorem dX7_bench_19 : decode cX7_bench 19 = .ok (.aload_n 0, 1) := by decide +kernel
theorem dX7_bench_20 : decode cX7_bench 20 = .ok (.ldc 46, 2) := by decide +kernel
theorem dX7_bench_22 : decode cX7_bench 22 = .ok (.invokevirtual 48, 3) := by decide +kernel
theorem dX7_bench_25 : decode cX7_bench 25 = .ok (.ireturn, 1) := by decide +kernel
theorem dX7_bench_26 : decode cX7_bench 26 = .ok (.aload_n 0, 1) := by decide +kernel
theorem dX7_bench_27 : decode cX7_bench 27 = .ok (.getfield 9, 3) := by decide +kernel
theorem dX7_bench_30 : decode cX7_bench 30 = .ok (.iconst 3, 1) := by decide +kernel
theorem dX7_bench_31 : decode cX7_bench 31 = .ok (.iaload, 1) := by decide +kernel
theorem dX7_bench_32 : decode cX7_bench 32 = .ok (.iconst 5, 1) := by decide +kernel
theorem dX7_bench_33 : decode cX7_bench 33 = .ok (.if_icmp .ne 10, 3) := by decide +kernel
theorem dX7_bench_36 : decode cX7_bench 36 = .ok (.aload_n 0, 1) := by decide +kernel
theorem dX7_bench_37 : decode cX7_bench 37 = .ok (.ldc 138, 2) := by decide +kernel
theorem dX7_bench_39 : decode cX7_bench 39 = .ok (.invokevirtual 48, 3) := by decide +kernel
theorem dX7_bench_42 : decode cX7_bench 42 = .ok (.ireturn, 1) := by decide +kernel
theorem dX7_bench_43 : decode cX7_bench 43 = .ok (.aload_n 0, 1) := by decide +kernel
theorem dX7_bench_44 : decode cX7_bench 44 = .ok (.iload_n 1, 1) := by decide +kernel
theorem dX7_bench_45 : decode cX7_bench 45 = .ok (.iload_n 2, 1) := by decide +kernel
theorem dX7_bench_46 : decode cX7_bench 46 = .ok (.invokevirtual 139, 3) := by decide +kernel
theorem dX7_bench_49 : decode cX7_bench 49 = .ok (.aload_n 0, 1) := by decide +kernel
theorem dX7_bench_50 : decode cX7_bench 50 = .ok (.getfield 9, 3) := by decide +kernel
theorem dX7_bench_53 : decode cX7_bench 53 = .ok (.iconst 3, 1) := by decide +kernel
theorem dX7_bench_54 : decode cX7_bench 54 = .ok (.iaload, 1) := by decide +kernel
theorem dX7_bench_55 : decode cX7_bench 55 = .ok (.iconst 1, 1) := by decide +kernel
theorem dX7_bench_56 : decode cX7_bench 56 = .ok (.isub, 1) := by decide +kernel
theorem dX7_bench_57 : decode cX7_bench 57 = .ok (.ireturn, 1) := by decide +kernel
theorem dX7_sitting_0 : decode cX7_sitting 0 = .ok (.iconst 0, 1) := by decide +kernel
theorem dX7_sitting_1 : decode cX7_sitting 1 = .ok (.istore_n 2, 1) := by decide +kernel
theorem dX7_sitting_2 : decode cX7_sitting 2 = .ok (.iconst 0, 1) := by decide +kernel
theorem dX7_sitting_3 : decode cX7_sitting 3 = .ok (.istore_n 3, 1) := by decide +kernel
theorem dX7_sitting_4 : decode cX7_sitting 4 = .ok (.iload_n 3, 1) := by decide +kernel
theorem dX7_sitting_5 : decode cX7_sitting 5 = .ok (.aload_n 0, 1) := by decide +kernel
theorem dX7_sitting_6 : decode cX7_sitting 6 = .ok (.iload_n 1, 1) := by decide +kernel
theorem dX7_sitting_7 : decode cX7_sitting 7 = .ok (.invokevirtual 66, 3) := by decide +kernel
theorem dX7_sitting_10 : decode cX7_sitting 10 = .ok (.if_icmp .ge 30, 3) := by decide +kernel
theorem dX7_sitting_13 : decode cX7_sitting 13 = .ok (.iload_n 2, 1) := by decide +kernel
theorem dX7_sitting_14 : decode cX7_sitting 14 = .ok (.aload_n 0, 1) := by decide +kernel
theorem dX7_sitting_15 : decode cX7_sitting 15 = .ok (.getfield 9, 3) := by decide +kernel
theorem dX7_sitting_18 : decode cX7_sitting 18 = .ok (.iload_n 1, 1) := by decide +kernel
theorem dX7_sitting_19 : decode cX7_sitting 19 = .ok (.iload_n 3, 1) := by decide +kernel
theorem dX7_sitting_20 : decode cX7_sitting 20 = .ok (.invokestatic 106, 3) := by decide +kernel
theorem dX7_sitting_23 : decode cX7_sitting 23 = .ok (.iaload, 1) := by decide +kernel
theorem dX7_sitting_24 : decode cX7_sitting 24 = .ok (.ifCond .ge 7, 3) := by decide +kernel
theorem dX7_sitting_27 : decode cX7_sitting 27 = .ok (.iconst 0, 1) := by decide +kernel
theorem dX7_sitting_28 : decode cX7_sitting 28 = .ok (.goto 4, 3) := by decide +kernel
theorem dX7_sitting_31 : decode cX7_sitting 31 = .ok (.iconst 1, 1) := by decide +kernel
theorem dX7_sitting_32 : decode cX7_sitting 32 = .ok (.iadd, 1) := by decide +kernel
theorem dX7_sitting_33 : decode cX7_sitting 33 = .ok (.istore_n 2, 1) := by decide +kernel
theorem dX7_sitting_34 : decode cX7_sitting 34 = .ok (.iinc 3 1, 3) := by decide +kernel
theorem dX7_sitting_37 : decode cX7_sitting 37 = .ok (.goto (-33), 3) := by decide +kernel
theorem dX7_sitting_40 : decode cX7_sitting 40 = .ok (.iload_n 2, 1) := by decide +kernel
theorem dX7_sitting_41 : decode cX7_sitting 41 = .ok (.ireturn, 1) := by decide +kernel
theorem dX7_benchOf_0 : decode cX7_benchOf 0 = .ok (.aload_n 0, 1) := by decide +kernel
theorem dX7_benchOf_1 : decode cX7_benchOf 1 = .ok (.iload_n 1, 1) := by decide +kernel
theorem dX7_benchOf_2 : decode cX7_benchOf 2 = .ok (.invokevirtual 62, 3) := by decide +kernel
theorem dX7_benchOf_5 : decode cX7_benchOf 5 = .ok (.ifCond .eq 15, 3) := by decide +kernel
theorem dX7_benchOf_8 : decode cX7_benchOf 8 = .ok (.iload_n 2, 1) := by decide +kernel
theorem dX7_benchOf_9 : decode cX7_benchOf 9 = .ok (.i2l, 1) := by decide +kernel
theorem dX7_benchOf_10 : decode cX7_benchOf 10 = .ok (.lconst 0, 1) := by decide +kernel
theorem dX7_benchOf_11 : decode cX7_benchOf 11 = .ok (.ldc2_w 143, 3) := by decide +kernel
theorem dX7_benchOf_14 : decode cX7_benchOf 14 = .ok (.invokestatic 54, 3) := by decide +kernel
theorem dX7_benchOf_17 : decode cX7_benchOf 17 = .ok (.ifCond .ne 10, 3) := by decide +kernel
theorem dX7_benchOf_20 : decode cX7_benchOf 20 = .ok (.aload_n 0, 1) := by decide +kernel
theorem dX7_benchOf_21 : decode cX7_benchOf 21 = .ok (.ldc 46, 2) := by decide +kernel
theorem dX7_benchOf_23 : decode cX7_benchOf 23 = .ok (.invokevirtual 48, 3) := by decide +kernel
theorem dX7_benchOf_26 : decode cX7_benchOf 26 = .ok (.ireturn, 1) := by decide +kernel
theorem dX7_benchOf_27 : decode cX7_benchOf 27 = .ok (.aload_n 0, 1) := by decide +kernel
theorem dX7_benchOf_28 : decode cX7_benchOf 28 = .ok (.iload_n 1, 1) := by decide +kernel
theorem dX7_benchOf_29 : decode cX7_benchOf 29 = .ok (.invokevirtual 125, 3) := by decide +kernel
theorem dX7_benchOf_32 : decode cX7_benchOf 32 = .ok (.iload_n 2, 1) := by decide +kernel
theorem dX7_benchOf_33 : decode cX7_benchOf 33 = .ok (.ifCond .ne 10, 3) := by decide +kernel
theorem dX7_benchOf_36 : decode cX7_benchOf 36 = .ok (.aload_n 0, 1) := by decide +kernel
theorem dX7_benchOf_37 : decode cX7_benchOf 37 = .ok (.getfield 99, 3) := by decide +kernel
theorem dX7_benchOf_40 : decode cX7_benchOf 40 = .ok (.goto 52, 3) := by decide +kernel
theorem dX7_benchOf_43 : decode cX7_benchOf 43 = .ok (.iload_n 2, 1) := by decide +kernel
theorem dX7_benchOf_44 : decode cX7_benchOf 44 = .ok (.iconst 1, 1) := by decide +kernel
theorem dX7_benchOf_45 : decode cX7_benchOf 45 = .ok (.if_icmp .ne 10, 3) := by decide +kernel
theorem dX7_benchOf_48 : decode cX7_benchOf 48 = .ok (.aload_n 0, 1) := by decide +kernel
theorem dX7_benchOf_49 : decode cX7_benchOf 49 = .ok (.getfield 103, 3) := by decide +kernel
theorem dX7_benchOf_52 : decode cX7_benchOf 52 = .ok (.goto 40, 3) := by decide +kernel
theorem dX7_benchOf_55 : decode cX7_benchOf 55 = .ok (.iload_n 2, 1) := by decide +kernel
theorem dX7_benchOf_56 : decode cX7_benchOf 56 = .ok (.iconst 2, 1) := by decide +kernel
theorem dX7_benchOf_57 : decode cX7_benchOf 57 = .ok (.if_icmp .ne 11, 3) := by decide +kernel
theorem dX7_benchOf_60 : decode cX7_benchOf 60 = .ok (.aload_n 0, 1) := by decide +kernel
theorem dX7_benchOf_61 : decode cX7_benchOf 61 = .ok (.iload_n 1, 1) := by decide +kernel
theorem dX7_benchOf_62 : decode cX7_benchOf 62 = .ok (.invokevirtual 145, 3) := by decide +kernel
theorem dX7_benchOf_65 : decode cX7_benchOf 65 = .ok (.goto 27, 3) := by decide +kernel
theorem dX7_benchOf_68 : decode cX7_benchOf 68 = .ok (.iload_n 2, 1) := by decide +kernel
theorem dX7_benchOf_69 : decode cX7_benchOf 69 = .ok (.iconst 3, 1) := by decide +kernel
theorem dX7_benchOf_70 : decode cX7_benchOf 70 = .ok (.if_icmp .ne 10, 3) := by decide +kernel
theorem dX7_benchOf_73 : decode cX7_benchOf 73 = .ok (.aload_n 0, 1) := by decide +kernel
theorem dX7_benchOf_74 : decode cX7_benchOf 74 = .ok (.invokevirtual 122, 3) := by decide +kernel
theorem dX7_benchOf_77 : decode cX7_benchOf 77 = .ok (.goto 15, 3) := by decide +kernel
theorem dX7_benchOf_80 : decode cX7_benchOf 80 = .ok (.aload_n 0, 1) := by decide +kernel
theorem dX7_benchOf_81 : decode cX7_benchOf 81 = .ok (.invokevirtual 129, 3) := by decide +kernel
theorem dX7_benchOf_84 : decode cX7_benchOf 84 = .ok (.ifCond .eq 7, 3) := by decide +kernel
theorem dX7_benchOf_87 : decode cX7_benchOf 87 = .ok (.iconst 1, 1) := by decide +kernel
theorem dX7_benchOf_88 : decode cX7_benchOf 88 = .ok (.goto 4, 3) := by decide +kernel
theorem dX7_benchOf_91 : decode cX7_benchOf 91 = .ok (.iconst 0, 1) := by decide +kernel
theorem dX7_benchOf_92 : decode cX7_benchOf 92 = .ok (.ireturn, 1) := by decide +kernel
theorem dX7_turn_0 : decode cX7_turn 0 = .ok (.aload_n 0, 1) := by decide +kernel
theorem dX7_turn_1 : decode cX7_turn 1 = .ok (.iload_n 1, 1) := by decide +kernel
theorem dX7_turn_2 : decode cX7_turn 2 = .ok (.invokevirtual 62, 3) := by decide +kernel
theorem dX7_turn_5 : decode cX7_turn 5 = .ok (.ifCond .eq 25, 3) := by decide +kernel
theorem dX7_turn_8 : decode cX7_turn 8 = .ok (.iload_n 2, 1) := by decide +kernel
theorem dX7_turn_9 : decode cX7_turn 9 = .ok (.invokestatic 133, 3) := by decide +kernel
theorem dX7_turn_12 : decode cX7_turn 12 = .ok (.ifCond .eq 18, 3) := by decide +kernel
theorem dX7_turn_15 : decode cX7_turn 15 = .ok (.aload_n 0, 1) := by decide +kernel
theorem dX7_turn_16 : decode cX7_turn 16 = .ok (.bipush 76, 2) := by decide +kernel
theorem dX7_turn_18 : decode cX7_turn 18 = .ok (.bipush 10, 2) := by decide +kernel
theorem dX7_turn_20 : decode cX7_turn 20 = .ok (.iload_n 1, 1) := by decide +kernel
theorem dX7_turn_21 : decode cX7_turn 21 = .ok (.imul, 1) := by decide +kernel
theorem dX7_turn_22 : decode cX7_turn 22 = .ok (.iadd, 1) := by decide +kernel
theorem dX7_turn_23 : decode cX7_turn 23 = .ok (.iload_n 2, 1) := by decide +kernel
theorem dX7_turn_24 : decode cX7_turn 24 = .ok (.invokevirtual 88, 3) := by decide +kernel
theorem dX7_turn_27 : decode cX7_turn 27 = .ok (.goto 9, 3) := by decide +kernel
theorem dX7_turn_30 : decode cX7_turn 30 = .ok (.aload_n 0, 1) := by decide +kernel
theorem dX7_turn_31 : decode cX7_turn 31 = .ok (.ldc 46, 2) := by decide +kernel
theorem dX7_turn_33 : decode cX7_turn 33 = .ok (.invokevirtual 48, 3) := by decide +kernel
theorem dX7_turn_36 : decode cX7_turn 36 = .ok (.ireturn, 1) := by decide +kernel
theorem dX7_seat_0 : decode cX7_seat 0 = .ok (.aload_n 0, 1) := by decide +kernel
theorem dX7_seat_1 : decode cX7_seat 1 = .ok (.iload_n 1, 1) := by decide +kernel
theorem dX7_seat_2 : decode cX7_seat 2 = .ok (.iload_n 2, 1) := by decide +kernel
theorem dX7_seat_3 : decode cX7_seat 3 = .ok (.invokevirtual 148, 3) := by decide +kernel
theorem dX7_seat_6 : decode cX7_seat 6 = .ok (.ifCond .eq 16, 3) := by decide +kernel
theorem dX7_seat_9 : decode cX7_seat 9 = .ok (.aload_n 0, 1) := by decide +kernel
theorem dX7_seat_10 : decode cX7_seat 10 = .ok (.getfield 9, 3) := by decide +kernel
theorem dX7_seat_13 : decode cX7_seat 13 = .ok (.iload_n 1, 1) := by decide +kernel
theorem dX7_seat_14 : decode cX7_seat 14 = .ok (.iload_n 2, 1) := by decide +kernel
theorem dX7_seat_15 : decode cX7_seat 15 = .ok (.invokestatic 106, 3) := by decide +kernel
theorem dX7_seat_18 : decode cX7_seat 18 = .ok (.iaload, 1) := by decide +kernel
theorem dX7_seat_19 : decode cX7_seat 19 = .ok (.goto 9, 3) := by decide +kernel
theorem dX7_seat_22 : decode cX7_seat 22 = .ok (.aload_n 0, 1) := by decide +kernel
theorem dX7_seat_23 : decode cX7_seat 23 = .ok (.ldc 46, 2) := by decide +kernel
theorem dX7_seat_25 : decode cX7_seat 25 = .ok (.invokevirtual 48, 3) := by decide +kernel
theorem dX7_seat_28 : decode cX7_seat 28 = .ok (.ireturn, 1) := by decide +kernel
theorem dX7_beside_0 : decode cX7_beside 0 = .ok (.aload_n 0, 1) := by decide +kernel
theorem dX7_beside_1 : decode cX7_beside 1 = .ok (.iload_n 1, 1) := by decide +kernel
theorem dX7_beside_2 : decode cX7_beside 2 = .ok (.iload_n 2, 1) := by decide +kernel
theorem dX7_beside_3 : decode cX7_beside 3 = .ok (.invokevirtual 148, 3) := by decide +kernel
theorem dX7_beside_6 : decode cX7_beside 6 = .ok (.ifCond .eq 13, 3) := by decide +kernel
theorem dX7_beside_9 : decode cX7_beside 9 = .ok (.iload_n 3, 1) := by decide +kernel
theorem dX7_beside_10 : decode cX7_beside 10 = .ok (.i2l, 1) := by decide +kernel
theorem dX7_beside_11 : decode cX7_beside 11 = .ok (.lconst 0, 1) := by decide +kernel
theorem dX7_beside_12 : decode cX7_beside 12 = .ok (.lconst 1, 1) := by decide +kernel
theorem dX7_beside_13 : decode cX7_beside 13 = .ok (.invokestatic 54, 3) := by decide +kernel
theorem dX7_beside_16 : decode cX7_beside 16 = .ok (.ifCond .ne 10, 3) := by decide +kernel
theorem dX7_beside_19 : decode cX7_beside 19 = .ok (.aload_n 0, 1) := by decide +kernel
theorem dX7_beside_20 : decode cX7_beside 20 = .ok (.ldc 46, 2) := by decide +kernel
theorem dX7_beside_22 : decode cX7_beside 22 = .ok (.invokevirtual 48, 3) := by decide +kernel
theorem dX7_beside_25 : decode cX7_beside 25 = .ok (.ireturn, 1) := by decide +kernel
theorem dX7_beside_26 : decode cX7_beside 26 = .ok (.aload_n 0, 1) := by decide +kernel
theorem dX7_beside_27 : decode cX7_beside 27 = .ok (.iload_n 1, 1) := by decide +kernel
theorem dX7_beside_28 : decode cX7_beside 28 = .ok (.invokevirtual 125, 3) := by decide +kernel
theorem dX7_beside_31 : decode cX7_beside 31 = .ok (.aload_n 0, 1) := by decide +kernel
theorem dX7_beside_32 : decode cX7_beside 32 = .ok (.iload_n 2, 1) := by decide +kernel
theorem dX7_beside_33 : decode cX7_beside 33 = .ok (.iload_n 3, 1) := by decide +kernel
theorem dX7_beside_34 : decode cX7_beside 34 = .ok (.ifCond .ne 7, 3) := by decide +kernel
theorem dX7_beside_37 : decode cX7_beside 37 = .ok (.iconst (-1), 1) := by decide +kernel
theorem dX7_beside_38 : decode cX7_beside 38 = .ok (.goto 4, 3) := by decide +kernel
theorem dX7_beside_41 : decode cX7_beside 41 = .ok (.iconst 1, 1) := by decide +kernel
theorem dX7_beside_42 : decode cX7_beside 42 = .ok (.invokevirtual 115, 3) := by decide +kernel
theorem dX7_beside_45 : decode cX7_beside 45 = .ok (.ireturn, 1) := by decide +kernel
theorem dX7_wrong_0 : decode cX7_wrong 0 = .ok (.aload_n 0, 1) := by decide +kernel
theorem dX7_wrong_1 : decode cX7_wrong 1 = .ok (.iload_n 1, 1) := by decide +kernel
theorem dX7_wrong_2 : decode cX7_wrong 2 = .ok (.invokevirtual 62, 3) := by decide +kernel
theorem dX7_wrong_5 : decode cX7_wrong 5 = .ok (.ifCond .ne 10, 3) := by decide +kernel
theorem dX7_wrong_8 : decode cX7_wrong 8 = .ok (.aload_n 0, 1) := by decide +kernel
theorem dX7_wrong_9 : decode cX7_wrong 9 = .ok (.ldc 46, 2) := by decide +kernel
theorem dX7_wrong_11 : decode cX7_wrong 11 = .ok (.invokevirtual 48, 3) := by decide +kernel
theorem dX7_wrong_14 : decode cX7_wrong 14 = .ok (.ireturn, 1) := by decide +kernel
theorem dX7_wrong_15 : decode cX7_wrong 15 = .ok (.aload_n 0, 1) := by decide +kernel
theorem dX7_wrong_16 : decode cX7_wrong 16 = .ok (.iload_n 1, 1) := by decide +kernel
theorem dX7_wrong_17 : decode cX7_wrong 17 = .ok (.invokevirtual 125, 3) := by decide +kernel
theorem dX7_wrong_20 : decode cX7_wrong 20 = .ok (.aload_n 0, 1) := by decide +kernel
theorem dX7_wrong_21 : decode cX7_wrong 21 = .ok (.aload_n 0, 1) := by decide +kernel
theorem dX7_wrong_22 : decode cX7_wrong 22 = .ok (.invokevirtual 118, 3) := by decide +kernel
theorem dX7_wrong_25 : decode cX7_wrong 25 = .ok (.invokevirtual 151, 3) := by decide +kernel
theorem dX7_wrong_28 : decode cX7_wrong 28 = .ok (.ireturn, 1) := by decide +kernel
theorem dX7_whereIs_0 : decode cX7_whereIs 0 = .ok (.iconst 0, 1) := by decide +kernel
theorem dX7_whereIs_1 : decode cX7_whereIs 1 = .ok (.istore_n 2, 1) := by decide +kernel
theorem dX7_whereIs_2 : decode cX7_whereIs 2 = .ok (.iload_n 2, 1) := by decide +kernel
theorem dX7_whereIs_3 : decode cX7_whereIs 3 = .ok (.aload_n 0, 1) := by decide +kernel
theorem dX7_whereIs_4 : decode cX7_whereIs 4 = .ok (.getfield 9, 3) := by decide +kernel
theorem dX7_whereIs_7 : decode cX7_whereIs 7 = .ok (.iconst 3, 1) := by decide +kernel
theorem dX7_whereIs_8 : decode cX7_whereIs 8 = .ok (.iaload, 1) := by decide +kernel
theorem dX7_whereIs_9 : decode cX7_whereIs 9 = .ok (.if_icmp .ge 47, 3) := by decide +kernel
theorem dX7_whereIs_12 : decode cX7_whereIs 12 = .ok (.iconst 0, 1) := by decide +kernel
theorem dX7_whereIs_13 : decode cX7_whereIs 13 = .ok (.istore_n 3, 1) := by decide +kernel
theorem dX7_whereIs_14 : decode cX7_whereIs 14 = .ok (.iload_n 3, 1) := by decide +kernel
theorem dX7_whereIs_15 : decode cX7_whereIs 15 = .ok (.aload_n 0, 1) := by decide +kernel
theorem dX7_whereIs_16 : decode cX7_whereIs 16 = .ok (.iload_n 2, 1) := by decide +kernel
theorem dX7_whereIs_17 : decode cX7_whereIs 17 = .ok (.invokevirtual 66, 3) := by decide +kernel
theorem dX7_whereIs_20 : decode cX7_whereIs 20 = .ok (.if_icmp .ge 30, 3) := by decide +kernel
theorem dX7_whereIs_23 : decode cX7_whereIs 23 = .ok (.aload_n 0, 1) := by decide +kernel
theorem dX7_whereIs_24 : decode cX7_whereIs 24 = .ok (.getfield 9, 3) := by decide +kernel
theorem dX7_whereIs_27 : decode cX7_whereIs 27 = .ok (.iload_n 2, 1) := by decide +kernel
theorem dX7_whereIs_28 : decode cX7_whereIs 28 = .ok (.iload_n 3, 1) := by decide +kernel
theorem dX7_whereIs_29 : decode cX7_whereIs 29 = .ok (.invokestatic 106, 3) := by decide +kernel
theorem dX7_whereIs_32 : decode cX7_whereIs 32 = .ok (.iaload, 1) := by decide +kernel
theorem dX7_whereIs_33 : decode cX7_whereIs 33 = .ok (.iload_n 1, 1) := by decide +kernel
theorem dX7_whereIs_34 : decode cX7_whereIs 34 = .ok (.if_icmp .ne 10, 3) := by decide +kernel
theorem dX7_whereIs_37 : decode cX7_whereIs 37 = .ok (.bipush 10, 2) := by decide +kernel
theorem dX7_whereIs_39 : decode cX7_whereIs 39 = .ok (.iload_n 2, 1) := by decide +kernel
theorem dX7_whereIs_40 : decode cX7_whereIs 40 = .ok (.imul, 1) := by decide +kernel
theorem dX7_whereIs_41 : decode cX7_whereIs 41 = .ok (.iload_n 3, 1) := by decide +kernel
theorem dX7_whereIs_42 : decode cX7_whereIs 42 = .ok (.iadd, 1) := by decide +kernel
theorem dX7_whereIs_43 : decode cX7_whereIs 43 = .ok (.ireturn, 1) := by decide +kernel
theorem dX7_whereIs_44 : decode cX7_whereIs 44 = .ok (.iinc 3 1, 3) := by decide +kernel
theorem dX7_whereIs_47 : decode cX7_whereIs 47 = .ok (.goto (-33), 3) := by decide +kernel
theorem dX7_whereIs_50 : decode cX7_whereIs 50 = .ok (.iinc 2 1, 3) := by decide +kernel
theorem dX7_whereIs_53 : decode cX7_whereIs 53 = .ok (.goto (-51), 3) := by decide +kernel
theorem dX7_whereIs_56 : decode cX7_whereIs 56 = .ok (.iconst (-1), 1) := by decide +kernel
theorem dX7_whereIs_57 : decode cX7_whereIs 57 = .ok (.ireturn, 1) := by decide +kernel
theorem dX7_rises_0 : decode cX7_rises 0 = .ok (.aload_n 0, 1) := by decide +kernel
theorem dX7_rises_1 : decode cX7_rises 1 = .ok (.iload_n 1, 1) := by decide +kernel
theorem dX7_rises_2 : decode cX7_rises 2 = .ok (.invokevirtual 154, 3) := by decide +kernel
theorem dX7_rises_5 : decode cX7_rises 5 = .ok (.istore_n 2, 1) := by decide +kernel
theorem dX7_rises_6 : decode cX7_rises 6 = .ok (.iload_n 2, 1) := by decide +kernel
theorem dX7_rises_7 : decode cX7_rises 7 = .ok (.ifCond .lt 20, 3) := by decide +kernel
theorem dX7_rises_10 : decode cX7_rises 10 = .ok (.aload_n 0, 1) := by decide +kernel
theorem dX7_rises_11 : decode cX7_rises 11 = .ok (.getfield 9, 3) := by decide +kernel
theorem dX7_rises_14 : decode cX7_rises 14 = .ok (.iload_n 2, 1) := by decide +kernel
theorem dX7_rises_15 : decode cX7_rises 15 = .ok (.bipush 10, 2) := by decide +kernel
theorem dX7_rises_17 : decode cX7_rises 17 = .ok (.idiv, 1) := by decide +kernel
theorem dX7_rises_18 : decode cX7_rises 18 = .ok (.iload_n 2, 1) := by decide +kernel
theorem dX7_rises_19 : decode cX7_rises 19 = .ok (.bipush 10, 2) := by decide +kernel
theorem dX7_rises_21 : decode cX7_rises 21 = .ok (.irem, 1) := by decide +kernel
theorem dX7_rises_22 : decode cX7_rises 22 = .ok (.invokestatic 106, 3) := by decide +kernel
theorem dX7_rises_25 : decode cX7_rises 25 = .ok (.iconst (-1), 1) := by decide +kernel
theorem dX7_rises_26 : decode cX7_rises 26 = .ok (.iastore, 1) := by decide +kernel
theorem dX7_rises_27 : decode cX7_rises 27 = .ok (.iload_n 2, 1) := by decide +kernel
theorem dX7_rises_28 : decode cX7_rises 28 = .ok (.ifCond .lt 7, 3) := by decide +kernel
theorem dX7_rises_31 : decode cX7_rises 31 = .ok (.iconst 1, 1) := by decide +kernel
theorem dX7_rises_32 : decode cX7_rises 32 = .ok (.goto 4, 3) := by decide +kernel
theorem dX7_rises_35 : decode cX7_rises 35 = .ok (.iconst 0, 1) := by decide +kernel
theorem dX7_rises_36 : decode cX7_rises 36 = .ok (.ireturn, 1) := by decide +kernel
theorem dX7_sit_0 : decode cX7_sit 0 = .ok (.iload_n 1, 1) := by decide +kernel
theorem dX7_sit_1 : decode cX7_sit 1 = .ok (.invokestatic 69, 3) := by decide +kernel
theorem dX7_sit_4 : decode cX7_sit 4 = .ok (.ifCond .eq 12, 3) := by decide +kernel
theorem dX7_sit_7 : decode cX7_sit 7 = .ok (.aload_n 0, 1) := by decide +kernel
theorem dX7_sit_8 : decode cX7_sit 8 = .ok (.iload_n 2, 1) := by decide +kernel
theorem dX7_sit_9 : decode cX7_sit 9 = .ok (.iload_n 3, 1) := by decide +kernel
theorem dX7_sit_10 : decode cX7_sit 10 = .ok (.invokevirtual 148, 3) := by decide +kernel
theorem dX7_sit_13 : decode cX7_sit 13 = .ok (.ifCond .ne 10, 3) := by decide +kernel
theorem dX7_sit_16 : decode cX7_sit 16 = .ok (.aload_n 0, 1) := by decide +kernel
theorem dX7_sit_17 : decode cX7_sit 17 = .ok (.ldc 46, 2) := by decide +kernel
theorem dX7_sit_19 : decode cX7_sit 19 = .ok (.invokevirtual 48, 3) := by decide +kernel
theorem dX7_sit_22 : decode cX7_sit 22 = .ok (.ireturn, 1) := by decide +kernel
theorem dX7_sit_23 : decode cX7_sit 23 = .ok (.aload_n 0, 1) := by decide +kernel
theorem dX7_sit_24 : decode cX7_sit 24 = .ok (.getfield 9, 3) := by decide +kernel
theorem dX7_sit_27 : decode cX7_sit 27 = .ok (.iload_n 2, 1) := by decide +kernel
theorem dX7_sit_28 : decode cX7_sit 28 = .ok (.iload_n 3, 1) := by decide +kernel
theorem dX7_sit_29 : decode cX7_sit 29 = .ok (.invokestatic 106, 3) := by decide +kernel
theorem dX7_sit_32 : decode cX7_sit 32 = .ok (.iaload, 1) := by decide +kernel
theorem dX7_sit_33 : decode cX7_sit 33 = .ok (.istore 4, 2) := by decide +kernel
theorem dX7_sit_35 : decode cX7_sit 35 = .ok (.iload 4, 2) := by decide +kernel
theorem dX7_sit_37 : decode cX7_sit 37 = .ok (.ifCond .lt 16, 3) := by decide +kernel
theorem dX7_sit_40 : decode cX7_sit 40 = .ok (.iload 4, 2) := by decide +kernel
theorem dX7_sit_42 : decode cX7_sit 42 = .ok (.iload_n 1, 1) := by decide +kernel
theorem dX7_sit_43 : decode cX7_sit 43 = .ok (.if_icmp .eq 10, 3) := by decide +kernel
theorem dX7_sit_46 : decode cX7_sit 46 = .ok (.aload_n 0, 1) := by decide +kernel
theorem dX7_sit_47 : decode cX7_sit 47 = .ok (.ldc 157, 2) := by decide +kernel
theorem dX7_sit_49 : decode cX7_sit 49 = .ok (.invokevirtual 48, 3) := by decide +kernel
theorem dX7_sit_52 : decode cX7_sit 52 = .ok (.ireturn, 1) := by decide +kernel
theorem dX7_sit_53 : decode cX7_sit 53 = .ok (.aload_n 0, 1) := by decide +kernel
theorem dX7_sit_54 : decode cX7_sit 54 = .ok (.iload_n 1, 1) := by decide +kernel
theorem dX7_sit_55 : decode cX7_sit 55 = .ok (.invokevirtual 158, 3) := by decide +kernel
theorem dX7_sit_58 : decode cX7_sit 58 = .ok (.pop, 1) := by decide +kernel
theorem dX7_sit_59 : decode cX7_sit 59 = .ok (.aload_n 0, 1) := by decide +kernel
theorem dX7_sit_60 : decode cX7_sit 60 = .ok (.getfield 9, 3) := by decide +kernel
theorem dX7_sit_63 : decode cX7_sit 63 = .ok (.iload_n 2, 1) := by decide +kernel
theorem dX7_sit_64 : decode cX7_sit 64 = .ok (.iload_n 3, 1) := by decide +kernel
theorem dX7_sit_65 : decode cX7_sit 65 = .ok (.invokestatic 106, 3) := by decide +kernel
theorem dX7_sit_68 : decode cX7_sit 68 = .ok (.iload_n 1, 1) := by decide +kernel
theorem dX7_sit_69 : decode cX7_sit 69 = .ok (.iastore, 1) := by decide +kernel
theorem dX7_sit_70 : decode cX7_sit 70 = .ok (.aload_n 0, 1) := by decide +kernel
theorem dX7_sit_71 : decode cX7_sit 71 = .ok (.iload_n 2, 1) := by decide +kernel
theorem dX7_sit_72 : decode cX7_sit 72 = .ok (.invokevirtual 161, 3) := by decide +kernel
theorem dX7_sit_75 : decode cX7_sit 75 = .ok (.ifCond .eq 7, 3) := by decide +kernel
theorem dX7_sit_78 : decode cX7_sit 78 = .ok (.iconst 1, 1) := by decide +kernel
theorem dX7_sit_79 : decode cX7_sit 79 = .ok (.goto 4, 3) := by decide +kernel
theorem dX7_sit_82 : decode cX7_sit 82 = .ok (.iconst 0, 1) := by decide +kernel
theorem dX7_sit_83 : decode cX7_sit 83 = .ok (.ireturn, 1) := by decide +kernel
theorem dX7_rise_0 : decode cX7_rise 0 = .ok (.iload_n 1, 1) := by decide +kernel
theorem dX7_rise_1 : decode cX7_rise 1 = .ok (.invokestatic 69, 3) := by decide +kernel
theorem dX7_rise_4 : decode cX7_rise 4 = .ok (.ifCond .eq 19, 3) := by decide +kernel
theorem dX7_rise_7 : decode cX7_rise 7 = .ok (.aload_n 0, 1) := by decide +kernel
theorem dX7_rise_8 : decode cX7_rise 8 = .ok (.iload_n 1, 1) := by decide +kernel
theorem dX7_rise_9 : decode cX7_rise 9 = .ok (.invokevirtual 158, 3) := by decide +kernel
theorem dX7_rise_12 : decode cX7_rise 12 = .ok (.ifCond .eq 7, 3) := by decide +kernel
theorem dX7_rise_15 : decode cX7_rise 15 = .ok (.iconst 1, 1) := by decide +kernel
theorem dX7_rise_16 : decode cX7_rise 16 = .ok (.goto 13, 3) := by decide +kernel
theorem dX7_rise_19 : decode cX7_rise 19 = .ok (.iconst 0, 1) := by decide +kernel
theorem dX7_rise_20 : decode cX7_rise 20 = .ok (.goto 9, 3) := by decide +kernel
theorem dX7_rise_23 : decode cX7_rise 23 = .ok (.aload_n 0, 1) := by decide +kernel
theorem dX7_rise_24 : decode cX7_rise 24 = .ok (.ldc 46, 2) := by decide +kernel
theorem dX7_rise_26 : decode cX7_rise 26 = .ok (.invokevirtual 48, 3) := by decide +kernel
theorem dX7_rise_29 : decode cX7_rise 29 = .ok (.ireturn, 1) := by decide +kernel
theorem dX7_where_0 : decode cX7_where 0 = .ok (.iload_n 1, 1) := by decide +kernel
theorem dX7_where_1 : decode cX7_where 1 = .ok (.invokestatic 69, 3) := by decide +kernel
theorem dX7_where_4 : decode cX7_where 4 = .ok (.ifCond .eq 15, 3) := by decide +kernel
theorem dX7_where_7 : decode cX7_where 7 = .ok (.aload_n 0, 1) := by decide +kernel
theorem dX7_where_8 : decode cX7_where 8 = .ok (.aload_n 0, 1) := by decide +kernel
theorem dX7_where_9 : decode cX7_where 9 = .ok (.iload_n 1, 1) := by decide +kernel
theorem dX7_where_10 : decode cX7_where 10 = .ok (.invokevirtual 154, 3) := by decide +kernel
theorem dX7_where_13 : decode cX7_where 13 = .ok (.invokevirtual 151, 3) := by decide +kernel
theorem dX7_where_16 : decode cX7_where 16 = .ok (.goto 9, 3) := by decide +kernel
theorem dX7_where_19 : decode cX7_where 19 = .ok (.aload_n 0, 1) := by decide +kernel
theorem dX7_where_20 : decode cX7_where 20 = .ok (.ldc 46, 2) := by decide +kernel
theorem dX7_where_22 : decode cX7_where 22 = .ok (.invokevirtual 48, 3) := by decide +kernel
theorem dX7_where_25 : decode cX7_where 25 = .ok (.ireturn, 1) := by decide +kernel
theorem dX7_mayOn_0 : decode cX7_mayOn 0 = .ok (.iconst 0, 1) := by decide +kernel
theorem dX7_mayOn_1 : decode cX7_mayOn 1 = .ok (.istore_n 3, 1) := by decide +kernel
theorem dX7_mayOn_2 : decode cX7_mayOn 2 = .ok (.aload_n 0, 1) := by decide +kernel
theorem dX7_mayOn_3 : decode cX7_mayOn 3 = .ok (.iload_n 1, 1) := by decide +kernel
theorem dX7_mayOn_4 : decode cX7_mayOn 4 = .ok (.invokevirtual 154, 3) := by decide +kernel
theorem dX7_mayOn_7 : decode cX7_mayOn 7 = .ok (.istore 4, 2) := by decide +kernel
theorem dX7_mayOn_9 : decode cX7_mayOn 9 = .ok (.aload_n 0, 1) := by decide +kernel
theorem dX7_mayOn_10 : decode cX7_mayOn 10 = .ok (.iload_n 1, 1) := by decide +kernel
theorem dX7_mayOn_11 : decode cX7_mayOn 11 = .ok (.invokevirtual 158, 3) := by decide +kernel
theorem dX7_mayOn_14 : decode cX7_mayOn 14 = .ok (.pop, 1) := by decide +kernel
theorem dX7_mayOn_15 : decode cX7_mayOn 15 = .ok (.iconst 0, 1) := by decide +kernel
theorem dX7_mayOn_16 : decode cX7_mayOn 16 = .ok (.istore 5, 2) := by decide +kernel
theorem dX7_mayOn_18 : decode cX7_mayOn 18 = .ok (.iload 5, 2) := by decide +kernel
theorem dX7_mayOn_20 : decode cX7_mayOn 20 = .ok (.aload_n 0, 1) := by decide +kernel
theorem dX7_mayOn_21 : decode cX7_mayOn 21 = .ok (.iload_n 2, 1) := by decide +kernel
theorem dX7_mayOn_22 : decode cX7_mayOn 22 = .ok (.invokevirtual 66, 3) := by decide +kernel
theorem dX7_mayOn_25 : decode cX7_mayOn 25 = .ok (.if_icmp .ge 69, 3) := by decide +kernel
theorem dX7_mayOn_28 : decode cX7_mayOn 28 = .ok (.aload_n 0, 1) := by decide +kernel
theorem dX7_mayOn_29 : decode cX7_mayOn 29 = .ok (.getfield 9, 3) := by decide +kernel
theorem dX7_mayOn_32 : decode cX7_mayOn 32 = .ok (.iload_n 2, 1) := by decide +kernel
theorem dX7_mayOn_33 : decode cX7_mayOn 33 = .ok (.iload 5, 2) := by decide +kernel
theorem dX7_mayOn_35 : decode cX7_mayOn 35 = .ok (.invokestatic 106, 3) := by decide +kernel
theorem dX7_mayOn_38 : decode cX7_mayOn 38 = .ok (.iaload, 1) := by decide +kernel
theorem dX7_mayOn_39 : decode cX7_mayOn 39 = .ok (.ifCond .lt 6, 3) := by decide +kernel
theorem dX7_mayOn_42 : decode cX7_mayOn 42 = .ok (.goto 46, 3) := by decide +kernel
theorem dX7_mayOn_45 : decode cX7_mayOn 45 = .ok (.aload_n 0, 1) := by decide +kernel
theorem dX7_mayOn_46 : decode cX7_mayOn 46 = .ok (.getfield 9, 3) := by decide +kernel
theorem dX7_mayOn_49 : decode cX7_mayOn 49 = .ok (.iload_n 2, 1) := by decide +kernel
theorem dX7_mayOn_50 : decode cX7_mayOn 50 = .ok (.iload 5, 2) := by decide +kernel
theorem dX7_mayOn_52 : decode cX7_mayOn 52 = .ok (.invokestatic 106, 3) := by decide +kernel
theorem dX7_mayOn_55 : decode cX7_mayOn 55 = .ok (.iload_n 1, 1) := by decide +kernel
theorem dX7_mayOn_56 : decode cX7_mayOn 56 = .ok (.iastore, 1) := by decide +kernel
theorem dX7_mayOn_57 : decode cX7_mayOn 57 = .ok (.iload_n 3, 1) := by decide +kernel
theorem dX7_mayOn_58 : decode cX7_mayOn 58 = .ok (.aload_n 0, 1) := by decide +kernel
theorem dX7_mayOn_59 : decode cX7_mayOn 59 = .ok (.iload_n 2, 1) := by decide +kernel
theorem dX7_mayOn_60 : decode cX7_mayOn 60 = .ok (.invokevirtual 161, 3) := by decide +kernel
theorem dX7_mayOn_63 : decode cX7_mayOn 63 = .ok (.ifCond .eq 10, 3) := by decide +kernel
theorem dX7_mayOn_66 : decode cX7_mayOn 66 = .ok (.iconst 1, 1) := by decide +kernel
theorem dX7_mayOn_67 : decode cX7_mayOn 67 = .ok (.iload 5, 2) := by decide +kernel
theorem dX7_mayOn_69 : decode cX7_mayOn 69 = .ok (.ishl, 1) := by decide +kernel
theorem dX7_mayOn_70 : decode cX7_mayOn 70 = .ok (.goto 4, 3) := by decide +kernel
theorem dX7_mayOn_73 : decode cX7_mayOn 73 = .ok (.iconst 0, 1) := by decide +kernel
theorem dX7_mayOn_74 : decode cX7_mayOn 74 = .ok (.ior, 1) := by decide +kernel
theorem dX7_mayOn_75 : decode cX7_mayOn 75 = .ok (.istore_n 3, 1) := by decide +kernel
theorem dX7_mayOn_76 : decode cX7_mayOn 76 = .ok (.aload_n 0, 1) := by decide +kernel
theorem dX7_mayOn_77 : decode cX7_mayOn 77 = .ok (.getfield 9, 3) := by decide +kernel
theorem dX7_mayOn_80 : decode cX7_mayOn 80 = .ok (.iload_n 2, 1) := by decide +kernel
theorem dX7_mayOn_81 : decode cX7_mayOn 81 = .ok (.iload 5, 2) := by decide +kernel
theorem dX7_mayOn_83 : decode cX7_mayOn 83 = .ok (.invokestatic 106, 3) := by decide +kernel
theorem dX7_mayOn_86 : decode cX7_mayOn 86 = .ok (.iconst (-1), 1) := by decide +kernel
theorem dX7_mayOn_87 : decode cX7_mayOn 87 = .ok (.iastore, 1) := by decide +kernel
theorem dX7_mayOn_88 : decode cX7_mayOn 88 = .ok (.iinc 5 1, 3) := by decide +kernel
theorem dX7_mayOn_91 : decode cX7_mayOn 91 = .ok (.goto (-73), 3) := by decide +kernel
theorem dX7_mayOn_94 : decode cX7_mayOn 94 = .ok (.iload 4, 2) := by decide +kernel
theorem dX7_mayOn_96 : decode cX7_mayOn 96 = .ok (.ifCond .lt 22, 3) := by decide +kernel
theorem dX7_mayOn_99 : decode cX7_mayOn 99 = .ok (.aload_n 0, 1) := by decide +kernel
theorem dX7_mayOn_100 : decode cX7_mayOn 100 = .ok (.getfield 9, 3) := by decide +kernel
theorem dX7_mayOn_103 : decode cX7_mayOn 103 = .ok (.iload 4, 2) := by decide +kernel
theorem dX7_mayOn_105 : decode cX7_mayOn 105 = .ok (.bipush 10, 2) := by decide +kernel
theorem dX7_mayOn_107 : decode cX7_mayOn 107 = .ok (.idiv, 1) := by decide +kernel
theorem dX7_mayOn_108 : decode cX7_mayOn 108 = .ok (.iload 4, 2) := by decide +kernel
theorem dX7_mayOn_110 : decode cX7_mayOn 110 = .ok (.bipush 10, 2) := by decide +kernel
theorem dX7_mayOn_112 : decode cX7_mayOn 112 = .ok (.irem, 1) := by decide +kernel
theorem dX7_mayOn_113 : decode cX7_mayOn 113 = .ok (.invokestatic 106, 3) := by decide +kernel
theorem dX7_mayOn_116 : decode cX7_mayOn 116 = .ok (.iload_n 1, 1) := by decide +kernel
theorem dX7_mayOn_117 : decode cX7_mayOn 117 = .ok (.iastore, 1) := by decide +kernel
theorem dX7_mayOn_118 : decode cX7_mayOn 118 = .ok (.iload_n 3, 1) := by decide +kernel
theorem dX7_mayOn_119 : decode cX7_mayOn 119 = .ok (.ireturn, 1) := by decide +kernel
theorem dX7_may_0 : decode cX7_may 0 = .ok (.iload_n 1, 1) := by decide +kernel
theorem dX7_may_1 : decode cX7_may 1 = .ok (.invokestatic 69, 3) := by decide +kernel
theorem dX7_may_4 : decode cX7_may 4 = .ok (.ifCond .eq 20, 3) := by decide +kernel
theorem dX7_may_7 : decode cX7_may 7 = .ok (.aload_n 0, 1) := by decide +kernel
theorem dX7_may_8 : decode cX7_may 8 = .ok (.iload_n 2, 1) := by decide +kernel
theorem dX7_may_9 : decode cX7_may 9 = .ok (.invokevirtual 62, 3) := by decide +kernel
theorem dX7_may_12 : decode cX7_may 12 = .ok (.ifCond .eq 12, 3) := by decide +kernel
theorem dX7_may_15 : decode cX7_may 15 = .ok (.aload_n 0, 1) := by decide +kernel
theorem dX7_may_16 : decode cX7_may 16 = .ok (.iload_n 1, 1) := by decide +kernel
theorem dX7_may_17 : decode cX7_may 17 = .ok (.iload_n 2, 1) := by decide +kernel
theorem dX7_may_18 : decode cX7_may 18 = .ok (.invokevirtual 164, 3) := by decide +kernel
theorem dX7_may_21 : decode cX7_may 21 = .ok (.goto 9, 3) := by decide +kernel
theorem dX7_may_24 : decode cX7_may 24 = .ok (.aload_n 0, 1) := by decide +kernel
theorem dX7_may_25 : decode cX7_may 25 = .ok (.ldc 46, 2) := by decide +kernel
theorem dX7_may_27 : decode cX7_may 27 = .ok (.invokevirtual 48, 3) := by decide +kernel
theorem dX7_may_30 : decode cX7_may 30 = .ok (.ireturn, 1) := by decide +kernel
theorem dX7_stillMay_0 : decode cX7_stillMay 0 = .ok (.iconst 0, 1) := by decide +kernel
theorem dX7_stillMay_1 : decode cX7_stillMay 1 = .ok (.istore_n 3, 1) := by decide +kernel
theorem dX7_stillMay_2 : decode cX7_stillMay 2 = .ok (.iconst 0, 1) := by decide +kernel
theorem dX7_stillMay_3 : decode cX7_stillMay 3 = .ok (.istore 4, 2) := by decide +kernel
theorem dX7_stillMay_5 : decode cX7_stillMay 5 = .ok (.iload 4, 2) := by decide +kernel
theorem dX7_stillMay_7 : decode cX7_stillMay 7 = .ok (.bipush 8, 2) := by decide +kernel
theorem dX7_stillMay_9 : decode cX7_stillMay 9 = .ok (.if_icmp .ge 42, 3) := by decide +kernel
theorem dX7_stillMay_12 : decode cX7_stillMay 12 = .ok (.iload_n 3, 1) := by decide +kernel
theorem dX7_stillMay_13 : decode cX7_stillMay 13 = .ok (.iload 4, 2) := by decide +kernel
theorem dX7_stillMay_15 : decode cX7_stillMay 15 = .ok (.iload_n 1, 1) := by decide +kernel
theorem dX7_stillMay_16 : decode cX7_stillMay 16 = .ok (.if_icmp .eq 26, 3) := by decide +kernel
theorem dX7_stillMay_19 : decode cX7_stillMay 19 = .ok (.aload_n 0, 1) := by decide +kernel
theorem dX7_stillMay_20 : decode cX7_stillMay 20 = .ok (.iload 4, 2) := by decide +kernel
theorem dX7_stillMay_22 : decode cX7_stillMay 22 = .ok (.invokevirtual 154, 3) := by decide +kernel
theorem dX7_stillMay_25 : decode cX7_stillMay 25 = .ok (.ifCond .ge 17, 3) := by decide +kernel
theorem dX7_stillMay_28 : decode cX7_stillMay 28 = .ok (.aload_n 0, 1) := by decide +kernel
theorem dX7_stillMay_29 : decode cX7_stillMay 29 = .ok (.iload 4, 2) := by decide +kernel
theorem dX7_stillMay_31 : decode cX7_stillMay 31 = .ok (.iload_n 2, 1) := by decide +kernel
theorem dX7_stillMay_32 : decode cX7_stillMay 32 = .ok (.invokevirtual 164, 3) := by decide +kernel
theorem dX7_stillMay_35 : decode cX7_stillMay 35 = .ok (.ifCond .eq 7, 3) := by decide +kernel
theorem dX7_stillMay_38 : decode cX7_stillMay 38 = .ok (.iconst 1, 1) := by decide +kernel
theorem dX7_stillMay_39 : decode cX7_stillMay 39 = .ok (.goto 4, 3) := by decide +kernel
theorem dX7_stillMay_42 : decode cX7_stillMay 42 = .ok (.iconst 0, 1) := by decide +kernel
theorem dX7_stillMay_43 : decode cX7_stillMay 43 = .ok (.iadd, 1) := by decide +kernel
theorem dX7_stillMay_44 : decode cX7_stillMay 44 = .ok (.istore_n 3, 1) := by decide +kernel
theorem dX7_stillMay_45 : decode cX7_stillMay 45 = .ok (.iinc 4 1, 3) := by decide +kernel
theorem dX7_stillMay_48 : decode cX7_stillMay 48 = .ok (.goto (-43), 3) := by decide +kernel
theorem dX7_stillMay_51 : decode cX7_stillMay 51 = .ok (.iload_n 3, 1) := by decide +kernel
theorem dX7_stillMay_52 : decode cX7_stillMay 52 = .ok (.ireturn, 1) := by decide +kernel
theorem dX7_kind_0 : decode cX7_kind 0 = .ok (.iload_n 1, 1) := by decide +kernel
theorem dX7_kind_1 : decode cX7_kind 1 = .ok (.invokestatic 69, 3) := by decide +kernel
theorem dX7_kind_4 : decode cX7_kind 4 = .ok (.ifCond .eq 11, 3) := by decide +kernel
theorem dX7_kind_7 : decode cX7_kind 7 = .ok (.aload_n 0, 1) := by decide +kernel
theorem dX7_kind_8 : decode cX7_kind 8 = .ok (.iload_n 2, 1) := by decide +kernel
theorem dX7_kind_9 : decode cX7_kind 9 = .ok (.invokevirtual 62, 3) := by decide +kernel
theorem dX7_kind_12 : decode cX7_kind 12 = .ok (.ifCond .ne 10, 3) := by decide +kernel
theorem dX7_kind_15 : decode cX7_kind 15 = .ok (.aload_n 0, 1) := by decide +kernel
theorem dX7_kind_16 : decode cX7_kind 16 = .ok (.ldc 46, 2) := by decide +kernel
theorem dX7_kind_18 : decode cX7_kind 18 = .ok (.invokevirtual 48, 3) := by decide +kernel
theorem dX7_kind_21 : decode cX7_kind 21 = .ok (.ireturn, 1) := by decide +kernel
theorem dX7_kind_22 : decode cX7_kind 22 = .ok (.aload_n 0, 1) := by decide +kernel
theorem dX7_kind_23 : decode cX7_kind 23 = .ok (.iload_n 1, 1) := by decide +kernel
theorem dX7_kind_24 : decode cX7_kind 24 = .ok (.iload_n 2, 1) := by decide +kernel
theorem dX7_kind_25 : decode cX7_kind 25 = .ok (.invokevirtual 164, 3) := by decide +kernel
theorem dX7_kind_28 : decode cX7_kind 28 = .ok (.istore_n 3, 1) := by decide +kernel
theorem dX7_kind_29 : decode cX7_kind 29 = .ok (.aload_n 0, 1) := by decide +kernel
theorem dX7_kind_30 : decode cX7_kind 30 = .ok (.getfield 9, 3) := by decide +kernel
theorem dX7_kind_33 : decode cX7_kind 33 = .ok (.aload_n 0, 1) := by decide +kernel
theorem dX7_kind_34 : decode cX7_kind 34 = .ok (.getfield 16, 3) := by decide +kernel
theorem dX7_kind_37 : decode cX7_kind 37 = .ok (.invokestatic 167, 3) := by decide +kernel
theorem dX7_kind_40 : decode cX7_kind 40 = .ok (.iconst (-1), 1) := by decide +kernel
theorem dX7_kind_41 : decode cX7_kind 41 = .ok (.istore 4, 2) := by decide +kernel
theorem dX7_kind_43 : decode cX7_kind 43 = .ok (.iconst 0, 1) := by decide +kernel
theorem dX7_kind_44 : decode cX7_kind 44 = .ok (.istore 5, 2) := by decide +kernel
theorem dX7_kind_46 : decode cX7_kind 46 = .ok (.aload_n 0, 1) := by decide +kernel
theorem dX7_kind_47 : decode cX7_kind 47 = .ok (.iload_n 1, 1) := by decide +kernel
theorem dX7_kind_48 : decode cX7_kind 48 = .ok (.invokevirtual 158, 3) := by decide +kernel
theorem dX7_kind_51 : decode cX7_kind 51 = .ok (.pop, 1) := by decide +kernel
theorem dX7_kind_52 : decode cX7_kind 52 = .ok (.iconst 0, 1) := by decide +kernel
theorem dX7_kind_53 : decode cX7_kind 53 = .ok (.istore 6, 2) := by decide +kernel
theorem dX7_kind_55 : decode cX7_kind 55 = .ok (.iload 6, 2) := by decide +kernel
theorem dX7_kind_57 : decode cX7_kind 57 = .ok (.aload_n 0, 1) := by decide +kernel
theorem dX7_kind_58 : decode cX7_kind 58 = .ok (.iload_n 2, 1) := by decide +kernel
theorem dX7_kind_59 : decode cX7_kind 59 = .ok (.invokevirtual 66, 3) := by decide +kernel
theorem dX7_kind_62 : decode cX7_kind 62 = .ok (.if_icmp .ge 76, 3) := by decide +kernel
theorem dX7_kind_65 : decode cX7_kind 65 = .ok (.iload_n 3, 1) := by decide +kernel
theorem dX7_kind_66 : decode cX7_kind 66 = .ok (.iload 6, 2) := by decide +kernel
theorem dX7_kind_68 : decode cX7_kind 68 = .ok (.invokestatic 171, 3) := by decide +kernel
theorem dX7_kind_71 : decode cX7_kind 71 = .ok (.ifCond .ne 6, 3) := by decide +kernel
theorem dX7_kind_74 : decode cX7_kind 74 = .ok (.goto 58, 3) := by decide +kernel
theorem dX7_kind_77 : decode cX7_kind 77 = .ok (.aload_n 0, 1) := by decide +kernel
theorem dX7_kind_78 : decode cX7_kind 78 = .ok (.getfield 9, 3) := by decide +kernel
theorem dX7_kind_81 : decode cX7_kind 81 = .ok (.iload_n 2, 1) := by decide +kernel
theorem dX7_kind_82 : decode cX7_kind 82 = .ok (.iload 6, 2) := by decide +kernel
theorem dX7_kind_84 : decode cX7_kind 84 = .ok (.invokestatic 106, 3) := by decide +kernel
theorem dX7_kind_87 : decode cX7_kind 87 = .ok (.iload_n 1, 1) := by decide +kernel
theorem dX7_kind_88 : decode cX7_kind 88 = .ok (.iastore, 1) := by decide +kernel
theorem dX7_kind_89 : decode cX7_kind 89 = .ok (.aload_n 0, 1) := by decide +kernel
theorem dX7_kind_90 : decode cX7_kind 90 = .ok (.iload_n 1, 1) := by decide +kernel
theorem dX7_kind_91 : decode cX7_kind 91 = .ok (.iload_n 2, 1) := by decide +kernel
theorem dX7_kind_92 : decode cX7_kind 92 = .ok (.invokevirtual 174, 3) := by decide +kernel
theorem dX7_kind_95 : decode cX7_kind 95 = .ok (.istore 7, 2) := by decide +kernel
theorem dX7_kind_97 : decode cX7_kind 97 = .ok (.aload_n 0, 1) := by decide +kernel
theorem dX7_kind_98 : decode cX7_kind 98 = .ok (.getfield 9, 3) := by decide +kernel
theorem dX7_kind_101 : decode cX7_kind 101 = .ok (.iload_n 2, 1) := by decide +kernel
theorem dX7_kind_102 : decode cX7_kind 102 = .ok (.iload 6, 2) := by decide +kernel
theorem dX7_kind_104 : decode cX7_kind 104 = .ok (.invokestatic 106, 3) := by decide +kernel
theorem dX7_kind_107 : decode cX7_kind 107 = .ok (.iconst (-1), 1) := by decide +kernel
theorem dX7_kind_108 : decode cX7_kind 108 = .ok (.iastore, 1) := by decide +kernel
theorem dX7_kind_109 : decode cX7_kind 109 = .ok (.iload 4, 2) := by decide +kernel
theorem dX7_kind_111 : decode cX7_kind 111 = .ok (.ifCond .lt 13, 3) := by decide +kernel
theorem dX7_kind_114 : decode cX7_kind 114 = .ok (.iload 7, 2) := by decide +kernel
theorem dX7_kind_116 : decode cX7_kind 116 = .ok (.iload 5, 2) := by decide +kernel
theorem dX7_kind_118 : decode cX7_kind 118 = .ok (.if_icmp .gt 6, 3) := by decide +kernel
theorem dX7_kind_121 : decode cX7_kind 121 = .ok (.goto 11, 3) := by decide +kernel
theorem dX7_kind_124 : decode cX7_kind 124 = .ok (.iload 6, 2) := by decide +kernel
theorem dX7_kind_126 : decode cX7_kind 126 = .ok (.istore 4, 2) := by decide +kernel
theorem dX7_kind_128 : decode cX7_kind 128 = .ok (.iload 7, 2) := by decide +kernel
theorem dX7_kind_130 : decode cX7_kind 130 = .ok (.istore 5, 2) := by decide +kernel
theorem dX7_kind_132 : decode cX7_kind 132 = .ok (.iinc 6 1, 3) := by decide +kernel
theorem dX7_kind_135 : decode cX7_kind 135 = .ok (.goto (-80), 3) := by decide +kernel
theorem dX7_kind_138 : decode cX7_kind 138 = .ok (.aload_n 0, 1) := by decide +kernel
theorem dX7_kind_139 : decode cX7_kind 139 = .ok (.getfield 16, 3) := by decide +kernel
theorem dX7_kind_142 : decode cX7_kind 142 = .ok (.aload_n 0, 1) := by decide +kernel
theorem dX7_kind_143 : decode cX7_kind 143 = .ok (.getfield 9, 3) := by decide +kernel
theorem dX7_kind_146 : decode cX7_kind 146 = .ok (.invokestatic 167, 3) := by decide +kernel
theorem dX7_kind_149 : decode cX7_kind 149 = .ok (.aload_n 0, 1) := by decide +kernel
theorem dX7_kind_150 : decode cX7_kind 150 = .ok (.iload 4, 2) := by decide +kernel
theorem dX7_kind_152 : decode cX7_kind 152 = .ok (.invokevirtual 151, 3) := by decide +kernel
theorem dX7_kind_155 : decode cX7_kind 155 = .ok (.ireturn, 1) := by decide +kernel
theorem dX7_draw_0 : decode cX7_draw 0 = .ok (.aload_n 0, 1) := by decide +kernel
theorem dX7_draw_1 : decode cX7_draw 1 = .ok (.getfield 9, 3) := by decide +kernel
theorem dX7_draw_4 : decode cX7_draw 4 = .ok (.iconst 2, 1) := by decide +kernel
theorem dX7_draw_5 : decode cX7_draw 5 = .ok (.aload_n 0, 1) := by decide +kernel
theorem dX7_draw_6 : decode cX7_draw 6 = .ok (.getfield 9, 3) := by decide +kernel
theorem dX7_draw_9 : decode cX7_draw 9 = .ok (.iconst 2, 1) := by decide +kernel
theorem dX7_draw_10 : decode cX7_draw 10 = .ok (.iaload, 1) := by decide +kernel
theorem dX7_draw_11 : decode cX7_draw 11 = .ok (.ldc 177, 2) := by decide +kernel
theorem dX7_draw_13 : decode cX7_draw 13 = .ok (.imul, 1) := by decide +kernel
theorem dX7_draw_14 : decode cX7_draw 14 = .ok (.sipush 12345, 3) := by decide +kernel
theorem dX7_draw_17 : decode cX7_draw 17 = .ok (.iadd, 1) := by decide +kernel
theorem dX7_draw_18 : decode cX7_draw 18 = .ok (.iastore, 1) := by decide +kernel
theorem dX7_draw_19 : decode cX7_draw 19 = .ok (.aload_n 0, 1) := by decide +kernel
theorem dX7_draw_20 : decode cX7_draw 20 = .ok (.getfield 9, 3) := by decide +kernel
theorem dX7_draw_23 : decode cX7_draw 23 = .ok (.iconst 2, 1) := by decide +kernel
theorem dX7_draw_24 : decode cX7_draw 24 = .ok (.iaload, 1) := by decide +kernel
theorem dX7_draw_25 : decode cX7_draw 25 = .ok (.bipush 8, 2) := by decide +kernel
theorem dX7_draw_27 : decode cX7_draw 27 = .ok (.iushr, 1) := by decide +kernel
theorem dX7_draw_28 : decode cX7_draw 28 = .ok (.ireturn, 1) := by decide +kernel
theorem dX7_come_0 : decode cX7_come 0 = .ok (.aload_n 0, 1) := by decide +kernel
theorem dX7_come_1 : decode cX7_come 1 = .ok (.iload_n 1, 1) := by decide +kernel
theorem dX7_come_2 : decode cX7_come 2 = .ok (.invokevirtual 62, 3) := by decide +kernel
theorem dX7_come_5 : decode cX7_come 5 = .ok (.ifCond .eq 15, 3) := by decide +kernel
theorem dX7_come_8 : decode cX7_come 8 = .ok (.iload_n 2, 1) := by decide +kernel
theorem dX7_come_9 : decode cX7_come 9 = .ok (.i2l, 1) := by decide +kernel
theorem dX7_come_10 : decode cX7_come 10 = .ok (.lconst 1, 1) := by decide +kernel
theorem dX7_come_11 : decode cX7_come 11 = .ok (.ldc2_w 178, 3) := by decide +kernel
theorem dX7_come_14 : decode cX7_come 14 = .ok (.invokestatic 54, 3) := by decide +kernel
theorem dX7_come_17 : decode cX7_come 17 = .ok (.ifCond .ne 10, 3) := by decide +kernel
theorem dX7_come_20 : decode cX7_come 20 = .ok (.aload_n 0, 1) := by decide +kernel
theorem dX7_come_21 : decode cX7_come 21 = .ok (.ldc 46, 2) := by decide +kernel
theorem dX7_come_23 : decode cX7_come 23 = .ok (.invokevirtual 48, 3) := by decide +kernel
theorem dX7_come_26 : decode cX7_come 26 = .ok (.ireturn, 1) := by decide +kernel
theorem dX7_come_27 : decode cX7_come 27 = .ok (.iconst 0, 1) := by decide +kernel
theorem dX7_come_28 : decode cX7_come 28 = .ok (.istore_n 3, 1) := by decide +kernel
theorem dX7_come_29 : decode cX7_come 29 = .ok (.iconst 0, 1) := by decide +kernel
theorem dX7_come_30 : decode cX7_come 30 = .ok (.istore 4, 2) := by decide +kernel
theorem dX7_come_32 : decode cX7_come 32 = .ok (.iload 4, 2) := by decide +kernel
theorem dX7_come_34 : decode cX7_come 34 = .ok (.iload_n 2, 1) := by decide +kernel
theorem dX7_come_35 : decode cX7_come 35 = .ok (.if_icmp .ge 92, 3) := by decide +kernel
theorem dX7_come_38 : decode cX7_come 38 = .ok (.aload_n 0, 1) := by decide +kernel
theorem dX7_come_39 : decode cX7_come 39 = .ok (.invokevirtual 180, 3) := by decide +kernel
theorem dX7_come_42 : decode cX7_come 42 = .ok (.bipush 8, 2) := by decide +kernel
theorem dX7_come_44 : decode cX7_come 44 = .ok (.irem, 1) := by decide +kernel
theorem dX7_come_45 : decode cX7_come 45 = .ok (.istore 5, 2) := by decide +kernel
theorem dX7_come_47 : decode cX7_come 47 = .ok (.aload_n 0, 1) := by decide +kernel
theorem dX7_come_48 : decode cX7_come 48 = .ok (.iload 5, 2) := by decide +kernel
theorem dX7_come_50 : decode cX7_come 50 = .ok (.invokevirtual 154, 3) := by decide +kernel
theorem dX7_come_53 : decode cX7_come 53 = .ok (.ifCond .ge 13, 3) := by decide +kernel
theorem dX7_come_56 : decode cX7_come 56 = .ok (.aload_n 0, 1) := by decide +kernel
theorem dX7_come_57 : decode cX7_come 57 = .ok (.iload 5, 2) := by decide +kernel
theorem dX7_come_59 : decode cX7_come 59 = .ok (.iload_n 1, 1) := by decide +kernel
theorem dX7_come_60 : decode cX7_come 60 = .ok (.invokevirtual 164, 3) := by decide +kernel
theorem dX7_come_63 : decode cX7_come 63 = .ok (.goto 4, 3) := by decide +kernel
theorem dX7_come_66 : decode cX7_come 66 = .ok (.iconst 0, 1) := by decide +kernel
theorem dX7_come_67 : decode cX7_come 67 = .ok (.istore 6, 2) := by decide +kernel
theorem dX7_come_69 : decode cX7_come 69 = .ok (.iconst 0, 1) := by decide +kernel
theorem dX7_come_70 : decode cX7_come 70 = .ok (.istore 7, 2) := by decide +kernel
theorem dX7_come_72 : decode cX7_come 72 = .ok (.iload 7, 2) := by decide +kernel
theorem dX7_come_74 : decode cX7_come 74 = .ok (.bipush 8, 2) := by decide +kernel
theorem dX7_come_76 : decode cX7_come 76 = .ok (.if_icmp .ge 19, 3) := by decide +kernel
theorem dX7_come_79 : decode cX7_come 79 = .ok (.iload 6, 2) := by decide +kernel
theorem dX7_come_81 : decode cX7_come 81 = .ok (.iload 7, 2) := by decide +kernel
theorem dX7_come_83 : decode cX7_come 83 = .ok (.invokestatic 171, 3) := by decide +kernel
theorem dX7_come_86 : decode cX7_come 86 = .ok (.ifCond .ne 9, 3) := by decide +kernel
theorem dX7_come_89 : decode cX7_come 89 = .ok (.iinc 7 1, 3) := by decide +kernel
theorem dX7_come_92 : decode cX7_come 92 = .ok (.goto (-20), 3) := by decide +kernel
theorem dX7_come_95 : decode cX7_come 95 = .ok (.iload 7, 2) := by decide +kernel
theorem dX7_come_97 : decode cX7_come 97 = .ok (.bipush 8, 2) := by decide +kernel
theorem dX7_come_99 : decode cX7_come 99 = .ok (.if_icmp .ne 6, 3) := by decide +kernel
theorem dX7_come_102 : decode cX7_come 102 = .ok (.goto 19, 3) := by decide +kernel
theorem dX7_come_105 : decode cX7_come 105 = .ok (.aload_n 0, 1) := by decide +kernel
theorem dX7_come_106 : decode cX7_come 106 = .ok (.getfield 9, 3) := by decide +kernel
theorem dX7_come_109 : decode cX7_come 109 = .ok (.iload_n 1, 1) := by decide +kernel
theorem dX7_come_110 : decode cX7_come 110 = .ok (.iload 7, 2) := by decide +kernel
theorem dX7_come_112 : decode cX7_come 112 = .ok (.invokestatic 106, 3) := by decide +kernel
theorem dX7_come_115 : decode cX7_come 115 = .ok (.iload 5, 2) := by decide +kernel
theorem dX7_come_117 : decode cX7_come 117 = .ok (.iastore, 1) := by decide +kernel
theorem dX7_come_118 : decode cX7_come 118 = .ok (.iinc 3 1, 3) := by decide +kernel
theorem dX7_come_121 : decode cX7_come 121 = .ok (.iinc 4 1, 3) := by decide +kernel
theorem dX7_come_124 : decode cX7_come 124 = .ok (.goto (-92), 3) := by decide +kernel
theorem dX7_come_127 : decode cX7_come 127 = .ok (.iload_n 3, 1) := by decide +kernel
theorem dX7_come_128 : decode cX7_come 128 = .ok (.ireturn, 1) := by decide +kernel
theorem dX7_seatingsOf_0 : decode cX7_seatingsOf 0 = .ok (.iconst 0, 1) := by decide +kernel
theorem dX7_seatingsOf_1 : decode cX7_seatingsOf 1 = .ok (.istore_n 3, 1) := by decide +kernel
theorem dX7_seatingsOf_2 : decode cX7_seatingsOf 2 = .ok (.iload_n 3, 1) := by decide +kernel
theorem dX7_seatingsOf_3 : decode cX7_seatingsOf 3 = .ok (.bipush 64, 2) := by decide +kernel
theorem dX7_seatingsOf_5 : decode cX7_seatingsOf 5 = .ok (.if_icmp .ge 16, 3) := by decide +kernel
theorem dX7_seatingsOf_8 : decode cX7_seatingsOf 8 = .ok (.aload_n 0, 1) := by decide +kernel
theorem dX7_seatingsOf_9 : decode cX7_seatingsOf 9 = .ok (.getfield 25, 3) := by decide +kernel
theorem dX7_seatingsOf_12 : decode cX7_seatingsOf 12 = .ok (.iload_n 3, 1) := by decide +kernel
theorem dX7_seatingsOf_13 : decode cX7_seatingsOf 13 = .ok (.iconst 0, 1) := by decide +kernel
theorem dX7_seatingsOf_14 : decode cX7_seatingsOf 14 = .ok (.iastore, 1) := by decide +kernel
theorem dX7_seatingsOf_15 : decode cX7_seatingsOf 15 = .ok (.iinc 3 1, 3) := by decide +kernel
theorem dX7_seatingsOf_18 : decode cX7_seatingsOf 18 = .ok (.goto (-16), 3) := by decide +kernel
theorem dX7_seatingsOf_21 : decode cX7_seatingsOf 21 = .ok (.iload_n 1, 1) := by decide +kernel
theorem dX7_seatingsOf_22 : decode cX7_seatingsOf 22 = .ok (.invokestatic 183, 3) := by decide +kernel
theorem dX7_seatingsOf_25 : decode cX7_seatingsOf 25 = .ok (.istore_n 3, 1) := by decide +kernel
theorem dX7_seatingsOf_26 : decode cX7_seatingsOf 26 = .ok (.aload_n 0, 1) := by decide +kernel
theorem dX7_seatingsOf_27 : decode cX7_seatingsOf 27 = .ok (.getfield 31, 3) := by decide +kernel
theorem dX7_seatingsOf_30 : decode cX7_seatingsOf 30 = .ok (.astore 4, 2) := by decide +kernel
theorem dX7_seatingsOf_32 : decode cX7_seatingsOf 32 = .ok (.iconst 0, 1) := by decide +kernel
theorem dX7_seatingsOf_33 : decode cX7_seatingsOf 33 = .ok (.istore 5, 2) := by decide +kernel
theorem dX7_seatingsOf_35 : decode cX7_seatingsOf 35 = .ok (.iload_n 1, 1) := by decide +kernel
theorem dX7_seatingsOf_36 : decode cX7_seatingsOf 36 = .ok (.istore 6, 2) := by decide +kernel
theorem dX7_seatingsOf_38 : decode cX7_seatingsOf 38 = .ok (.iconst 0, 1) := by decide +kernel
theorem dX7_seatingsOf_39 : decode cX7_seatingsOf 39 = .ok (.istore 7, 2) := by decide +kernel
theorem dX7_seatingsOf_41 : decode cX7_seatingsOf 41 = .ok (.aload_n 0, 1) := by decide +kernel
theorem dX7_seatingsOf_42 : decode cX7_seatingsOf 42 = .ok (.getfield 103, 3) := by decide +kernel
theorem dX7_seatingsOf_45 : decode cX7_seatingsOf 45 = .ok (.iload_n 3, 1) := by decide +kernel
theorem dX7_seatingsOf_46 : decode cX7_seatingsOf 46 = .ok (.isub, 1) := by decide +kernel
theorem dX7_seatingsOf_47 : decode cX7_seatingsOf 47 = .ok (.istore 8, 2) := by decide +kernel
theorem dX7_seatingsOf_49 : decode cX7_seatingsOf 49 = .ok (.iload 8, 2) := by decide +kernel
theorem dX7_seatingsOf_51 : decode cX7_seatingsOf 51 = .ok (.ifCond .ge 5, 3) := by decide +kernel
theorem dX7_seatingsOf_54 : decode cX7_seatingsOf 54 = .ok (.iconst 0, 1) := by decide +kernel
theorem dX7_seatingsOf_55 : decode cX7_seatingsOf 55 = .ok (.ireturn, 1) := by decide +kernel
theorem dX7_seatingsOf_56 : decode cX7_seatingsOf 56 = .ok (.aload 4, 2) := by decide +kernel
theorem dX7_seatingsOf_58 : decode cX7_seatingsOf 58 = .ok (.iconst 0, 1) := by decide +kernel
theorem dX7_seatingsOf_59 : decode cX7_seatingsOf 59 = .ok (.bipush (-2), 2) := by decide +kernel
theorem dX7_seatingsOf_61 : decode cX7_seatingsOf 61 = .ok (.iastore, 1) := by decide +kernel
theorem dX7_seatingsOf_62 : decode cX7_seatingsOf 62 = .ok (.iload 7, 2) := by decide +kernel
theorem dX7_seatingsOf_64 : decode cX7_seatingsOf 64 = .ok (.ifCond .lt 237, 3) := by decide +kernel
theorem dX7_seatingsOf_67 : decode cX7_seatingsOf 67 = .ok (.aload 4, 2) := by decide +kernel
theorem dX7_seatingsOf_69 : decode cX7_seatingsOf 69 = .ok (.iload 7, 2) := by decide +kernel
theorem dX7_seatingsOf_71 : decode cX7_seatingsOf 71 = .ok (.iaload, 1) := by decide +kernel
theorem dX7_seatingsOf_72 : decode cX7_seatingsOf 72 = .ok (.istore 9, 2) := by decide +kernel
theorem dX7_seatingsOf_74 : decode cX7_seatingsOf 74 = .ok (.iload 9, 2) := by decide +kernel
theorem dX7_seatingsOf_76 : decode cX7_seatingsOf 76 = .ok (.ifCond .lt 12, 3) := by decide +kernel
theorem dX7_seatingsOf_79 : decode cX7_seatingsOf 79 = .ok (.iload 6, 2) := by decide +kernel
theorem dX7_seatingsOf_81 : decode cX7_seatingsOf 81 = .ok (.iconst 1, 1) := by decide +kernel
theorem dX7_seatingsOf_82 : decode cX7_seatingsOf 82 = .ok (.iload 9, 2) := by decide +kernel
theorem dX7_seatingsOf_84 : decode cX7_seatingsOf 84 = .ok (.ishl, 1) := by decide +kernel
theorem dX7_seatingsOf_85 : decode cX7_seatingsOf 85 = .ok (.ior, 1) := by decide +kernel
theorem dX7_seatingsOf_86 : decode cX7_seatingsOf 86 = .ok (.istore 6, 2) := by decide +kernel
theorem dX7_seatingsOf_88 : decode cX7_seatingsOf 88 = .ok (.iload 9, 2) := by decide +kernel
theorem dX7_seatingsOf_90 : decode cX7_seatingsOf 90 = .ok (.iconst (-1), 1) := by decide +kernel
theorem dX7_seatingsOf_91 : decode cX7_seatingsOf 91 = .ok (.if_icmp .ne 6, 3) := by decide +kernel
theorem dX7_seatingsOf_94 : decode cX7_seatingsOf 94 = .ok (.iinc 8 1, 3) := by decide +kernel
theorem dX7_seatingsOf_97 : decode cX7_seatingsOf 97 = .ok (.iload 9, 2) := by decide +kernel
theorem dX7_seatingsOf_99 : decode cX7_seatingsOf 99 = .ok (.iconst 1, 1) := by decide +kernel
theorem dX7_seatingsOf_100 : decode cX7_seatingsOf 100 = .ok (.iadd, 1) := by decide +kernel
theorem dX7_seatingsOf_101 : decode cX7_seatingsOf 101 = .ok (.istore 10, 2) := by decide +kernel
theorem dX7_seatingsOf_103 : decode cX7_seatingsOf 103 = .ok (.iload 10, 2) := by decide +kernel
theorem dX7_seatingsOf_105 : decode cX7_seatingsOf 105 = .ok (.bipush 8, 2) := by decide +kernel
theorem dX7_seatingsOf_107 : decode cX7_seatingsOf 107 = .ok (.if_icmp .ge 33, 3) := by decide +kernel
theorem dX7_seatingsOf_110 : decode cX7_seatingsOf 110 = .ok (.iload 10, 2) := by decide +kernel
theorem dX7_seatingsOf_112 : decode cX7_seatingsOf 112 = .ok (.iconst (-1), 1) := by decide +kernel
theorem dX7_seatingsOf_113 : decode cX7_seatingsOf 113 = .ok (.if_icmp .ne 11, 3) := by decide +kernel
theorem dX7_seatingsOf_116 : decode cX7_seatingsOf 116 = .ok (.iload 8, 2) := by decide +kernel
theorem dX7_seatingsOf_118 : decode cX7_seatingsOf 118 = .ok (.ifCond .ne 22, 3) := by decide +kernel
theorem dX7_seatingsOf_121 : decode cX7_seatingsOf 121 = .ok (.goto 13, 3) := by decide +kernel
theorem dX7_seatingsOf_124 : decode cX7_seatingsOf 124 = .ok (.iload 6, 2) := by decide +kernel
theorem dX7_seatingsOf_126 : decode cX7_seatingsOf 126 = .ok (.iload 10, 2) := by decide +kernel
theorem dX7_seatingsOf_128 : decode cX7_seatingsOf 128 = .ok (.invokestatic 171, 3) := by decide +kernel
theorem dX7_seatingsOf_131 : decode cX7_seatingsOf 131 = .ok (.ifCond .ne 9, 3) := by decide +kernel
theorem dX7_seatingsOf_134 : decode cX7_seatingsOf 134 = .ok (.iinc 10 1, 3) := by decide +kernel
theorem dX7_seatingsOf_137 : decode cX7_seatingsOf 137 = .ok (.goto (-34), 3) := by decide +kernel
theorem dX7_seatingsOf_140 : decode cX7_seatingsOf 140 = .ok (.iload 10, 2) := by decide +kernel
theorem dX7_seatingsOf_142 : decode cX7_seatingsOf 142 = .ok (.bipush 8, 2) := by decide +kernel
theorem dX7_seatingsOf_144 : decode cX7_seatingsOf 144 = .ok (.if_icmp .ne 9, 3) := by decide +kernel
theorem dX7_seatingsOf_147 : decode cX7_seatingsOf 147 = .ok (.iinc 7 (-1), 3) := by decide +kernel
theorem dX7_seatingsOf_150 : decode cX7_seatingsOf 150 = .ok (.goto (-88), 3) := by decide +kernel
theorem dX7_seatingsOf_153 : decode cX7_seatingsOf 153 = .ok (.aload 4, 2) := by decide +kernel
theorem dX7_seatingsOf_155 : decode cX7_seatingsOf 155 = .ok (.iload 7, 2) := by decide +kernel
theorem dX7_seatingsOf_157 : decode cX7_seatingsOf 157 = .ok (.iload 10, 2) := by decide +kernel
theorem dX7_seatingsOf_159 : decode cX7_seatingsOf 159 = .ok (.iastore, 1) := by decide +kernel
theorem dX7_seatingsOf_160 : decode cX7_seatingsOf 160 = .ok (.aload_n 0, 1) := by decide +kernel
theorem dX7_seatingsOf_161 : decode cX7_seatingsOf 161 = .ok (.getfield 22, 3) := by decide +kernel
theorem dX7_seatingsOf_164 : decode cX7_seatingsOf 164 = .ok (.iload 7, 2) := by decide +kernel
theorem dX7_seatingsOf_166 : decode cX7_seatingsOf 166 = .ok (.iload 10, 2) := by decide +kernel
theorem dX7_seatingsOf_168 : decode cX7_seatingsOf 168 = .ok (.iastore, 1) := by decide +kernel
theorem dX7_seatingsOf_169 : decode cX7_seatingsOf 169 = .ok (.iload 10, 2) := by decide +kernel
theorem dX7_seatingsOf_171 : decode cX7_seatingsOf 171 = .ok (.ifCond .lt 17, 3) := by decide +kernel
theorem dX7_seatingsOf_174 : decode cX7_seatingsOf 174 = .ok (.iload 6, 2) := by decide +kernel
theorem dX7_seatingsOf_176 : decode cX7_seatingsOf 176 = .ok (.iconst 1, 1) := by decide +kernel
theorem dX7_seatingsOf_177 : decode cX7_seatingsOf 177 = .ok (.iload 10, 2) := by decide +kernel
theorem dX7_seatingsOf_179 : decode cX7_seatingsOf 179 = .ok (.ishl, 1) := by decide +kernel
theorem dX7_seatingsOf_180 : decode cX7_seatingsOf 180 = .ok (.iconst (-1), 1) := by decide +kernel
theorem dX7_seatingsOf_181 : decode cX7_seatingsOf 181 = .ok (.ixor, 1) := by decide +kernel
theorem dX7_seatingsOf_182 : decode cX7_seatingsOf 182 = .ok (.iand, 1) := by decide +kernel
theorem dX7_seatingsOf_183 : decode cX7_seatingsOf 183 = .ok (.istore 6, 2) := by decide +kernel
theorem dX7_seatingsOf_185 : decode cX7_seatingsOf 185 = .ok (.goto 6, 3) := by decide +kernel
theorem dX7_seatingsOf_188 : decode cX7_seatingsOf 188 = .ok (.iinc 8 (-1), 3) := by decide +kernel
theorem dX7_seatingsOf_191 : decode cX7_seatingsOf 191 = .ok (.iload 7, 2) := by decide +kernel
theorem dX7_seatingsOf_193 : decode cX7_seatingsOf 193 = .ok (.aload_n 0, 1) := by decide +kernel
theorem dX7_seatingsOf_194 : decode cX7_seatingsOf 194 = .ok (.getfield 103, 3) := by decide +kernel
theorem dX7_seatingsOf_197 : decode cX7_seatingsOf 197 = .ok (.iconst 1, 1) := by decide +kernel
theorem dX7_seatingsOf_198 : decode cX7_seatingsOf 198 = .ok (.isub, 1) := by decide +kernel
theorem dX7_seatingsOf_199 : decode cX7_seatingsOf 199 = .ok (.if_icmp .ge 16, 3) := by decide +kernel
theorem dX7_seatingsOf_202 : decode cX7_seatingsOf 202 = .ok (.iinc 7 1, 3) := by decide +kernel
theorem dX7_seatingsOf_205 : decode cX7_seatingsOf 205 = .ok (.aload 4, 2) := by decide +kernel
theorem dX7_seatingsOf_207 : decode cX7_seatingsOf 207 = .ok (.iload 7, 2) := by decide +kernel
theorem dX7_seatingsOf_209 : decode cX7_seatingsOf 209 = .ok (.bipush (-2), 2) := by decide +kernel
theorem dX7_seatingsOf_211 : decode cX7_seatingsOf 211 = .ok (.iastore, 1) := by decide +kernel
theorem dX7_seatingsOf_212 : decode cX7_seatingsOf 212 = .ok (.goto (-150), 3) := by decide +kernel
theorem dX7_seatingsOf_215 : decode cX7_seatingsOf 215 = .ok (.aload_n 0, 1) := by decide +kernel
theorem dX7_seatingsOf_216 : decode cX7_seatingsOf 216 = .ok (.invokevirtual 129, 3) := by decide +kernel
theorem dX7_seatingsOf_219 : decode cX7_seatingsOf 219 = .ok (.ifCond .ne 6, 3) := by decide +kernel
theorem dX7_seatingsOf_222 : decode cX7_seatingsOf 222 = .ok (.goto (-160), 3) := by decide +kernel
theorem dX7_seatingsOf_225 : decode cX7_seatingsOf 225 = .ok (.iconst 0, 1) := by decide +kernel
theorem dX7_seatingsOf_226 : decode cX7_seatingsOf 226 = .ok (.istore 11, 2) := by decide +kernel
theorem dX7_seatingsOf_228 : decode cX7_seatingsOf 228 = .ok (.iload 11, 2) := by decide +kernel
theorem dX7_seatingsOf_230 : decode cX7_seatingsOf 230 = .ok (.aload_n 0, 1) := by decide +kernel
theorem dX7_seatingsOf_231 : decode cX7_seatingsOf 231 = .ok (.getfield 103, 3) := by decide +kernel
theorem dX7_seatingsOf_234 : decode cX7_seatingsOf 234 = .ok (.if_icmp .ge 61, 3) := by decide +kernel
theorem dX7_seatingsOf_237 : decode cX7_seatingsOf 237 = .ok (.aload_n 0, 1) := by decide +kernel
theorem dX7_seatingsOf_238 : decode cX7_seatingsOf 238 = .ok (.getfield 22, 3) := by decide +kernel
theorem dX7_seatingsOf_241 : decode cX7_seatingsOf 241 = .ok (.iload 11, 2) := by decide +kernel
theorem dX7_seatingsOf_243 : decode cX7_seatingsOf 243 = .ok (.iaload, 1) := by decide +kernel
theorem dX7_seatingsOf_244 : decode cX7_seatingsOf 244 = .ok (.ifCond .lt 25, 3) := by decide +kernel
theorem dX7_seatingsOf_247 : decode cX7_seatingsOf 247 = .ok (.aload_n 0, 1) := by decide +kernel
theorem dX7_seatingsOf_248 : decode cX7_seatingsOf 248 = .ok (.getfield 25, 3) := by decide +kernel
theorem dX7_seatingsOf_251 : decode cX7_seatingsOf 251 = .ok (.bipush 8, 2) := by decide +kernel
theorem dX7_seatingsOf_253 : decode cX7_seatingsOf 253 = .ok (.aload_n 0, 1) := by decide +kernel
theorem dX7_seatingsOf_254 : decode cX7_seatingsOf 254 = .ok (.getfield 22, 3) := by decide +kernel
theorem dX7_seatingsOf_257 : decode cX7_seatingsOf 257 = .ok (.iload 11, 2) := by decide +kernel
theorem dX7_seatingsOf_259 : decode cX7_seatingsOf 259 = .ok (.iaload, 1) := by decide +kernel
theorem dX7_seatingsOf_260 : decode cX7_seatingsOf 260 = .ok (.imul, 1) := by decide +kernel
theorem dX7_seatingsOf_261 : decode cX7_seatingsOf 261 = .ok (.iload 11, 2) := by decide +kernel
theorem dX7_seatingsOf_263 : decode cX7_seatingsOf 263 = .ok (.iadd, 1) := by decide +kernel
theorem dX7_seatingsOf_264 : decode cX7_seatingsOf 264 = .ok (.dup2, 1) := by decide +kernel
theorem dX7_seatingsOf_265 : decode cX7_seatingsOf 265 = .ok (.iaload, 1) := by decide +kernel
theorem dX7_seatingsOf_266 : decode cX7_seatingsOf 266 = .ok (.iconst 1, 1) := by decide +kernel
theorem dX7_seatingsOf_267 : decode cX7_seatingsOf 267 = .ok (.iadd, 1) := by decide +kernel
theorem dX7_seatingsOf_268 : decode cX7_seatingsOf 268 = .ok (.iastore, 1) := by decide +kernel
theorem dX7_seatingsOf_269 : decode cX7_seatingsOf 269 = .ok (.iload 5, 2) := by decide +kernel
theorem dX7_seatingsOf_271 : decode cX7_seatingsOf 271 = .ok (.iload_n 2, 1) := by decide +kernel
theorem dX7_seatingsOf_272 : decode cX7_seatingsOf 272 = .ok (.if_icmp .ne 17, 3) := by decide +kernel
theorem dX7_seatingsOf_275 : decode cX7_seatingsOf 275 = .ok (.aload_n 0, 1) := by decide +kernel
theorem dX7_seatingsOf_276 : decode cX7_seatingsOf 276 = .ok (.getfield 28, 3) := by decide +kernel
theorem dX7_seatingsOf_279 : decode cX7_seatingsOf 279 = .ok (.iload 11, 2) := by decide +kernel
theorem dX7_seatingsOf_281 : decode cX7_seatingsOf 281 = .ok (.aload_n 0, 1) := by decide +kernel
theorem dX7_seatingsOf_282 : decode cX7_seatingsOf 282 = .ok (.getfield 22, 3) := by decide +kernel
theorem dX7_seatingsOf_285 : decode cX7_seatingsOf 285 = .ok (.iload 11, 2) := by decide +kernel
theorem dX7_seatingsOf_287 : decode cX7_seatingsOf 287 = .ok (.iaload, 1) := by decide +kernel
theorem dX7_seatingsOf_288 : decode cX7_seatingsOf 288 = .ok (.iastore, 1) := by decide +kernel
theorem dX7_seatingsOf_289 : decode cX7_seatingsOf 289 = .ok (.iinc 11 1, 3) := by decide +kernel
theorem dX7_seatingsOf_292 : decode cX7_seatingsOf 292 = .ok (.goto (-64), 3) := by decide +kernel
theorem dX7_seatingsOf_295 : decode cX7_seatingsOf 295 = .ok (.iinc 5 1, 3) := by decide +kernel
theorem dX7_seatingsOf_298 : decode cX7_seatingsOf 298 = .ok (.goto (-236), 3) := by decide +kernel
theorem dX7_seatingsOf_301 : decode cX7_seatingsOf 301 = .ok (.iload 5, 2) := by decide +kernel
theorem dX7_seatingsOf_303 : decode cX7_seatingsOf 303 = .ok (.ireturn, 1) := by decide +kernel
theorem dX7_wrongSet_0 : decode cX7_wrongSet 0 = .ok (.aload_n 0, 1) := by decide +kernel
theorem dX7_wrongSet_1 : decode cX7_wrongSet 1 = .ok (.iload_n 1, 1) := by decide +kernel
theorem dX7_wrongSet_2 : decode cX7_wrongSet 2 = .ok (.invokevirtual 62, 3) := by decide +kernel
theorem dX7_wrongSet_5 : decode cX7_wrongSet 5 = .ok (.ifCond .eq 14, 3) := by decide +kernel
theorem dX7_wrongSet_8 : decode cX7_wrongSet 8 = .ok (.iload_n 2, 1) := by decide +kernel
theorem dX7_wrongSet_9 : decode cX7_wrongSet 9 = .ok (.invokestatic 186, 3) := by decide +kernel
theorem dX7_wrongSet_12 : decode cX7_wrongSet 12 = .ok (.ifCond .eq 7, 3) := by decide +kernel
theorem dX7_wrongSet_15 : decode cX7_wrongSet 15 = .ok (.iload_n 3, 1) := by decide +kernel
theorem dX7_wrongSet_16 : decode cX7_wrongSet 16 = .ok (.ifCond .ne 8, 3) := by decide +kernel
theorem dX7_wrongSet_19 : decode cX7_wrongSet 19 = .ok (.ldc 46, 2) := by decide +kernel
theorem dX7_wrongSet_21 : decode cX7_wrongSet 21 = .ok (.goto 30, 3) := by decide +kernel
theorem dX7_wrongSet_24 : decode cX7_wrongSet 24 = .ok (.iload_n 2, 1) := by decide +kernel
theorem dX7_wrongSet_25 : decode cX7_wrongSet 25 = .ok (.invokestatic 183, 3) := by decide +kernel
theorem dX7_wrongSet_28 : decode cX7_wrongSet 28 = .ok (.bipush 6, 2) := by decide +kernel
theorem dX7_wrongSet_30 : decode cX7_wrongSet 30 = .ok (.if_icmp .gt 15, 3) := by decide +kernel
theorem dX7_wrongSet_33 : decode cX7_wrongSet 33 = .ok (.iload_n 2, 1) := by decide +kernel
theorem dX7_wrongSet_34 : decode cX7_wrongSet 34 = .ok (.invokestatic 183, 3) := by decide +kernel
theorem dX7_wrongSet_37 : decode cX7_wrongSet 37 = .ok (.aload_n 0, 1) := by decide +kernel
theorem dX7_wrongSet_38 : decode cX7_wrongSet 38 = .ok (.iload_n 1, 1) := by decide +kernel
theorem dX7_wrongSet_39 : decode cX7_wrongSet 39 = .ok (.invokevirtual 66, 3) := by decide +kernel
theorem dX7_wrongSet_42 : decode cX7_wrongSet 42 = .ok (.if_icmp .le 8, 3) := by decide +kernel
theorem dX7_wrongSet_45 : decode cX7_wrongSet 45 = .ok (.ldc 189, 2) := by decide +kernel
theorem dX7_wrongSet_47 : decode cX7_wrongSet 47 = .ok (.goto 4, 3) := by decide +kernel
theorem dX7_wrongSet_50 : decode cX7_wrongSet 50 = .ok (.iconst 0, 1) := by decide +kernel
theorem dX7_wrongSet_51 : decode cX7_wrongSet 51 = .ok (.ireturn, 1) := by decide +kernel
theorem dX7_seatings_0 : decode cX7_seatings 0 = .ok (.aload_n 0, 1) := by decide +kernel
theorem dX7_seatings_1 : decode cX7_seatings 1 = .ok (.iload_n 1, 1) := by decide +kernel
theorem dX7_seatings_2 : decode cX7_seatings 2 = .ok (.iload_n 2, 1) := by decide +kernel
theorem dX7_seatings_3 : decode cX7_seatings 3 = .ok (.iconst 1, 1) := by decide +kernel
theorem dX7_seatings_4 : decode cX7_seatings 4 = .ok (.invokevirtual 190, 3) := by decide +kernel
theorem dX7_seatings_7 : decode cX7_seatings 7 = .ok (.istore_n 3, 1) := by decide +kernel
theorem dX7_seatings_8 : decode cX7_seatings 8 = .ok (.iload_n 3, 1) := by decide +kernel
theorem dX7_seatings_9 : decode cX7_seatings 9 = .ok (.ifCond .ge 9, 3) := by decide +kernel
theorem dX7_seatings_12 : decode cX7_seatings 12 = .ok (.aload_n 0, 1) := by decide +kernel
theorem dX7_seatings_13 : decode cX7_seatings 13 = .ok (.iload_n 3, 1) := by decide +kernel
theorem dX7_seatings_14 : decode cX7_seatings 14 = .ok (.invokevirtual 48, 3) := by decide +kernel
theorem dX7_seatings_17 : decode cX7_seatings 17 = .ok (.ireturn, 1) := by decide +kernel
theorem dX7_seatings_18 : decode cX7_seatings 18 = .ok (.aload_n 0, 1) := by decide +kernel
theorem dX7_seatings_19 : decode cX7_seatings 19 = .ok (.iload_n 1, 1) := by decide +kernel
theorem dX7_seatings_20 : decode cX7_seatings 20 = .ok (.invokevirtual 125, 3) := by decide +kernel
theorem dX7_seatings_23 : decode cX7_seatings 23 = .ok (.aload_n 0, 1) := by decide +kernel
theorem dX7_seatings_24 : decode cX7_seatings 24 = .ok (.iload_n 2, 1) := by decide +kernel
theorem dX7_seatings_25 : decode cX7_seatings 25 = .ok (.iconst (-1), 1) := by decide +kernel
theorem dX7_seatings_26 : decode cX7_seatings 26 = .ok (.invokevirtual 194, 3) := by decide +kernel
theorem dX7_seatings_29 : decode cX7_seatings 29 = .ok (.ireturn, 1) := by decide +kernel
theorem dX7_lay_0 : decode cX7_lay 0 = .ok (.aload_n 0, 1) := by decide +kernel
theorem dX7_lay_1 : decode cX7_lay 1 = .ok (.iload_n 1, 1) := by decide +kernel
theorem dX7_lay_2 : decode cX7_lay 2 = .ok (.iload_n 2, 1) := by decide +kernel
theorem dX7_lay_3 : decode cX7_lay 3 = .ok (.iload_n 3, 1) := by decide +kernel
theorem dX7_lay_4 : decode cX7_lay 4 = .ok (.ifCond .lt 7, 3) := by decide +kernel
theorem dX7_lay_7 : decode cX7_lay 7 = .ok (.iconst 1, 1) := by decide +kernel
theorem dX7_lay_8 : decode cX7_lay 8 = .ok (.goto 4, 3) := by decide +kernel
theorem dX7_lay_11 : decode cX7_lay 11 = .ok (.iconst 0, 1) := by decide +kernel
theorem dX7_lay_12 : decode cX7_lay 12 = .ok (.invokevirtual 190, 3) := by decide +kernel
theorem dX7_lay_15 : decode cX7_lay 15 = .ok (.istore 4, 2) := by decide +kernel
theorem dX7_lay_17 : decode cX7_lay 17 = .ok (.iload 4, 2) := by decide +kernel
theorem dX7_lay_19 : decode cX7_lay 19 = .ok (.ifCond .ge 10, 3) := by decide +kernel
theorem dX7_lay_22 : decode cX7_lay 22 = .ok (.aload_n 0, 1) := by decide +kernel
theorem dX7_lay_23 : decode cX7_lay 23 = .ok (.iload 4, 2) := by decide +kernel
theorem dX7_lay_25 : decode cX7_lay 25 = .ok (.invokevirtual 48, 3) := by decide +kernel
theorem dX7_lay_28 : decode cX7_lay 28 = .ok (.ireturn, 1) := by decide +kernel
theorem dX7_lay_29 : decode cX7_lay 29 = .ok (.aload_n 0, 1) := by decide +kernel
theorem dX7_lay_30 : decode cX7_lay 30 = .ok (.iload_n 1, 1) := by decide +kernel
theorem dX7_lay_31 : decode cX7_lay 31 = .ok (.invokevirtual 125, 3) := by decide +kernel
theorem dX7_lay_34 : decode cX7_lay 34 = .ok (.aload_n 0, 1) := by decide +kernel
theorem dX7_lay_35 : decode cX7_lay 35 = .ok (.iload_n 2, 1) := by decide +kernel
theorem dX7_lay_36 : decode cX7_lay 36 = .ok (.iload_n 3, 1) := by decide +kernel
theorem dX7_lay_37 : decode cX7_lay 37 = .ok (.invokevirtual 194, 3) := by decide +kernel
theorem dX7_lay_40 : decode cX7_lay 40 = .ok (.iload_n 3, 1) := by decide +kernel
theorem dX7_lay_41 : decode cX7_lay 41 = .ok (.if_icmp .gt 10, 3) := by decide +kernel
theorem dX7_lay_44 : decode cX7_lay 44 = .ok (.aload_n 0, 1) := by decide +kernel
theorem dX7_lay_45 : decode cX7_lay 45 = .ok (.ldc 47, 2) := by decide +kernel
theorem dX7_lay_47 : decode cX7_lay 47 = .ok (.invokevirtual 48, 3) := by decide +kernel
theorem dX7_lay_50 : decode cX7_lay 50 = .ok (.ireturn, 1) := by decide +kernel
theorem dX7_lay_51 : decode cX7_lay 51 = .ok (.iconst 0, 1) := by decide +kernel
theorem dX7_lay_52 : decode cX7_lay 52 = .ok (.istore 5, 2) := by decide +kernel
theorem dX7_lay_54 : decode cX7_lay 54 = .ok (.iload 5, 2) := by decide +kernel
theorem dX7_lay_56 : decode cX7_lay 56 = .ok (.bipush 8, 2) := by decide +kernel
theorem dX7_lay_58 : decode cX7_lay 58 = .ok (.if_icmp .ge 25, 3) := by decide +kernel
theorem dX7_lay_61 : decode cX7_lay 61 = .ok (.iload_n 2, 1) := by decide +kernel
theorem dX7_lay_62 : decode cX7_lay 62 = .ok (.iload 5, 2) := by decide +kernel
theorem dX7_lay_64 : decode cX7_lay 64 = .ok (.invokestatic 171, 3) := by decide +kernel
theorem dX7_lay_67 : decode cX7_lay 67 = .ok (.ifCond .eq 10, 3) := by decide +kernel
theorem dX7_lay_70 : decode cX7_lay 70 = .ok (.aload_n 0, 1) := by decide +kernel
theorem dX7_lay_71 : decode cX7_lay 71 = .ok (.iload 5, 2) := by decide +kernel
theorem dX7_lay_73 : decode cX7_lay 73 = .ok (.invokevirtual 158, 3) := by decide +kernel
theorem dX7_lay_76 : decode cX7_lay 76 = .ok (.pop, 1) := by decide +kernel
theorem dX7_lay_77 : decode cX7_lay 77 = .ok (.iinc 5 1, 3) := by decide +kernel
theorem dX7_lay_80 : decode cX7_lay 80 = .ok (.goto (-26), 3) := by decide +kernel
theorem dX7_lay_83 : decode cX7_lay 83 = .ok (.iconst 0, 1) := by decide +kernel
theorem dX7_lay_84 : decode cX7_lay 84 = .ok (.istore 5, 2) := by decide +kernel
theorem dX7_lay_86 : decode cX7_lay 86 = .ok (.iload 5, 2) := by decide +kernel
theorem dX7_lay_88 : decode cX7_lay 88 = .ok (.aload_n 0, 1) := by decide +kernel
theorem dX7_lay_89 : decode cX7_lay 89 = .ok (.getfield 103, 3) := by decide +kernel
theorem dX7_lay_92 : decode cX7_lay 92 = .ok (.if_icmp .ge 23, 3) := by decide +kernel
theorem dX7_lay_95 : decode cX7_lay 95 = .ok (.aload_n 0, 1) := by decide +kernel
theorem dX7_lay_96 : decode cX7_lay 96 = .ok (.getfield 22, 3) := by decide +kernel
theorem dX7_lay_99 : decode cX7_lay 99 = .ok (.iload 5, 2) := by decide +kernel
theorem dX7_lay_101 : decode cX7_lay 101 = .ok (.aload_n 0, 1) := by decide +kernel
theorem dX7_lay_102 : decode cX7_lay 102 = .ok (.getfield 28, 3) := by decide +kernel
theorem dX7_lay_105 : decode cX7_lay 105 = .ok (.iload 5, 2) := by decide +kernel
theorem dX7_lay_107 : decode cX7_lay 107 = .ok (.iaload, 1) := by decide +kernel
theorem dX7_lay_108 : decode cX7_lay 108 = .ok (.iastore, 1) := by decide +kernel
theorem dX7_lay_109 : decode cX7_lay 109 = .ok (.iinc 5 1, 3) := by decide +kernel
theorem dX7_lay_112 : decode cX7_lay 112 = .ok (.goto (-26), 3) := by decide +kernel
theorem dX7_lay_115 : decode cX7_lay 115 = .ok (.aload_n 0, 1) := by decide +kernel
theorem dX7_lay_116 : decode cX7_lay 116 = .ok (.iload_n 1, 1) := by decide +kernel
theorem dX7_lay_117 : decode cX7_lay 117 = .ok (.invokevirtual 197, 3) := by decide +kernel
theorem dX7_lay_120 : decode cX7_lay 120 = .ok (.iconst 1, 1) := by decide +kernel
theorem dX7_lay_121 : decode cX7_lay 121 = .ok (.ireturn, 1) := by decide +kernel
theorem dX7_most_0 : decode cX7_most 0 = .ok (.aload_n 0, 1) := by decide +kernel
theorem dX7_most_1 : decode cX7_most 1 = .ok (.iload_n 1, 1) := by decide +kernel
theorem dX7_most_2 : decode cX7_most 2 = .ok (.invokevirtual 62, 3) := by decide +kernel
theorem dX7_most_5 : decode cX7_most 5 = .ok (.ifCond .eq 10, 3) := by decide +kernel
theorem dX7_most_8 : decode cX7_most 8 = .ok (.iload_n 2, 1) := by decide +kernel
theorem dX7_most_9 : decode cX7_most 9 = .ok (.invokestatic 186, 3) := by decide +kernel
theorem dX7_most_12 : decode cX7_most 12 = .ok (.ifCond .ne 10, 3) := by decide +kernel
theorem dX7_most_15 : decode cX7_most 15 = .ok (.aload_n 0, 1) := by decide +kernel
theorem dX7_most_16 : decode cX7_most 16 = .ok (.ldc 46, 2) := by decide +kernel
theorem dX7_most_18 : decode cX7_most 18 = .ok (.invokevirtual 48, 3) := by decide +kernel
theorem dX7_most_21 : decode cX7_most 21 = .ok (.ireturn, 1) := by decide +kernel
theorem dX7_most_22 : decode cX7_most 22 = .ok (.iload_n 2, 1) := by decide +kernel
theorem dX7_most_23 : decode cX7_most 23 = .ok (.invokestatic 183, 3) := by decide +kernel
theorem dX7_most_26 : decode cX7_most 26 = .ok (.bipush 6, 2) := by decide +kernel
theorem dX7_most_28 : decode cX7_most 28 = .ok (.if_icmp .le 10, 3) := by decide +kernel
theorem dX7_most_31 : decode cX7_most 31 = .ok (.aload_n 0, 1) := by decide +kernel
theorem dX7_most_32 : decode cX7_most 32 = .ok (.ldc 189, 2) := by decide +kernel
theorem dX7_most_34 : decode cX7_most 34 = .ok (.invokevirtual 48, 3) := by decide +kernel
theorem dX7_most_37 : decode cX7_most 37 = .ok (.ireturn, 1) := by decide +kernel
theorem dX7_most_38 : decode cX7_most 38 = .ok (.aload_n 0, 1) := by decide +kernel
theorem dX7_most_39 : decode cX7_most 39 = .ok (.iload_n 1, 1) := by decide +kernel
theorem dX7_most_40 : decode cX7_most 40 = .ok (.invokevirtual 125, 3) := by decide +kernel
theorem dX7_most_43 : decode cX7_most 43 = .ok (.iconst 0, 1) := by decide +kernel
theorem dX7_most_44 : decode cX7_most 44 = .ok (.istore_n 3, 1) := by decide +kernel
theorem dX7_most_45 : decode cX7_most 45 = .ok (.iconst 1, 1) := by decide +kernel
theorem dX7_most_46 : decode cX7_most 46 = .ok (.istore 4, 2) := by decide +kernel
theorem dX7_most_48 : decode cX7_most 48 = .ok (.iload 4, 2) := by decide +kernel
theorem dX7_most_50 : decode cX7_most 50 = .ok (.iload_n 2, 1) := by decide +kernel
theorem dX7_most_51 : decode cX7_most 51 = .ok (.if_icmp .gt 46, 3) := by decide +kernel
theorem dX7_most_54 : decode cX7_most 54 = .ok (.iload 4, 2) := by decide +kernel
theorem dX7_most_56 : decode cX7_most 56 = .ok (.iload_n 2, 1) := by decide +kernel
theorem dX7_most_57 : decode cX7_most 57 = .ok (.iconst (-1), 1) := by decide +kernel
theorem dX7_most_58 : decode cX7_most 58 = .ok (.ixor, 1) := by decide +kernel
theorem dX7_most_59 : decode cX7_most 59 = .ok (.iand, 1) := by decide +kernel
theorem dX7_most_60 : decode cX7_most 60 = .ok (.ifCond .ne 31, 3) := by decide +kernel
theorem dX7_most_63 : decode cX7_most 63 = .ok (.iload 4, 2) := by decide +kernel
theorem dX7_most_65 : decode cX7_most 65 = .ok (.invokestatic 183, 3) := by decide +kernel
theorem dX7_most_68 : decode cX7_most 68 = .ok (.iload_n 3, 1) := by decide +kernel
theorem dX7_most_69 : decode cX7_most 69 = .ok (.invokestatic 183, 3) := by decide +kernel
theorem dX7_most_72 : decode cX7_most 72 = .ok (.if_icmp .gt 6, 3) := by decide +kernel
theorem dX7_most_75 : decode cX7_most 75 = .ok (.goto 16, 3) := by decide +kernel
theorem dX7_most_78 : decode cX7_most 78 = .ok (.aload_n 0, 1) := by decide +kernel
theorem dX7_most_79 : decode cX7_most 79 = .ok (.iload 4, 2) := by decide +kernel
theorem dX7_most_81 : decode cX7_most 81 = .ok (.iconst (-1), 1) := by decide +kernel
theorem dX7_most_82 : decode cX7_most 82 = .ok (.invokevirtual 194, 3) := by decide +kernel
theorem dX7_most_85 : decode cX7_most 85 = .ok (.ifCond .le 6, 3) := by decide +kernel
theorem dX7_most_88 : decode cX7_most 88 = .ok (.iload 4, 2) := by decide +kernel
theorem dX7_most_90 : decode cX7_most 90 = .ok (.istore_n 3, 1) := by decide +kernel
theorem dX7_most_91 : decode cX7_most 91 = .ok (.iinc 4 1, 3) := by decide +kernel
theorem dX7_most_94 : decode cX7_most 94 = .ok (.goto (-46), 3) := by decide +kernel
theorem dX7_most_97 : decode cX7_most 97 = .ok (.iload_n 3, 1) := by decide +kernel
theorem dX7_most_98 : decode cX7_most 98 = .ok (.ireturn, 1) := by decide +kernel
theorem dX7_frees_0 : decode cX7_frees 0 = .ok (.aload_n 0, 1) := by decide +kernel
theorem dX7_frees_1 : decode cX7_frees 1 = .ok (.iload_n 1, 1) := by decide +kernel
theorem dX7_frees_2 : decode cX7_frees 2 = .ok (.iload_n 2, 1) := by decide +kernel
theorem dX7_frees_3 : decode cX7_frees 3 = .ok (.iconst 1, 1) := by decide +kernel
theorem dX7_frees_4 : decode cX7_frees 4 = .ok (.invokevirtual 190, 3) := by decide +kernel
theorem dX7_frees_7 : decode cX7_frees 7 = .ok (.istore_n 3, 1) := by decide +kernel
theorem dX7_frees_8 : decode cX7_frees 8 = .ok (.iload_n 3, 1) := by decide +kernel
theorem dX7_frees_9 : decode cX7_frees 9 = .ok (.ifCond .ge 9, 3) := by decide +kernel
theorem dX7_frees_12 : decode cX7_frees 12 = .ok (.aload_n 0, 1) := by decide +kernel
theorem dX7_frees_13 : decode cX7_frees 13 = .ok (.iload_n 3, 1) := by decide +kernel
theorem dX7_frees_14 : decode cX7_frees 14 = .ok (.invokevirtual 48, 3) := by decide +kernel
theorem dX7_frees_17 : decode cX7_frees 17 = .ok (.ireturn, 1) := by decide +kernel
theorem dX7_frees_18 : decode cX7_frees 18 = .ok (.aload_n 0, 1) := by decide +kernel
theorem dX7_frees_19 : decode cX7_frees 19 = .ok (.iload_n 1, 1) := by decide +kernel
theorem dX7_frees_20 : decode cX7_frees 20 = .ok (.invokevirtual 125, 3) := by decide +kernel
theorem dX7_frees_23 : decode cX7_frees 23 = .ok (.iconst (-1), 1) := by decide +kernel
theorem dX7_frees_24 : decode cX7_frees 24 = .ok (.istore 4, 2) := by decide +kernel
theorem dX7_frees_26 : decode cX7_frees 26 = .ok (.iconst 0, 1) := by decide +kernel
theorem dX7_frees_27 : decode cX7_frees 27 = .ok (.istore 5, 2) := by decide +kernel
theorem dX7_frees_29 : decode cX7_frees 29 = .ok (.iconst 0, 1) := by decide +kernel
theorem dX7_frees_30 : decode cX7_frees 30 = .ok (.istore 6, 2) := by decide +kernel
theorem dX7_frees_32 : decode cX7_frees 32 = .ok (.iload 6, 2) := by decide +kernel
theorem dX7_frees_34 : decode cX7_frees 34 = .ok (.bipush 8, 2) := by decide +kernel
theorem dX7_frees_36 : decode cX7_frees 36 = .ok (.if_icmp .ge 126, 3) := by decide +kernel
theorem dX7_frees_39 : decode cX7_frees 39 = .ok (.iload 6, 2) := by decide +kernel
theorem dX7_frees_41 : decode cX7_frees 41 = .ok (.iconst 1, 1) := by decide +kernel
theorem dX7_frees_42 : decode cX7_frees 42 = .ok (.iadd, 1) := by decide +kernel
theorem dX7_frees_43 : decode cX7_frees 43 = .ok (.istore 7, 2) := by decide +kernel
theorem dX7_frees_45 : decode cX7_frees 45 = .ok (.iload 7, 2) := by decide +kernel
theorem dX7_frees_47 : decode cX7_frees 47 = .ok (.bipush 8, 2) := by decide +kernel
theorem dX7_frees_49 : decode cX7_frees 49 = .ok (.if_icmp .ge 107, 3) := by decide +kernel
theorem dX7_frees_52 : decode cX7_frees 52 = .ok (.iload_n 2, 1) := by decide +kernel
theorem dX7_frees_53 : decode cX7_frees 53 = .ok (.iload 6, 2) := by decide +kernel
theorem dX7_frees_55 : decode cX7_frees 55 = .ok (.invokestatic 171, 3) := by decide +kernel
theorem dX7_frees_58 : decode cX7_frees 58 = .ok (.ifCond .eq 92, 3) := by decide +kernel
theorem dX7_frees_61 : decode cX7_frees 61 = .ok (.iload_n 2, 1) := by decide +kernel
theorem dX7_frees_62 : decode cX7_frees 62 = .ok (.iload 7, 2) := by decide +kernel
theorem dX7_frees_64 : decode cX7_frees 64 = .ok (.invokestatic 171, 3) := by decide +kernel
theorem dX7_frees_67 : decode cX7_frees 67 = .ok (.ifCond .eq 83, 3) := by decide +kernel
theorem dX7_frees_70 : decode cX7_frees 70 = .ok (.aload_n 0, 1) := by decide +kernel
theorem dX7_frees_71 : decode cX7_frees 71 = .ok (.iload 6, 2) := by decide +kernel
theorem dX7_frees_73 : decode cX7_frees 73 = .ok (.iload 7, 2) := by decide +kernel
theorem dX7_frees_75 : decode cX7_frees 75 = .ok (.invokevirtual 93, 3) := by decide +kernel
theorem dX7_frees_78 : decode cX7_frees 78 = .ok (.ifCond .ne 6, 3) := by decide +kernel
theorem dX7_frees_81 : decode cX7_frees 81 = .ok (.goto 69, 3) := by decide +kernel
theorem dX7_frees_84 : decode cX7_frees 84 = .ok (.aload_n 0, 1) := by decide +kernel
theorem dX7_frees_85 : decode cX7_frees 85 = .ok (.iload 6, 2) := by decide +kernel
theorem dX7_frees_87 : decode cX7_frees 87 = .ok (.iload 7, 2) := by decide +kernel
theorem dX7_frees_89 : decode cX7_frees 89 = .ok (.invokevirtual 72, 3) := by decide +kernel
theorem dX7_frees_92 : decode cX7_frees 92 = .ok (.istore 8, 2) := by decide +kernel
theorem dX7_frees_94 : decode cX7_frees 94 = .ok (.aload_n 0, 1) := by decide +kernel
theorem dX7_frees_95 : decode cX7_frees 95 = .ok (.iload 6, 2) := by decide +kernel
theorem dX7_frees_97 : decode cX7_frees 97 = .ok (.iload 7, 2) := by decide +kernel
theorem dX7_frees_99 : decode cX7_frees 99 = .ok (.iconst 0, 1) := by decide +kernel
theorem dX7_frees_100 : decode cX7_frees 100 = .ok (.invokevirtual 82, 3) := by decide +kernel
theorem dX7_frees_103 : decode cX7_frees 103 = .ok (.aload_n 0, 1) := by decide +kernel
theorem dX7_frees_104 : decode cX7_frees 104 = .ok (.iload_n 2, 1) := by decide +kernel
theorem dX7_frees_105 : decode cX7_frees 105 = .ok (.iconst (-1), 1) := by decide +kernel
theorem dX7_frees_106 : decode cX7_frees 106 = .ok (.invokevirtual 194, 3) := by decide +kernel
theorem dX7_frees_109 : decode cX7_frees 109 = .ok (.istore 9, 2) := by decide +kernel
theorem dX7_frees_111 : decode cX7_frees 111 = .ok (.aload_n 0, 1) := by decide +kernel
theorem dX7_frees_112 : decode cX7_frees 112 = .ok (.iload 6, 2) := by decide +kernel
theorem dX7_frees_114 : decode cX7_frees 114 = .ok (.iload 7, 2) := by decide +kernel
theorem dX7_frees_116 : decode cX7_frees 116 = .ok (.iload 8, 2) := by decide +kernel
theorem dX7_frees_118 : decode cX7_frees 118 = .ok (.invokevirtual 82, 3) := by decide +kernel
theorem dX7_frees_121 : decode cX7_frees 121 = .ok (.iload 4, 2) := by decide +kernel
theorem dX7_frees_123 : decode cX7_frees 123 = .ok (.ifCond .lt 13, 3) := by decide +kernel
theorem dX7_frees_126 : decode cX7_frees 126 = .ok (.iload 9, 2) := by decide +kernel
theorem dX7_frees_128 : decode cX7_frees 128 = .ok (.iload 5, 2) := by decide +kernel
theorem dX7_frees_130 : decode cX7_frees 130 = .ok (.if_icmp .gt 6, 3) := by decide +kernel
theorem dX7_frees_133 : decode cX7_frees 133 = .ok (.goto 17, 3) := by decide +kernel
theorem dX7_frees_136 : decode cX7_frees 136 = .ok (.bipush 10, 2) := by decide +kernel
theorem dX7_frees_138 : decode cX7_frees 138 = .ok (.iload 6, 2) := by decide +kernel
theorem dX7_frees_140 : decode cX7_frees 140 = .ok (.imul, 1) := by decide +kernel
theorem dX7_frees_141 : decode cX7_frees 141 = .ok (.iload 7, 2) := by decide +kernel
theorem dX7_frees_143 : decode cX7_frees 143 = .ok (.iadd, 1) := by decide +kernel
theorem dX7_frees_144 : decode cX7_frees 144 = .ok (.istore 4, 2) := by decide +kernel
theorem dX7_frees_146 : decode cX7_frees 146 = .ok (.iload 9, 2) := by decide +kernel
theorem dX7_frees_148 : decode cX7_frees 148 = .ok (.istore 5, 2) := by decide +kernel
theorem dX7_frees_150 : decode cX7_frees 150 = .ok (.iinc 7 1, 3) := by decide +kernel
theorem dX7_frees_153 : decode cX7_frees 153 = .ok (.goto (-108), 3) := by decide +kernel
theorem dX7_frees_156 : decode cX7_frees 156 = .ok (.iinc 6 1, 3) := by decide +kernel
theorem dX7_frees_159 : decode cX7_frees 159 = .ok (.goto (-127), 3) := by decide +kernel
theorem dX7_frees_162 : decode cX7_frees 162 = .ok (.aload_n 0, 1) := by decide +kernel
theorem dX7_frees_163 : decode cX7_frees 163 = .ok (.iload 4, 2) := by decide +kernel
theorem dX7_frees_165 : decode cX7_frees 165 = .ok (.invokevirtual 151, 3) := by decide +kernel
theorem dX7_frees_168 : decode cX7_frees 168 = .ok (.ireturn, 1) := by decide +kernel
theorem dX7_often_0 : decode cX7_often 0 = .ok (.aload_n 0, 1) := by decide +kernel
theorem dX7_often_1 : decode cX7_often 1 = .ok (.iload_n 1, 1) := by decide +kernel
theorem dX7_often_2 : decode cX7_often 2 = .ok (.iload_n 2, 1) := by decide +kernel
theorem dX7_often_3 : decode cX7_often 3 = .ok (.aload_n 0, 1) := by decide +kernel
theorem dX7_often_4 : decode cX7_often 4 = .ok (.iload_n 1, 1) := by decide +kernel
theorem dX7_often_5 : decode cX7_often 5 = .ok (.iload 4, 2) := by decide +kernel
theorem dX7_often_7 : decode cX7_often 7 = .ok (.invokevirtual 148, 3) := by decide +kernel
theorem dX7_often_10 : decode cX7_often 10 = .ok (.ifCond .eq 22, 3) := by decide +kernel
theorem dX7_often_13 : decode cX7_often 13 = .ok (.iload_n 3, 1) := by decide +kernel
theorem dX7_often_14 : decode cX7_often 14 = .ok (.invokestatic 69, 3) := by decide +kernel
theorem dX7_often_17 : decode cX7_often 17 = .ok (.ifCond .eq 15, 3) := by decide +kernel
theorem dX7_often_20 : decode cX7_often 20 = .ok (.iload_n 2, 1) := by decide +kernel
theorem dX7_often_21 : decode cX7_often 21 = .ok (.iload_n 3, 1) := by decide +kernel
theorem dX7_often_22 : decode cX7_often 22 = .ok (.invokestatic 171, 3) := by decide +kernel
theorem dX7_often_25 : decode cX7_often 25 = .ok (.ifCond .eq 7, 3) := by decide +kernel
theorem dX7_often_28 : decode cX7_often 28 = .ok (.iconst 1, 1) := by decide +kernel
theorem dX7_often_29 : decode cX7_often 29 = .ok (.goto 4, 3) := by decide +kernel
theorem dX7_often_32 : decode cX7_often 32 = .ok (.iconst 0, 1) := by decide +kernel
theorem dX7_often_33 : decode cX7_often 33 = .ok (.invokevirtual 190, 3) := by decide +kernel
theorem dX7_often_36 : decode cX7_often 36 = .ok (.istore 5, 2) := by decide +kernel
theorem dX7_often_38 : decode cX7_often 38 = .ok (.iload 5, 2) := by decide +kernel
theorem dX7_often_40 : decode cX7_often 40 = .ok (.ifCond .ge 10, 3) := by decide +kernel
theorem dX7_often_43 : decode cX7_often 43 = .ok (.aload_n 0, 1) := by decide +kernel
theorem dX7_often_44 : decode cX7_often 44 = .ok (.iload 5, 2) := by decide +kernel
theorem dX7_often_46 : decode cX7_often 46 = .ok (.invokevirtual 48, 3) := by decide +kernel
theorem dX7_often_49 : decode cX7_often 49 = .ok (.ireturn, 1) := by decide +kernel
theorem dX7_often_50 : decode cX7_often 50 = .ok (.aload_n 0, 1) := by decide +kernel
theorem dX7_often_51 : decode cX7_often 51 = .ok (.iload_n 1, 1) := by decide +kernel
theorem dX7_often_52 : decode cX7_often 52 = .ok (.invokevirtual 125, 3) := by decide +kernel
theorem dX7_often_55 : decode cX7_often 55 = .ok (.aload_n 0, 1) := by decide +kernel
theorem dX7_often_56 : decode cX7_often 56 = .ok (.iload_n 2, 1) := by decide +kernel
theorem dX7_often_57 : decode cX7_often 57 = .ok (.iconst (-1), 1) := by decide +kernel
theorem dX7_often_58 : decode cX7_often 58 = .ok (.invokevirtual 194, 3) := by decide +kernel
theorem dX7_often_61 : decode cX7_often 61 = .ok (.pop, 1) := by decide +kernel
theorem dX7_often_62 : decode cX7_often 62 = .ok (.aload_n 0, 1) := by decide +kernel
theorem dX7_often_63 : decode cX7_often 63 = .ok (.getfield 25, 3) := by decide +kernel
theorem dX7_often_66 : decode cX7_often 66 = .ok (.bipush 8, 2) := by decide +kernel
theorem dX7_often_68 : decode cX7_often 68 = .ok (.iload_n 3, 1) := by decide +kernel
theorem dX7_often_69 : decode cX7_often 69 = .ok (.imul, 1) := by decide +kernel
theorem dX7_often_70 : decode cX7_often 70 = .ok (.iload 4, 2) := by decide +kernel
theorem dX7_often_72 : decode cX7_often 72 = .ok (.iadd, 1) := by decide +kernel
theorem dX7_often_73 : decode cX7_often 73 = .ok (.iaload, 1) := by decide +kernel
theorem dX7_often_74 : decode cX7_often 74 = .ok (.ireturn, 1) := by decide +kernel
theorem dX7_needs_0 : decode cX7_needs 0 = .ok (.aload_n 0, 1) := by decide +kernel
theorem dX7_needs_1 : decode cX7_needs 1 = .ok (.iload_n 1, 1) := by decide +kernel
theorem dX7_needs_2 : decode cX7_needs 2 = .ok (.invokevirtual 62, 3) := by decide +kernel
theorem dX7_needs_5 : decode cX7_needs 5 = .ok (.ifCond .eq 10, 3) := by decide +kernel
theorem dX7_needs_8 : decode cX7_needs 8 = .ok (.iload_n 2, 1) := by decide +kernel
theorem dX7_needs_9 : decode cX7_needs 9 = .ok (.invokestatic 186, 3) := by decide +kernel
theorem dX7_needs_12 : decode cX7_needs 12 = .ok (.ifCond .ne 10, 3) := by decide +kernel
theorem dX7_needs_15 : decode cX7_needs 15 = .ok (.aload_n 0, 1) := by decide +kernel
theorem dX7_needs_16 : decode cX7_needs 16 = .ok (.ldc 46, 2) := by decide +kernel
theorem dX7_needs_18 : decode cX7_needs 18 = .ok (.invokevirtual 48, 3) := by decide +kernel
theorem dX7_needs_21 : decode cX7_needs 21 = .ok (.ireturn, 1) := by decide +kernel
theorem dX7_needs_22 : decode cX7_needs 22 = .ok (.iload_n 2, 1) := by decide +kernel
theorem dX7_needs_23 : decode cX7_needs 23 = .ok (.invokestatic 183, 3) := by decide +kernel
theorem dX7_needs_26 : decode cX7_needs 26 = .ok (.bipush 6, 2) := by decide +kernel
theorem dX7_needs_28 : decode cX7_needs 28 = .ok (.if_icmp .le 10, 3) := by decide +kernel
theorem dX7_needs_31 : decode cX7_needs 31 = .ok (.aload_n 0, 1) := by decide +kernel
theorem dX7_needs_32 : decode cX7_needs 32 = .ok (.ldc 189, 2) := by decide +kernel
theorem dX7_needs_34 : decode cX7_needs 34 = .ok (.invokevirtual 48, 3) := by decide +kernel
theorem dX7_needs_37 : decode cX7_needs 37 = .ok (.ireturn, 1) := by decide +kernel
theorem dX7_needs_38 : decode cX7_needs 38 = .ok (.aload_n 0, 1) := by decide +kernel
theorem dX7_needs_39 : decode cX7_needs 39 = .ok (.aload_n 0, 1) := by decide +kernel
theorem dX7_needs_40 : decode cX7_needs 40 = .ok (.iload_n 1, 1) := by decide +kernel
theorem dX7_needs_41 : decode cX7_needs 41 = .ok (.invokevirtual 96, 3) := by decide +kernel
theorem dX7_needs_44 : decode cX7_needs 44 = .ok (.putfield 99, 3) := by decide +kernel
theorem dX7_needs_47 : decode cX7_needs 47 = .ok (.aload_n 0, 1) := by decide +kernel
theorem dX7_needs_48 : decode cX7_needs 48 = .ok (.iconst 1, 1) := by decide +kernel
theorem dX7_needs_49 : decode cX7_needs 49 = .ok (.putfield 103, 3) := by decide +kernel
theorem dX7_needs_52 : decode cX7_needs 52 = .ok (.aload_n 0, 1) := by decide +kernel
theorem dX7_needs_53 : decode cX7_needs 53 = .ok (.getfield 103, 3) := by decide +kernel
theorem dX7_needs_56 : decode cX7_needs 56 = .ok (.bipush 8, 2) := by decide +kernel
theorem dX7_needs_58 : decode cX7_needs 58 = .ok (.if_icmp .gt 30, 3) := by decide +kernel
theorem dX7_needs_61 : decode cX7_needs 61 = .ok (.aload_n 0, 1) := by decide +kernel
theorem dX7_needs_62 : decode cX7_needs 62 = .ok (.iload_n 2, 1) := by decide +kernel
theorem dX7_needs_63 : decode cX7_needs 63 = .ok (.iconst (-1), 1) := by decide +kernel
theorem dX7_needs_64 : decode cX7_needs 64 = .ok (.invokevirtual 194, 3) := by decide +kernel
theorem dX7_needs_67 : decode cX7_needs 67 = .ok (.ifCond .le 8, 3) := by decide +kernel
theorem dX7_needs_70 : decode cX7_needs 70 = .ok (.aload_n 0, 1) := by decide +kernel
theorem dX7_needs_71 : decode cX7_needs 71 = .ok (.getfield 103, 3) := by decide +kernel
theorem dX7_needs_74 : decode cX7_needs 74 = .ok (.ireturn, 1) := by decide +kernel
theorem dX7_needs_75 : decode cX7_needs 75 = .ok (.aload_n 0, 1) := by decide +kernel
theorem dX7_needs_76 : decode cX7_needs 76 = .ok (.dup, 1) := by decide +kernel
theorem dX7_needs_77 : decode cX7_needs 77 = .ok (.getfield 103, 3) := by decide +kernel
theorem dX7_needs_80 : decode cX7_needs 80 = .ok (.iconst 1, 1) := by decide +kernel
theorem dX7_needs_81 : decode cX7_needs 81 = .ok (.iadd, 1) := by decide +kernel
theorem dX7_needs_82 : decode cX7_needs 82 = .ok (.putfield 103, 3) := by decide +kernel
theorem dX7_needs_85 : decode cX7_needs 85 = .ok (.goto (-33), 3) := by decide +kernel
theorem dX7_needs_88 : decode cX7_needs 88 = .ok (.aload_n 0, 1) := by decide +kernel
theorem dX7_needs_89 : decode cX7_needs 89 = .ok (.ldc 47, 2) := by decide +kernel
theorem dX7_needs_91 : decode cX7_needs 91 = .ok (.invokevirtual 48, 3) := by decide +kernel
theorem dX7_needs_94 : decode cX7_needs 94 = .ok (.ireturn, 1) := by decide +kernel
theorem dX7_gainOn_0 : decode cX7_gainOn 0 = .ok (.iconst 0, 1) := by decide +kernel
theorem dX7_gainOn_1 : decode cX7_gainOn 1 = .ok (.istore_n 2, 1) := by decide +kernel
theorem dX7_gainOn_2 : decode cX7_gainOn 2 = .ok (.iconst (-1), 1) := by decide +kernel
theorem dX7_gainOn_3 : decode cX7_gainOn 3 = .ok (.istore_n 3, 1) := by decide +kernel
theorem dX7_gainOn_4 : decode cX7_gainOn 4 = .ok (.iload_n 3, 1) := by decide +kernel
theorem dX7_gainOn_5 : decode cX7_gainOn 5 = .ok (.iconst 1, 1) := by decide +kernel
theorem dX7_gainOn_6 : decode cX7_gainOn 6 = .ok (.if_icmp .gt 59, 3) := by decide +kernel
theorem dX7_gainOn_9 : decode cX7_gainOn 9 = .ok (.iload_n 2, 1) := by decide +kernel
theorem dX7_gainOn_10 : decode cX7_gainOn 10 = .ok (.aload_n 0, 1) := by decide +kernel
theorem dX7_gainOn_11 : decode cX7_gainOn 11 = .ok (.iload_n 1, 1) := by decide +kernel
theorem dX7_gainOn_12 : decode cX7_gainOn 12 = .ok (.iload_n 3, 1) := by decide +kernel
theorem dX7_gainOn_13 : decode cX7_gainOn 13 = .ok (.iadd, 1) := by decide +kernel
theorem dX7_gainOn_14 : decode cX7_gainOn 14 = .ok (.invokevirtual 109, 3) := by decide +kernel
theorem dX7_gainOn_17 : decode cX7_gainOn 17 = .ok (.ifCond .eq 39, 3) := by decide +kernel
theorem dX7_gainOn_20 : decode cX7_gainOn 20 = .ok (.aload_n 0, 1) := by decide +kernel
theorem dX7_gainOn_21 : decode cX7_gainOn 21 = .ok (.getfield 22, 3) := by decide +kernel
theorem dX7_gainOn_24 : decode cX7_gainOn 24 = .ok (.iload_n 1, 1) := by decide +kernel
theorem dX7_gainOn_25 : decode cX7_gainOn 25 = .ok (.iload_n 3, 1) := by decide +kernel
theorem dX7_gainOn_26 : decode cX7_gainOn 26 = .ok (.iadd, 1) := by decide +kernel
theorem dX7_gainOn_27 : decode cX7_gainOn 27 = .ok (.iaload, 1) := by decide +kernel
theorem dX7_gainOn_28 : decode cX7_gainOn 28 = .ok (.ifCond .lt 28, 3) := by decide +kernel
theorem dX7_gainOn_31 : decode cX7_gainOn 31 = .ok (.aload_n 0, 1) := by decide +kernel
theorem dX7_gainOn_32 : decode cX7_gainOn 32 = .ok (.aload_n 0, 1) := by decide +kernel
theorem dX7_gainOn_33 : decode cX7_gainOn 33 = .ok (.getfield 22, 3) := by decide +kernel
theorem dX7_gainOn_36 : decode cX7_gainOn 36 = .ok (.iload_n 1, 1) := by decide +kernel
theorem dX7_gainOn_37 : decode cX7_gainOn 37 = .ok (.iaload, 1) := by decide +kernel
theorem dX7_gainOn_38 : decode cX7_gainOn 38 = .ok (.aload_n 0, 1) := by decide +kernel
theorem dX7_gainOn_39 : decode cX7_gainOn 39 = .ok (.getfield 22, 3) := by decide +kernel
theorem dX7_gainOn_42 : decode cX7_gainOn 42 = .ok (.iload_n 1, 1) := by decide +kernel
theorem dX7_gainOn_43 : decode cX7_gainOn 43 = .ok (.iload_n 3, 1) := by decide +kernel
theorem dX7_gainOn_44 : decode cX7_gainOn 44 = .ok (.iadd, 1) := by decide +kernel
theorem dX7_gainOn_45 : decode cX7_gainOn 45 = .ok (.iaload, 1) := by decide +kernel
theorem dX7_gainOn_46 : decode cX7_gainOn 46 = .ok (.invokevirtual 72, 3) := by decide +kernel
theorem dX7_gainOn_49 : decode cX7_gainOn 49 = .ok (.ifCond .le 7, 3) := by decide +kernel
theorem dX7_gainOn_52 : decode cX7_gainOn 52 = .ok (.iconst 1, 1) := by decide +kernel
theorem dX7_gainOn_53 : decode cX7_gainOn 53 = .ok (.goto 4, 3) := by decide +kernel
theorem dX7_gainOn_56 : decode cX7_gainOn 56 = .ok (.iconst 0, 1) := by decide +kernel
theorem dX7_gainOn_57 : decode cX7_gainOn 57 = .ok (.iadd, 1) := by decide +kernel
theorem dX7_gainOn_58 : decode cX7_gainOn 58 = .ok (.istore_n 2, 1) := by decide +kernel
theorem dX7_gainOn_59 : decode cX7_gainOn 59 = .ok (.iinc 3 2, 3) := by decide +kernel
theorem dX7_gainOn_62 : decode cX7_gainOn 62 = .ok (.goto (-58), 3) := by decide +kernel
theorem dX7_gainOn_65 : decode cX7_gainOn 65 = .ok (.iload_n 2, 1) := by decide +kernel
theorem dX7_gainOn_66 : decode cX7_gainOn 66 = .ok (.ireturn, 1) := by decide +kernel
theorem dX7_gain_0 : decode cX7_gain 0 = .ok (.iload_n 1, 1) := by decide +kernel
theorem dX7_gain_1 : decode cX7_gain 1 = .ok (.invokestatic 69, 3) := by decide +kernel
theorem dX7_gain_4 : decode cX7_gain 4 = .ok (.ifCond .ne 10, 3) := by decide +kernel
theorem dX7_gain_7 : decode cX7_gain 7 = .ok (.aload_n 0, 1) := by decide +kernel
theorem dX7_gain_8 : decode cX7_gain 8 = .ok (.ldc 46, 2) := by decide +kernel
theorem dX7_gain_10 : decode cX7_gain 10 = .ok (.invokevirtual 48, 3) := by decide +kernel
theorem dX7_gain_13 : decode cX7_gain 13 = .ok (.ireturn, 1) := by decide +kernel
theorem dX7_gain_14 : decode cX7_gain 14 = .ok (.aload_n 0, 1) := by decide +kernel
theorem dX7_gain_15 : decode cX7_gain 15 = .ok (.iload_n 1, 1) := by decide +kernel
theorem dX7_gain_16 : decode cX7_gain 16 = .ok (.invokevirtual 154, 3) := by decide +kernel
theorem dX7_gain_19 : decode cX7_gain 19 = .ok (.istore_n 2, 1) := by decide +kernel
theorem dX7_gain_20 : decode cX7_gain 20 = .ok (.iload_n 2, 1) := by decide +kernel
theorem dX7_gain_21 : decode cX7_gain 21 = .ok (.ifCond .ge 10, 3) := by decide +kernel
theorem dX7_gain_24 : decode cX7_gain 24 = .ok (.aload_n 0, 1) := by decide +kernel
theorem dX7_gain_25 : decode cX7_gain 25 = .ok (.ldc 157, 2) := by decide +kernel
theorem dX7_gain_27 : decode cX7_gain 27 = .ok (.invokevirtual 48, 3) := by decide +kernel
theorem dX7_gain_30 : decode cX7_gain 30 = .ok (.ireturn, 1) := by decide +kernel
theorem dX7_gain_31 : decode cX7_gain 31 = .ok (.aload_n 0, 1) := by decide +kernel
theorem dX7_gain_32 : decode cX7_gain 32 = .ok (.iload_n 2, 1) := by decide +kernel
theorem dX7_gain_33 : decode cX7_gain 33 = .ok (.bipush 10, 2) := by decide +kernel
theorem dX7_gain_35 : decode cX7_gain 35 = .ok (.idiv, 1) := by decide +kernel
theorem dX7_gain_36 : decode cX7_gain 36 = .ok (.invokevirtual 125, 3) := by decide +kernel
theorem dX7_gain_39 : decode cX7_gain 39 = .ok (.aload_n 0, 1) := by decide +kernel
theorem dX7_gain_40 : decode cX7_gain 40 = .ok (.iload_n 2, 1) := by decide +kernel
theorem dX7_gain_41 : decode cX7_gain 41 = .ok (.bipush 10, 2) := by decide +kernel
theorem dX7_gain_43 : decode cX7_gain 43 = .ok (.irem, 1) := by decide +kernel
theorem dX7_gain_44 : decode cX7_gain 44 = .ok (.invokevirtual 200, 3) := by decide +kernel
theorem dX7_gain_47 : decode cX7_gain 47 = .ok (.ireturn, 1) := by decide +kernel
theorem dX7_worth_0 : decode cX7_worth 0 = .ok (.aload_n 0, 1) := by decide +kernel
theorem dX7_worth_1 : decode cX7_worth 1 = .ok (.iload_n 1, 1) := by decide +kernel
theorem dX7_worth_2 : decode cX7_worth 2 = .ok (.invokevirtual 62, 3) := by decide +kernel
theorem dX7_worth_5 : decode cX7_worth 5 = .ok (.ifCond .ne 10, 3) := by decide +kernel
theorem dX7_worth_8 : decode cX7_worth 8 = .ok (.aload_n 0, 1) := by decide +kernel
theorem dX7_worth_9 : decode cX7_worth 9 = .ok (.ldc 46, 2) := by decide +kernel
theorem dX7_worth_11 : decode cX7_worth 11 = .ok (.invokevirtual 48, 3) := by decide +kernel
theorem dX7_worth_14 : decode cX7_worth 14 = .ok (.ireturn, 1) := by decide +kernel
theorem dX7_worth_15 : decode cX7_worth 15 = .ok (.aload_n 0, 1) := by decide +kernel
theorem dX7_worth_16 : decode cX7_worth 16 = .ok (.iload_n 1, 1) := by decide +kernel
theorem dX7_worth_17 : decode cX7_worth 17 = .ok (.invokevirtual 125, 3) := by decide +kernel
theorem dX7_worth_20 : decode cX7_worth 20 = .ok (.iconst 0, 1) := by decide +kernel
theorem dX7_worth_21 : decode cX7_worth 21 = .ok (.istore_n 2, 1) := by decide +kernel
theorem dX7_worth_22 : decode cX7_worth 22 = .ok (.iconst 0, 1) := by decide +kernel
theorem dX7_worth_23 : decode cX7_worth 23 = .ok (.istore_n 3, 1) := by decide +kernel
theorem dX7_worth_24 : decode cX7_worth 24 = .ok (.iload_n 3, 1) := by decide +kernel
theorem dX7_worth_25 : decode cX7_worth 25 = .ok (.aload_n 0, 1) := by decide +kernel
theorem dX7_worth_26 : decode cX7_worth 26 = .ok (.getfield 103, 3) := by decide +kernel
theorem dX7_worth_29 : decode cX7_worth 29 = .ok (.if_icmp .ge 30, 3) := by decide +kernel
theorem dX7_worth_32 : decode cX7_worth 32 = .ok (.iload_n 2, 1) := by decide +kernel
theorem dX7_worth_33 : decode cX7_worth 33 = .ok (.aload_n 0, 1) := by decide +kernel
theorem dX7_worth_34 : decode cX7_worth 34 = .ok (.getfield 22, 3) := by decide +kernel
theorem dX7_worth_37 : decode cX7_worth 37 = .ok (.iload_n 3, 1) := by decide +kernel
theorem dX7_worth_38 : decode cX7_worth 38 = .ok (.iaload, 1) := by decide +kernel
theorem dX7_worth_39 : decode cX7_worth 39 = .ok (.ifCond .ge 7, 3) := by decide +kernel
theorem dX7_worth_42 : decode cX7_worth 42 = .ok (.iconst 0, 1) := by decide +kernel
theorem dX7_worth_43 : decode cX7_worth 43 = .ok (.goto 8, 3) := by decide +kernel
theorem dX7_worth_46 : decode cX7_worth 46 = .ok (.aload_n 0, 1) := by decide +kernel
theorem dX7_worth_47 : decode cX7_worth 47 = .ok (.iload_n 3, 1) := by decide +kernel
theorem dX7_worth_48 : decode cX7_worth 48 = .ok (.invokevirtual 200, 3) := by decide +kernel
theorem dX7_worth_51 : decode cX7_worth 51 = .ok (.iadd, 1) := by decide +kernel
theorem dX7_worth_52 : decode cX7_worth 52 = .ok (.istore_n 2, 1) := by decide +kernel
theorem dX7_worth_53 : decode cX7_worth 53 = .ok (.iinc 3 1, 3) := by decide +kernel
theorem dX7_worth_56 : decode cX7_worth 56 = .ok (.goto (-32), 3) := by decide +kernel
theorem dX7_worth_59 : decode cX7_worth 59 = .ok (.iload_n 2, 1) := by decide +kernel
theorem dX7_worth_60 : decode cX7_worth 60 = .ok (.ireturn, 1) := by decide +kernel
theorem dX7_changes_0 : decode cX7_changes 0 = .ok (.aload_n 0, 1) := by decide +kernel
theorem dX7_changes_1 : decode cX7_changes 1 = .ok (.getfield 22, 3) := by decide +kernel
theorem dX7_changes_4 : decode cX7_changes 4 = .ok (.iload_n 1, 1) := by decide +kernel
theorem dX7_changes_5 : decode cX7_changes 5 = .ok (.iaload, 1) := by decide +kernel
theorem dX7_changes_6 : decode cX7_changes 6 = .ok (.istore_n 3, 1) := by decide +kernel
theorem dX7_changes_7 : decode cX7_changes 7 = .ok (.aload_n 0, 1) := by decide +kernel
theorem dX7_changes_8 : decode cX7_changes 8 = .ok (.getfield 22, 3) := by decide +kernel
theorem dX7_changes_11 : decode cX7_changes 11 = .ok (.iload_n 1, 1) := by decide +kernel
theorem dX7_changes_12 : decode cX7_changes 12 = .ok (.aload_n 0, 1) := by decide +kernel
theorem dX7_changes_13 : decode cX7_changes 13 = .ok (.getfield 22, 3) := by decide +kernel
theorem dX7_changes_16 : decode cX7_changes 16 = .ok (.iload_n 2, 1) := by decide +kernel
theorem dX7_changes_17 : decode cX7_changes 17 = .ok (.iaload, 1) := by decide +kernel
theorem dX7_changes_18 : decode cX7_changes 18 = .ok (.iastore, 1) := by decide +kernel
theorem dX7_changes_19 : decode cX7_changes 19 = .ok (.aload_n 0, 1) := by decide +kernel
theorem dX7_changes_20 : decode cX7_changes 20 = .ok (.getfield 22, 3) := by decide +kernel
theorem dX7_changes_23 : decode cX7_changes 23 = .ok (.iload_n 2, 1) := by decide +kernel
theorem dX7_changes_24 : decode cX7_changes 24 = .ok (.iload_n 3, 1) := by decide +kernel
theorem dX7_changes_25 : decode cX7_changes 25 = .ok (.iastore, 1) := by decide +kernel
theorem dX7_changes_26 : decode cX7_changes 26 = .ok (.return_, 1) := by decide +kernel
theorem dX7_wouldChange_0 : decode cX7_wouldChange 0 = .ok (.aload_n 0, 1) := by decide +kernel
theorem dX7_wouldChange_1 : decode cX7_wouldChange 1 = .ok (.iload_n 1, 1) := by decide +kernel
theorem dX7_wouldChange_2 : decode cX7_wouldChange 2 = .ok (.invokevirtual 200, 3) := by decide +kernel
theorem dX7_wouldChange_5 : decode cX7_wouldChange 5 = .ok (.istore_n 3, 1) := by decide +kernel
theorem dX7_wouldChange_6 : decode cX7_wouldChange 6 = .ok (.aload_n 0, 1) := by decide +kernel
theorem dX7_wouldChange_7 : decode cX7_wouldChange 7 = .ok (.iload_n 2, 1) := by decide +kernel
theorem dX7_wouldChange_8 : decode cX7_wouldChange 8 = .ok (.invokevirtual 200, 3) := by decide +kernel
theorem dX7_wouldChange_11 : decode cX7_wouldChange 11 = .ok (.istore 4, 2) := by decide +kernel
theorem dX7_wouldChange_13 : decode cX7_wouldChange 13 = .ok (.aload_n 0, 1) := by decide +kernel
theorem dX7_wouldChange_14 : decode cX7_wouldChange 14 = .ok (.iload_n 1, 1) := by decide +kernel
theorem dX7_wouldChange_15 : decode cX7_wouldChange 15 = .ok (.iload_n 2, 1) := by decide +kernel
theorem dX7_wouldChange_16 : decode cX7_wouldChange 16 = .ok (.invokevirtual 203, 3) := by decide +kernel
theorem dX7_wouldChange_19 : decode cX7_wouldChange 19 = .ok (.aload_n 0, 1) := by decide +kernel
theorem dX7_wouldChange_20 : decode cX7_wouldChange 20 = .ok (.iload_n 2, 1) := by decide +kernel
theorem dX7_wouldChange_21 : decode cX7_wouldChange 21 = .ok (.invokevirtual 200, 3) := by decide +kernel
theorem dX7_wouldChange_24 : decode cX7_wouldChange 24 = .ok (.iload_n 3, 1) := by decide +kernel
theorem dX7_wouldChange_25 : decode cX7_wouldChange 25 = .ok (.if_icmp .le 24, 3) := by decide +kernel
theorem dX7_wouldChange_28 : decode cX7_wouldChange 28 = .ok (.aload_n 0, 1) := by decide +kernel
theorem dX7_wouldChange_29 : decode cX7_wouldChange 29 = .ok (.iload_n 1, 1) := by decide +kernel
theorem dX7_wouldChange_30 : decode cX7_wouldChange 30 = .ok (.invokevirtual 200, 3) := by decide +kernel
theorem dX7_wouldChange_33 : decode cX7_wouldChange 33 = .ok (.iload 4, 2) := by decide +kernel
theorem dX7_wouldChange_35 : decode cX7_wouldChange 35 = .ok (.if_icmp .le 14, 3) := by decide +kernel
theorem dX7_wouldChange_38 : decode cX7_wouldChange 38 = .ok (.aload_n 0, 1) := by decide +kernel
theorem dX7_wouldChange_39 : decode cX7_wouldChange 39 = .ok (.invokevirtual 129, 3) := by decide +kernel
theorem dX7_wouldChange_42 : decode cX7_wouldChange 42 = .ok (.ifCond .eq 7, 3) := by decide +kernel
theorem dX7_wouldChange_45 : decode cX7_wouldChange 45 = .ok (.iconst 1, 1) := by decide +kernel
theorem dX7_wouldChange_46 : decode cX7_wouldChange 46 = .ok (.goto 4, 3) := by decide +kernel
theorem dX7_wouldChange_49 : decode cX7_wouldChange 49 = .ok (.iconst 0, 1) := by decide +kernel
theorem dX7_wouldChange_50 : decode cX7_wouldChange 50 = .ok (.istore 5, 2) := by decide +kernel
theorem dX7_wouldChange_52 : decode cX7_wouldChange 52 = .ok (.aload_n 0, 1) := by decide +kernel
theorem dX7_wouldChange_53 : decode cX7_wouldChange 53 = .ok (.iload_n 1, 1) := by decide +kernel
theorem dX7_wouldChange_54 : decode cX7_wouldChange 54 = .ok (.iload_n 2, 1) := by decide +kernel
theorem dX7_wouldChange_55 : decode cX7_wouldChange 55 = .ok (.invokevirtual 203, 3) := by decide +kernel
theorem dX7_wouldChange_58 : decode cX7_wouldChange 58 = .ok (.iload 5, 2) := by decide +kernel
theorem dX7_wouldChange_60 : decode cX7_wouldChange 60 = .ok (.ireturn, 1) := by decide +kernel
theorem dX7_seatOf_0 : decode cX7_seatOf 0 = .ok (.iconst 0, 1) := by decide +kernel
theorem dX7_seatOf_1 : decode cX7_seatOf 1 = .ok (.istore_n 2, 1) := by decide +kernel
theorem dX7_seatOf_2 : decode cX7_seatOf 2 = .ok (.iload_n 2, 1) := by decide +kernel
theorem dX7_seatOf_3 : decode cX7_seatOf 3 = .ok (.aload_n 0, 1) := by decide +kernel
theorem dX7_seatOf_4 : decode cX7_seatOf 4 = .ok (.getfield 103, 3) := by decide +kernel
theorem dX7_seatOf_7 : decode cX7_seatOf 7 = .ok (.if_icmp .ge 21, 3) := by decide +kernel
theorem dX7_seatOf_10 : decode cX7_seatOf 10 = .ok (.aload_n 0, 1) := by decide +kernel
theorem dX7_seatOf_11 : decode cX7_seatOf 11 = .ok (.getfield 22, 3) := by decide +kernel
theorem dX7_seatOf_14 : decode cX7_seatOf 14 = .ok (.iload_n 2, 1) := by decide +kernel
theorem dX7_seatOf_15 : decode cX7_seatOf 15 = .ok (.iaload, 1) := by decide +kernel
theorem dX7_seatOf_16 : decode cX7_seatOf 16 = .ok (.iload_n 1, 1) := by decide +kernel
theorem dX7_seatOf_17 : decode cX7_seatOf 17 = .ok (.if_icmp .ne 5, 3) := by decide +kernel
theorem dX7_seatOf_20 : decode cX7_seatOf 20 = .ok (.iload_n 2, 1) := by decide +kernel
theorem dX7_seatOf_21 : decode cX7_seatOf 21 = .ok (.ireturn, 1) := by decide +kernel
theorem dX7_seatOf_22 : decode cX7_seatOf 22 = .ok (.iinc 2 1, 3) := by decide +kernel
theorem dX7_seatOf_25 : decode cX7_seatOf 25 = .ok (.goto (-23), 3) := by decide +kernel
theorem dX7_seatOf_28 : decode cX7_seatOf 28 = .ok (.iconst (-1), 1) := by decide +kernel
theorem dX7_seatOf_29 : decode cX7_seatOf 29 = .ok (.ireturn, 1) := by decide +kernel
theorem dX7_exchange_0 : decode cX7_exchange 0 = .ok (.aload_n 0, 1) := by decide +kernel
theorem dX7_exchange_1 : decode cX7_exchange 1 = .ok (.iload_n 1, 1) := by decide +kernel
theorem dX7_exchange_2 : decode cX7_exchange 2 = .ok (.invokevirtual 62, 3) := by decide +kernel
theorem dX7_exchange_5 : decode cX7_exchange 5 = .ok (.ifCond .ne 10, 3) := by decide +kernel
theorem dX7_exchange_8 : decode cX7_exchange 8 = .ok (.aload_n 0, 1) := by decide +kernel
theorem dX7_exchange_9 : decode cX7_exchange 9 = .ok (.ldc 46, 2) := by decide +kernel
theorem dX7_exchange_11 : decode cX7_exchange 11 = .ok (.invokevirtual 48, 3) := by decide +kernel
theorem dX7_exchange_14 : decode cX7_exchange 14 = .ok (.ireturn, 1) := by decide +kernel
theorem dX7_exchange_15 : decode cX7_exchange 15 = .ok (.aload_n 0, 1) := by decide +kernel
theorem dX7_exchange_16 : decode cX7_exchange 16 = .ok (.iload_n 1, 1) := by decide +kernel
theorem dX7_exchange_17 : decode cX7_exchange 17 = .ok (.invokevirtual 125, 3) := by decide +kernel
theorem dX7_exchange_20 : decode cX7_exchange 20 = .ok (.iconst 0, 1) := by decide +kernel
theorem dX7_exchange_21 : decode cX7_exchange 21 = .ok (.istore_n 2, 1) := by decide +kernel
theorem dX7_exchange_22 : decode cX7_exchange 22 = .ok (.iload_n 2, 1) := by decide +kernel
theorem dX7_exchange_23 : decode cX7_exchange 23 = .ok (.bipush 8, 2) := by decide +kernel
theorem dX7_exchange_25 : decode cX7_exchange 25 = .ok (.if_icmp .ge 83, 3) := by decide +kernel
theorem dX7_exchange_28 : decode cX7_exchange 28 = .ok (.iload_n 2, 1) := by decide +kernel
theorem dX7_exchange_29 : decode cX7_exchange 29 = .ok (.iconst 1, 1) := by decide +kernel
theorem dX7_exchange_30 : decode cX7_exchange 30 = .ok (.iadd, 1) := by decide +kernel
theorem dX7_exchange_31 : decode cX7_exchange 31 = .ok (.istore_n 3, 1) := by decide +kernel
theorem dX7_exchange_32 : decode cX7_exchange 32 = .ok (.iload_n 3, 1) := by decide +kernel
theorem dX7_exchange_33 : decode cX7_exchange 33 = .ok (.bipush 8, 2) := by decide +kernel
theorem dX7_exchange_35 : decode cX7_exchange 35 = .ok (.if_icmp .ge 67, 3) := by decide +kernel
theorem dX7_exchange_38 : decode cX7_exchange 38 = .ok (.aload_n 0, 1) := by decide +kernel
theorem dX7_exchange_39 : decode cX7_exchange 39 = .ok (.iload_n 2, 1) := by decide +kernel
theorem dX7_exchange_40 : decode cX7_exchange 40 = .ok (.invokevirtual 206, 3) := by decide +kernel
theorem dX7_exchange_43 : decode cX7_exchange 43 = .ok (.istore 4, 2) := by decide +kernel
theorem dX7_exchange_45 : decode cX7_exchange 45 = .ok (.aload_n 0, 1) := by decide +kernel
theorem dX7_exchange_46 : decode cX7_exchange 46 = .ok (.iload_n 3, 1) := by decide +kernel
theorem dX7_exchange_47 : decode cX7_exchange 47 = .ok (.invokevirtual 206, 3) := by decide +kernel
theorem dX7_exchange_50 : decode cX7_exchange 50 = .ok (.istore 5, 2) := by decide +kernel
theorem dX7_exchange_52 : decode cX7_exchange 52 = .ok (.iload 4, 2) := by decide +kernel
theorem dX7_exchange_54 : decode cX7_exchange 54 = .ok (.ifCond .lt 42, 3) := by decide +kernel
theorem dX7_exchange_57 : decode cX7_exchange 57 = .ok (.iload 5, 2) := by decide +kernel
theorem dX7_exchange_59 : decode cX7_exchange 59 = .ok (.ifCond .lt 37, 3) := by decide +kernel
theorem dX7_exchange_62 : decode cX7_exchange 62 = .ok (.aload_n 0, 1) := by decide +kernel
theorem dX7_exchange_63 : decode cX7_exchange 63 = .ok (.iload 4, 2) := by decide +kernel
theorem dX7_exchange_65 : decode cX7_exchange 65 = .ok (.iload 5, 2) := by decide +kernel
theorem dX7_exchange_67 : decode cX7_exchange 67 = .ok (.invokevirtual 209, 3) := by decide +kernel
theorem dX7_exchange_70 : decode cX7_exchange 70 = .ok (.ifCond .ne 6, 3) := by decide +kernel
theorem dX7_exchange_73 : decode cX7_exchange 73 = .ok (.goto 23, 3) := by decide +kernel
theorem dX7_exchange_76 : decode cX7_exchange 76 = .ok (.aload_n 0, 1) := by decide +kernel
theorem dX7_exchange_77 : decode cX7_exchange 77 = .ok (.iload 4, 2) := by decide +kernel
theorem dX7_exchange_79 : decode cX7_exchange 79 = .ok (.iload 5, 2) := by decide +kernel
theorem dX7_exchange_81 : decode cX7_exchange 81 = .ok (.invokevirtual 203, 3) := by decide +kernel
theorem dX7_exchange_84 : decode cX7_exchange 84 = .ok (.aload_n 0, 1) := by decide +kernel
theorem dX7_exchange_85 : decode cX7_exchange 85 = .ok (.iload_n 1, 1) := by decide +kernel
theorem dX7_exchange_86 : decode cX7_exchange 86 = .ok (.invokevirtual 197, 3) := by decide +kernel
theorem dX7_exchange_89 : decode cX7_exchange 89 = .ok (.bipush 10, 2) := by decide +kernel
theorem dX7_exchange_91 : decode cX7_exchange 91 = .ok (.iload_n 2, 1) := by decide +kernel
theorem dX7_exchange_92 : decode cX7_exchange 92 = .ok (.imul, 1) := by decide +kernel
theorem dX7_exchange_93 : decode cX7_exchange 93 = .ok (.iload_n 3, 1) := by decide +kernel
theorem dX7_exchange_94 : decode cX7_exchange 94 = .ok (.iadd, 1) := by decide +kernel
theorem dX7_exchange_95 : decode cX7_exchange 95 = .ok (.ireturn, 1) := by decide +kernel
theorem dX7_exchange_96 : decode cX7_exchange 96 = .ok (.iinc 3 1, 3) := by decide +kernel
theorem dX7_exchange_99 : decode cX7_exchange 99 = .ok (.goto (-67), 3) := by decide +kernel
theorem dX7_exchange_102 : decode cX7_exchange 102 = .ok (.iinc 2 1, 3) := by decide +kernel
theorem dX7_exchange_105 : decode cX7_exchange 105 = .ok (.goto (-83), 3) := by decide +kernel
theorem dX7_exchange_108 : decode cX7_exchange 108 = .ok (.aload_n 0, 1) := by decide +kernel
theorem dX7_exchange_109 : decode cX7_exchange 109 = .ok (.ldc 47, 2) := by decide +kernel
theorem dX7_exchange_111 : decode cX7_exchange 111 = .ok (.invokevirtual 48, 3) := by decide +kernel
theorem dX7_exchange_114 : decode cX7_exchange 114 = .ok (.ireturn, 1) := by decide +kernel
theorem dX7_shows_0 : decode cX7_shows 0 = .ok (.aload_n 0, 1) := by decide +kernel
theorem dX7_shows_1 : decode cX7_shows 1 = .ok (.iload_n 1, 1) := by decide +kernel
theorem dX7_shows_2 : decode cX7_shows 2 = .ok (.invokevirtual 62, 3) := by decide +kernel
theorem dX7_shows_5 : decode cX7_shows 5 = .ok (.ifCond .ne 10, 3) := by decide +kernel
theorem dX7_shows_8 : decode cX7_shows 8 = .ok (.aload_n 0, 1) := by decide +kernel
theorem dX7_shows_9 : decode cX7_shows 9 = .ok (.ldc 46, 2) := by decide +kernel
theorem dX7_shows_11 : decode cX7_shows 11 = .ok (.invokevirtual 48, 3) := by decide +kernel
theorem dX7_shows_14 : decode cX7_shows 14 = .ok (.ireturn, 1) := by decide +kernel
theorem dX7_shows_15 : decode cX7_shows 15 = .ok (.aload_n 0, 1) := by decide +kernel
theorem dX7_shows_16 : decode cX7_shows 16 = .ok (.iload_n 1, 1) := by decide +kernel
theorem dX7_shows_17 : decode cX7_shows 17 = .ok (.invokevirtual 161, 3) := by decide +kernel
theorem dX7_shows_20 : decode cX7_shows 20 = .ok (.ifCond .ne 10, 3) := by decide +kernel
theorem dX7_shows_23 : decode cX7_shows 23 = .ok (.aload_n 0, 1) := by decide +kernel
theorem dX7_shows_24 : decode cX7_shows 24 = .ok (.ldc 157, 2) := by decide +kernel
theorem dX7_shows_26 : decode cX7_shows 26 = .ok (.invokevirtual 48, 3) := by decide +kernel
theorem dX7_shows_29 : decode cX7_shows 29 = .ok (.ireturn, 1) := by decide +kernel
theorem dX7_shows_30 : decode cX7_shows 30 = .ok (.lconst 0, 1) := by decide +kernel
theorem dX7_shows_31 : decode cX7_shows 31 = .ok (.lstore_n 2, 1) := by decide +kernel
theorem dX7_shows_32 : decode cX7_shows 32 = .ok (.iconst 0, 1) := by decide +kernel
theorem dX7_shows_33 : decode cX7_shows 33 = .ok (.istore 4, 2) := by decide +kernel
theorem dX7_shows_35 : decode cX7_shows 35 = .ok (.iload 4, 2) := by decide +kernel
theorem dX7_shows_37 : decode cX7_shows 37 = .ok (.aload_n 0, 1) := by decide +kernel
theorem dX7_shows_38 : decode cX7_shows 38 = .ok (.getfield 103, 3) := by decide +kernel
theorem dX7_shows_41 : decode cX7_shows 41 = .ok (.if_icmp .ge 88, 3) := by decide +kernel
theorem dX7_shows_44 : decode cX7_shows 44 = .ok (.aload_n 0, 1) := by decide +kernel
theorem dX7_shows_45 : decode cX7_shows 45 = .ok (.getfield 22, 3) := by decide +kernel
theorem dX7_shows_48 : decode cX7_shows 48 = .ok (.iload 4, 2) := by decide +kernel
theorem dX7_shows_50 : decode cX7_shows 50 = .ok (.iaload, 1) := by decide +kernel
theorem dX7_shows_51 : decode cX7_shows 51 = .ok (.ifCond .ge 6, 3) := by decide +kernel
theorem dX7_shows_54 : decode cX7_shows 54 = .ok (.goto 69, 3) := by decide +kernel
theorem dX7_shows_57 : decode cX7_shows 57 = .ok (.aload_n 0, 1) := by decide +kernel
theorem dX7_shows_58 : decode cX7_shows 58 = .ok (.iload 4, 2) := by decide +kernel
theorem dX7_shows_60 : decode cX7_shows 60 = .ok (.iconst (-1), 1) := by decide +kernel
theorem dX7_shows_61 : decode cX7_shows 61 = .ok (.invokevirtual 115, 3) := by decide +kernel
theorem dX7_shows_64 : decode cX7_shows 64 = .ok (.istore 5, 2) := by decide +kernel
theorem dX7_shows_66 : decode cX7_shows 66 = .ok (.aload_n 0, 1) := by decide +kernel
theorem dX7_shows_67 : decode cX7_shows 67 = .ok (.iload 4, 2) := by decide +kernel
theorem dX7_shows_69 : decode cX7_shows 69 = .ok (.iconst 1, 1) := by decide +kernel
theorem dX7_shows_70 : decode cX7_shows 70 = .ok (.invokevirtual 115, 3) := by decide +kernel
theorem dX7_shows_73 : decode cX7_shows 73 = .ok (.istore 6, 2) := by decide +kernel
theorem dX7_shows_75 : decode cX7_shows 75 = .ok (.iload 5, 2) := by decide +kernel
theorem dX7_shows_77 : decode cX7_shows 77 = .ok (.ifCond .lt 46, 3) := by decide +kernel
theorem dX7_shows_80 : decode cX7_shows 80 = .ok (.iload 6, 2) := by decide +kernel
theorem dX7_shows_82 : decode cX7_shows 82 = .ok (.ifCond .lt 41, 3) := by decide +kernel
theorem dX7_shows_85 : decode cX7_shows 85 = .ok (.iload 5, 2) := by decide +kernel
theorem dX7_shows_87 : decode cX7_shows 87 = .ok (.iload 6, 2) := by decide +kernel
theorem dX7_shows_89 : decode cX7_shows 89 = .ok (.if_icmp .eq 34, 3) := by decide +kernel
theorem dX7_shows_92 : decode cX7_shows 92 = .ok (.lload_n 2, 1) := by decide +kernel
theorem dX7_shows_93 : decode cX7_shows 93 = .ok (.lconst 1, 1) := by decide +kernel
theorem dX7_shows_94 : decode cX7_shows 94 = .ok (.iload 5, 2) := by decide +kernel
theorem dX7_shows_96 : decode cX7_shows 96 = .ok (.iload 6, 2) := by decide +kernel
theorem dX7_shows_98 : decode cX7_shows 98 = .ok (.if_icmp .ge 14, 3) := by decide +kernel
theorem dX7_shows_101 : decode cX7_shows 101 = .ok (.bipush 8, 2) := by decide +kernel
theorem dX7_shows_103 : decode cX7_shows 103 = .ok (.iload 5, 2) := by decide +kernel
theorem dX7_shows_105 : decode cX7_shows 105 = .ok (.imul, 1) := by decide +kernel
theorem dX7_shows_106 : decode cX7_shows 106 = .ok (.iload 6, 2) := by decide +kernel
theorem dX7_shows_108 : decode cX7_shows 108 = .ok (.iadd, 1) := by decide +kernel
theorem dX7_shows_109 : decode cX7_shows 109 = .ok (.goto 11, 3) := by decide +kernel
theorem dX7_shows_112 : decode cX7_shows 112 = .ok (.bipush 8, 2) := by decide +kernel
theorem dX7_shows_114 : decode cX7_shows 114 = .ok (.iload 6, 2) := by decide +kernel
theorem dX7_shows_116 : decode cX7_shows 116 = .ok (.imul, 1) := by decide +kernel
theorem dX7_shows_117 : decode cX7_shows 117 = .ok (.iload 5, 2) := by decide +kernel
theorem dX7_shows_119 : decode cX7_shows 119 = .ok (.iadd, 1) := by decide +kernel
theorem dX7_shows_120 : decode cX7_shows 120 = .ok (.lshl, 1) := by decide +kernel
theorem dX7_shows_121 : decode cX7_shows 121 = .ok (.lor, 1) := by decide +kernel
theorem dX7_shows_122 : decode cX7_shows 122 = .ok (.lstore_n 2, 1) := by decide +kernel
theorem dX7_shows_123 : decode cX7_shows 123 = .ok (.iinc 4 1, 3) := by decide +kernel
theorem dX7_shows_126 : decode cX7_shows 126 = .ok (.goto (-91), 3) := by decide +kernel
theorem dX7_shows_129 : decode cX7_shows 129 = .ok (.iconst 0, 1) := by decide +kernel
theorem dX7_shows_130 : decode cX7_shows 130 = .ok (.istore 4, 2) := by decide +kernel
theorem dX7_shows_132 : decode cX7_shows 132 = .ok (.iconst 0, 1) := by decide +kernel
theorem dX7_shows_133 : decode cX7_shows 133 = .ok (.istore 5, 2) := by decide +kernel
theorem dX7_shows_135 : decode cX7_shows 135 = .ok (.iload 5, 2) := by decide +kernel
theorem dX7_shows_137 : decode cX7_shows 137 = .ok (.bipush 64, 2) := by decide +kernel
theorem dX7_shows_139 : decode cX7_shows 139 = .ok (.if_icmp .ge 21, 3) := by decide +kernel
theorem dX7_shows_142 : decode cX7_shows 142 = .ok (.iload 4, 2) := by decide +kernel
theorem dX7_shows_144 : decode cX7_shows 144 = .ok (.lload_n 2, 1) := by decide +kernel
theorem dX7_shows_145 : decode cX7_shows 145 = .ok (.iload 5, 2) := by decide +kernel
theorem dX7_shows_147 : decode cX7_shows 147 = .ok (.lushr, 1) := by decide +kernel
theorem dX7_shows_148 : decode cX7_shows 148 = .ok (.lconst 1, 1) := by decide +kernel
theorem dX7_shows_149 : decode cX7_shows 149 = .ok (.land, 1) := by decide +kernel
theorem dX7_shows_150 : decode cX7_shows 150 = .ok (.l2i, 1) := by decide +kernel
theorem dX7_shows_151 : decode cX7_shows 151 = .ok (.iadd, 1) := by decide +kernel
theorem dX7_shows_152 : decode cX7_shows 152 = .ok (.istore 4, 2) := by decide +kernel
theorem dX7_shows_154 : decode cX7_shows 154 = .ok (.iinc 5 1, 3) := by decide +kernel
theorem dX7_shows_157 : decode cX7_shows 157 = .ok (.goto (-22), 3) := by decide +kernel
theorem dX7_shows_160 : decode cX7_shows 160 = .ok (.iload 4, 2) := by decide +kernel
theorem dX7_shows_162 : decode cX7_shows 162 = .ok (.ireturn, 1) := by decide +kernel
theorem dX7_goesOn_0 : decode cX7_goesOn 0 = .ok (.aload_n 0, 1) := by decide +kernel
theorem dX7_goesOn_1 : decode cX7_goesOn 1 = .ok (.aload_n 0, 1) := by decide +kernel
theorem dX7_goesOn_2 : decode cX7_goesOn 2 = .ok (.iload_n 1, 1) := by decide +kernel
theorem dX7_goesOn_3 : decode cX7_goesOn 3 = .ok (.invokevirtual 96, 3) := by decide +kernel
theorem dX7_goesOn_6 : decode cX7_goesOn 6 = .ok (.putfield 99, 3) := by decide +kernel
theorem dX7_goesOn_9 : decode cX7_goesOn 9 = .ok (.aload_n 0, 1) := by decide +kernel
theorem dX7_goesOn_10 : decode cX7_goesOn 10 = .ok (.aload_n 0, 1) := by decide +kernel
theorem dX7_goesOn_11 : decode cX7_goesOn 11 = .ok (.iload_n 1, 1) := by decide +kernel
theorem dX7_goesOn_12 : decode cX7_goesOn 12 = .ok (.invokevirtual 66, 3) := by decide +kernel
theorem dX7_goesOn_15 : decode cX7_goesOn 15 = .ok (.putfield 103, 3) := by decide +kernel
theorem dX7_goesOn_18 : decode cX7_goesOn 18 = .ok (.iconst 0, 1) := by decide +kernel
theorem dX7_goesOn_19 : decode cX7_goesOn 19 = .ok (.istore_n 3, 1) := by decide +kernel
theorem dX7_goesOn_20 : decode cX7_goesOn 20 = .ok (.iload_n 3, 1) := by decide +kernel
theorem dX7_goesOn_21 : decode cX7_goesOn 21 = .ok (.aload_n 0, 1) := by decide +kernel
theorem dX7_goesOn_22 : decode cX7_goesOn 22 = .ok (.getfield 103, 3) := by decide +kernel
theorem dX7_goesOn_25 : decode cX7_goesOn 25 = .ok (.if_icmp .ge 32, 3) := by decide +kernel
theorem dX7_goesOn_28 : decode cX7_goesOn 28 = .ok (.aload_n 0, 1) := by decide +kernel
theorem dX7_goesOn_29 : decode cX7_goesOn 29 = .ok (.getfield 22, 3) := by decide +kernel
theorem dX7_goesOn_32 : decode cX7_goesOn 32 = .ok (.iload_n 3, 1) := by decide +kernel
theorem dX7_goesOn_33 : decode cX7_goesOn 33 = .ok (.iload_n 2, 1) := by decide +kernel
theorem dX7_goesOn_34 : decode cX7_goesOn 34 = .ok (.iadd, 1) := by decide +kernel
theorem dX7_goesOn_35 : decode cX7_goesOn 35 = .ok (.aload_n 0, 1) := by decide +kernel
theorem dX7_goesOn_36 : decode cX7_goesOn 36 = .ok (.getfield 103, 3) := by decide +kernel
theorem dX7_goesOn_39 : decode cX7_goesOn 39 = .ok (.irem, 1) := by decide +kernel
theorem dX7_goesOn_40 : decode cX7_goesOn 40 = .ok (.aload_n 0, 1) := by decide +kernel
theorem dX7_goesOn_41 : decode cX7_goesOn 41 = .ok (.getfield 9, 3) := by decide +kernel
theorem dX7_goesOn_44 : decode cX7_goesOn 44 = .ok (.iload_n 1, 1) := by decide +kernel
theorem dX7_goesOn_45 : decode cX7_goesOn 45 = .ok (.iload_n 3, 1) := by decide +kernel
theorem dX7_goesOn_46 : decode cX7_goesOn 46 = .ok (.invokestatic 106, 3) := by decide +kernel
theorem dX7_goesOn_49 : decode cX7_goesOn 49 = .ok (.iaload, 1) := by decide +kernel
theorem dX7_goesOn_50 : decode cX7_goesOn 50 = .ok (.iastore, 1) := by decide +kernel
theorem dX7_goesOn_51 : decode cX7_goesOn 51 = .ok (.iinc 3 1, 3) := by decide +kernel
theorem dX7_goesOn_54 : decode cX7_goesOn 54 = .ok (.goto (-34), 3) := by decide +kernel
theorem dX7_goesOn_57 : decode cX7_goesOn 57 = .ok (.return_, 1) := by decide +kernel
theorem dX7_course_0 : decode cX7_course 0 = .ok (.aload_n 0, 1) := by decide +kernel
theorem dX7_course_1 : decode cX7_course 1 = .ok (.iload_n 1, 1) := by decide +kernel
theorem dX7_course_2 : decode cX7_course 2 = .ok (.invokevirtual 62, 3) := by decide +kernel
theorem dX7_course_5 : decode cX7_course 5 = .ok (.ifCond .eq 15, 3) := by decide +kernel
theorem dX7_course_8 : decode cX7_course 8 = .ok (.iload_n 2, 1) := by decide +kernel
theorem dX7_course_9 : decode cX7_course 9 = .ok (.i2l, 1) := by decide +kernel
theorem dX7_course_10 : decode cX7_course 10 = .ok (.lconst 1, 1) := by decide +kernel
theorem dX7_course_11 : decode cX7_course 11 = .ok (.ldc2_w 52, 3) := by decide +kernel
theorem dX7_course_14 : decode cX7_course 14 = .ok (.invokestatic 54, 3) := by decide +kernel
theorem dX7_course_17 : decode cX7_course 17 = .ok (.ifCond .ne 10, 3) := by decide +kernel
theorem dX7_course_20 : decode cX7_course 20 = .ok (.aload_n 0, 1) := by decide +kernel
theorem dX7_course_21 : decode cX7_course 21 = .ok (.ldc 46, 2) := by decide +kernel
theorem dX7_course_23 : decode cX7_course 23 = .ok (.invokevirtual 48, 3) := by decide +kernel
theorem dX7_course_26 : decode cX7_course 26 = .ok (.ireturn, 1) := by decide +kernel
theorem dX7_course_27 : decode cX7_course 27 = .ok (.aload_n 0, 1) := by decide +kernel
theorem dX7_course_28 : decode cX7_course 28 = .ok (.iload_n 1, 1) := by decide +kernel
theorem dX7_course_29 : decode cX7_course 29 = .ok (.iload_n 2, 1) := by decide +kernel
theorem dX7_course_30 : decode cX7_course 30 = .ok (.invokevirtual 212, 3) := by decide +kernel
theorem dX7_course_33 : decode cX7_course 33 = .ok (.aload_n 0, 1) := by decide +kernel
theorem dX7_course_34 : decode cX7_course 34 = .ok (.iload_n 1, 1) := by decide +kernel
theorem dX7_course_35 : decode cX7_course 35 = .ok (.invokevirtual 197, 3) := by decide +kernel
theorem dX7_course_38 : decode cX7_course 38 = .ok (.aload_n 0, 1) := by decide +kernel
theorem dX7_course_39 : decode cX7_course 39 = .ok (.invokevirtual 129, 3) := by decide +kernel
theorem dX7_course_42 : decode cX7_course 42 = .ok (.ifCond .eq 7, 3) := by decide +kernel
theorem dX7_course_45 : decode cX7_course 45 = .ok (.iconst 1, 1) := by decide +kernel
theorem dX7_course_46 : decode cX7_course 46 = .ok (.goto 4, 3) := by decide +kernel
theorem dX7_course_49 : decode cX7_course 49 = .ok (.iconst 0, 1) := by decide +kernel
theorem dX7_course_50 : decode cX7_course 50 = .ok (.ireturn, 1) := by decide +kernel
theorem dX7_turns_0 : decode cX7_turns 0 = .ok (.aload_n 0, 1) := by decide +kernel
theorem dX7_turns_1 : decode cX7_turns 1 = .ok (.iload_n 1, 1) := by decide +kernel
theorem dX7_turns_2 : decode cX7_turns 2 = .ok (.invokevirtual 62, 3) := by decide +kernel
theorem dX7_turns_5 : decode cX7_turns 5 = .ok (.ifCond .ne 10, 3) := by decide +kernel
theorem dX7_turns_8 : decode cX7_turns 8 = .ok (.aload_n 0, 1) := by decide +kernel
theorem dX7_turns_9 : decode cX7_turns 9 = .ok (.ldc 46, 2) := by decide +kernel
theorem dX7_turns_11 : decode cX7_turns 11 = .ok (.invokevirtual 48, 3) := by decide +kernel
theorem dX7_turns_14 : decode cX7_turns 14 = .ok (.ireturn, 1) := by decide +kernel
theorem dX7_turns_15 : decode cX7_turns 15 = .ok (.iconst 0, 1) := by decide +kernel
theorem dX7_turns_16 : decode cX7_turns 16 = .ok (.istore_n 2, 1) := by decide +kernel
theorem dX7_turns_17 : decode cX7_turns 17 = .ok (.iconst 0, 1) := by decide +kernel
theorem dX7_turns_18 : decode cX7_turns 18 = .ok (.istore_n 3, 1) := by decide +kernel
theorem dX7_turns_19 : decode cX7_turns 19 = .ok (.iload_n 3, 1) := by decide +kernel
theorem dX7_turns_20 : decode cX7_turns 20 = .ok (.aload_n 0, 1) := by decide +kernel
theorem dX7_turns_21 : decode cX7_turns 21 = .ok (.iload_n 1, 1) := by decide +kernel
theorem dX7_turns_22 : decode cX7_turns 22 = .ok (.invokevirtual 66, 3) := by decide +kernel
theorem dX7_turns_25 : decode cX7_turns 25 = .ok (.if_icmp .ge 30, 3) := by decide +kernel
theorem dX7_turns_28 : decode cX7_turns 28 = .ok (.aload_n 0, 1) := by decide +kernel
theorem dX7_turns_29 : decode cX7_turns 29 = .ok (.iload_n 1, 1) := by decide +kernel
theorem dX7_turns_30 : decode cX7_turns 30 = .ok (.iload_n 3, 1) := by decide +kernel
theorem dX7_turns_31 : decode cX7_turns 31 = .ok (.invokevirtual 212, 3) := by decide +kernel
theorem dX7_turns_34 : decode cX7_turns 34 = .ok (.iload_n 2, 1) := by decide +kernel
theorem dX7_turns_35 : decode cX7_turns 35 = .ok (.aload_n 0, 1) := by decide +kernel
theorem dX7_turns_36 : decode cX7_turns 36 = .ok (.invokevirtual 129, 3) := by decide +kernel
theorem dX7_turns_39 : decode cX7_turns 39 = .ok (.ifCond .eq 7, 3) := by decide +kernel
theorem dX7_turns_42 : decode cX7_turns 42 = .ok (.iconst 1, 1) := by decide +kernel
theorem dX7_turns_43 : decode cX7_turns 43 = .ok (.goto 4, 3) := by decide +kernel
theorem dX7_turns_46 : decode cX7_turns 46 = .ok (.iconst 0, 1) := by decide +kernel
theorem dX7_turns_47 : decode cX7_turns 47 = .ok (.iadd, 1) := by decide +kernel
theorem dX7_turns_48 : decode cX7_turns 48 = .ok (.istore_n 2, 1) := by decide +kernel
theorem dX7_turns_49 : decode cX7_turns 49 = .ok (.iinc 3 1, 3) := by decide +kernel
theorem dX7_turns_52 : decode cX7_turns 52 = .ok (.goto (-33), 3) := by decide +kernel
theorem dX7_turns_55 : decode cX7_turns 55 = .ok (.iload_n 2, 1) := by decide +kernel
theorem dX7_turns_56 : decode cX7_turns 56 = .ok (.ireturn, 1) := by decide +kernel
theorem dX7_seed_0 : decode cX7_seed 0 = .ok (.aload_n 0, 1) := by decide +kernel
theorem dX7_seed_1 : decode cX7_seed 1 = .ok (.iconst 2, 1) := by decide +kernel
theorem dX7_seed_2 : decode cX7_seed 2 = .ok (.iload_n 1, 1) := by decide +kernel
theorem dX7_seed_3 : decode cX7_seed 3 = .ok (.invokevirtual 88, 3) := by decide +kernel
theorem dX7_seed_6 : decode cX7_seed 6 = .ok (.ireturn, 1) := by decide +kernel
theorem dX7_feed_0 : decode cX7_feed 0 = .ok (.iload_n 2, 1) := by decide +kernel
theorem dX7_feed_1 : decode cX7_feed 1 = .ok (.i2l, 1) := by decide +kernel
theorem dX7_feed_2 : decode cX7_feed 2 = .ok (.lconst 1, 1) := by decide +kernel
theorem dX7_feed_3 : decode cX7_feed 3 = .ok (.ldc2_w 143, 3) := by decide +kernel
theorem dX7_feed_6 : decode cX7_feed 6 = .ok (.invokestatic 54, 3) := by decide +kernel
theorem dX7_feed_9 : decode cX7_feed 9 = .ok (.ifCond .ne 10, 3) := by decide +kernel
theorem dX7_feed_12 : decode cX7_feed 12 = .ok (.aload_n 0, 1) := by decide +kernel
theorem dX7_feed_13 : decode cX7_feed 13 = .ok (.ldc 46, 2) := by decide +kernel
theorem dX7_feed_15 : decode cX7_feed 15 = .ok (.invokevirtual 48, 3) := by decide +kernel
theorem dX7_feed_18 : decode cX7_feed 18 = .ok (.ireturn, 1) := by decide +kernel
theorem dX7_feed_19 : decode cX7_feed 19 = .ok (.aload_n 0, 1) := by decide +kernel
theorem dX7_feed_20 : decode cX7_feed 20 = .ok (.getfield 215, 3) := by decide +kernel
theorem dX7_feed_23 : decode cX7_feed 23 = .ok (.iload_n 2, 1) := by decide +kernel
theorem dX7_feed_24 : decode cX7_feed 24 = .ok (.iadd, 1) := by decide +kernel
theorem dX7_feed_25 : decode cX7_feed 25 = .ok (.bipush 120, 2) := by decide +kernel
theorem dX7_feed_27 : decode cX7_feed 27 = .ok (.if_icmp .le 10, 3) := by decide +kernel
theorem dX7_feed_30 : decode cX7_feed 30 = .ok (.aload_n 0, 1) := by decide +kernel
theorem dX7_feed_31 : decode cX7_feed 31 = .ok (.ldc 138, 2) := by decide +kernel
theorem dX7_feed_33 : decode cX7_feed 33 = .ok (.invokevirtual 48, 3) := by decide +kernel
theorem dX7_feed_36 : decode cX7_feed 36 = .ok (.ireturn, 1) := by decide +kernel
theorem dX7_feed_37 : decode cX7_feed 37 = .ok (.iload_n 2, 1) := by decide +kernel
theorem dX7_feed_38 : decode cX7_feed 38 = .ok (.iconst 1, 1) := by decide +kernel
theorem dX7_feed_39 : decode cX7_feed 39 = .ok (.isub, 1) := by decide +kernel
theorem dX7_feed_40 : decode cX7_feed 40 = .ok (.istore_n 3, 1) := by decide +kernel
theorem dX7_feed_41 : decode cX7_feed 41 = .ok (.iload_n 3, 1) := by decide +kernel
theorem dX7_feed_42 : decode cX7_feed 42 = .ok (.ifCond .lt 38, 3) := by decide +kernel
theorem dX7_feed_45 : decode cX7_feed 45 = .ok (.aload_n 0, 1) := by decide +kernel
theorem dX7_feed_46 : decode cX7_feed 46 = .ok (.getfield 34, 3) := by decide +kernel
theorem dX7_feed_49 : decode cX7_feed 49 = .ok (.aload_n 0, 1) := by decide +kernel
theorem dX7_feed_50 : decode cX7_feed 50 = .ok (.getfield 215, 3) := by decide +kernel
theorem dX7_feed_53 : decode cX7_feed 53 = .ok (.iload_n 1, 1) := by decide +kernel
theorem dX7_feed_54 : decode cX7_feed 54 = .ok (.bipush 8, 2) := by decide +kernel
theorem dX7_feed_56 : decode cX7_feed 56 = .ok (.iload_n 3, 1) := by decide +kernel
theorem dX7_feed_57 : decode cX7_feed 57 = .ok (.imul, 1) := by decide +kernel
theorem dX7_feed_58 : decode cX7_feed 58 = .ok (.ishr, 1) := by decide +kernel
theorem dX7_feed_59 : decode cX7_feed 59 = .ok (.sipush 255, 3) := by decide +kernel
theorem dX7_feed_62 : decode cX7_feed 62 = .ok (.iand, 1) := by decide +kernel
theorem dX7_feed_63 : decode cX7_feed 63 = .ok (.iastore, 1) := by decide +kernel
theorem dX7_feed_64 : decode cX7_feed 64 = .ok (.aload_n 0, 1) := by decide +kernel
theorem dX7_feed_65 : decode cX7_feed 65 = .ok (.dup, 1) := by decide +kernel
theorem dX7_feed_66 : decode cX7_feed 66 = .ok (.getfield 215, 3) := by decide +kernel
theorem dX7_feed_69 : decode cX7_feed 69 = .ok (.iconst 1, 1) := by decide +kernel
theorem dX7_feed_70 : decode cX7_feed 70 = .ok (.iadd, 1) := by decide +kernel
theorem dX7_feed_71 : decode cX7_feed 71 = .ok (.putfield 215, 3) := by decide +kernel
theorem dX7_feed_74 : decode cX7_feed 74 = .ok (.iinc 3 (-1), 3) := by decide +kernel
theorem dX7_feed_77 : decode cX7_feed 77 = .ok (.goto (-36), 3) := by decide +kernel
theorem dX7_feed_80 : decode cX7_feed 80 = .ok (.aload_n 0, 1) := by decide +kernel
theorem dX7_feed_81 : decode cX7_feed 81 = .ok (.getfield 215, 3) := by decide +kernel
theorem dX7_feed_84 : decode cX7_feed 84 = .ok (.ireturn, 1) := by decide +kernel
theorem dX7_wipe_0 : decode cX7_wipe 0 = .ok (.aload_n 0, 1) := by decide +kernel
theorem dX7_wipe_1 : decode cX7_wipe 1 = .ok (.getfield 215, 3) := by decide +kernel
theorem dX7_wipe_4 : decode cX7_wipe 4 = .ok (.istore_n 1, 1) := by decide +kernel
theorem dX7_wipe_5 : decode cX7_wipe 5 = .ok (.aload_n 0, 1) := by decide +kernel
theorem dX7_wipe_6 : decode cX7_wipe 6 = .ok (.iconst 0, 1) := by decide +kernel
theorem dX7_wipe_7 : decode cX7_wipe 7 = .ok (.putfield 215, 3) := by decide +kernel
theorem dX7_wipe_10 : decode cX7_wipe 10 = .ok (.iload_n 1, 1) := by decide +kernel
theorem dX7_wipe_11 : decode cX7_wipe 11 = .ok (.ireturn, 1) := by decide +kernel
theorem dX7_isByte_0 : decode cX7_isByte 0 = .ok (.iload_n 1, 1) := by decide +kernel
theorem dX7_isByte_1 : decode cX7_isByte 1 = .ok (.aload_n 0, 1) := by decide +kernel
theorem dX7_isByte_2 : decode cX7_isByte 2 = .ok (.getfield 215, 3) := by decide +kernel
theorem dX7_isByte_5 : decode cX7_isByte 5 = .ok (.if_icmp .ge 24, 3) := by decide +kernel
theorem dX7_isByte_8 : decode cX7_isByte 8 = .ok (.aload_n 0, 1) := by decide +kernel
theorem dX7_isByte_9 : decode cX7_isByte 9 = .ok (.getfield 34, 3) := by decide +kernel
theorem dX7_isByte_12 : decode cX7_isByte 12 = .ok (.iload_n 1, 1) := by decide +kernel
theorem dX7_isByte_13 : decode cX7_isByte 13 = .ok (.iaload, 1) := by decide +kernel
theorem dX7_isByte_14 : decode cX7_isByte 14 = .ok (.i2l, 1) := by decide +kernel
theorem dX7_isByte_15 : decode cX7_isByte 15 = .ok (.iload_n 2, 1) := by decide +kernel
theorem dX7_isByte_16 : decode cX7_isByte 16 = .ok (.i2l, 1) := by decide +kernel
theorem dX7_isByte_17 : decode cX7_isByte 17 = .ok (.iload_n 3, 1) := by decide +kernel
theorem dX7_isByte_18 : decode cX7_isByte 18 = .ok (.i2l, 1) := by decide +kernel
theorem dX7_isByte_19 : decode cX7_isByte 19 = .ok (.invokestatic 54, 3) := by decide +kernel
theorem dX7_isByte_22 : decode cX7_isByte 22 = .ok (.ifCond .eq 7, 3) := by decide +kernel
theorem dX7_isByte_25 : decode cX7_isByte 25 = .ok (.iconst 1, 1) := by decide +kernel
theorem dX7_isByte_26 : decode cX7_isByte 26 = .ok (.goto 4, 3) := by decide +kernel
theorem dX7_isByte_29 : decode cX7_isByte 29 = .ok (.iconst 0, 1) := by decide +kernel
theorem dX7_isByte_30 : decode cX7_isByte 30 = .ok (.ireturn, 1) := by decide +kernel
theorem dX7_token_0 : decode cX7_token 0 = .ok (.aload_n 0, 1) := by decide +kernel
theorem dX7_token_1 : decode cX7_token 1 = .ok (.aload_n 0, 1) := by decide +kernel
theorem dX7_token_2 : decode cX7_token 2 = .ok (.getfield 218, 3) := by decide +kernel
theorem dX7_token_5 : decode cX7_token 5 = .ok (.putfield 221, 3) := by decide +kernel
theorem dX7_token_8 : decode cX7_token 8 = .ok (.aload_n 0, 1) := by decide +kernel
theorem dX7_token_9 : decode cX7_token 9 = .ok (.aload_n 0, 1) := by decide +kernel
theorem dX7_token_10 : decode cX7_token 10 = .ok (.getfield 221, 3) := by decide +kernel
theorem dX7_token_13 : decode cX7_token 13 = .ok (.bipush 32, 2) := by decide +kernel
theorem dX7_token_15 : decode cX7_token 15 = .ok (.bipush 32, 2) := by decide +kernel
theorem dX7_token_17 : decode cX7_token 17 = .ok (.invokevirtual 224, 3) := by decide +kernel
theorem dX7_token_20 : decode cX7_token 20 = .ok (.ifCond .eq 16, 3) := by decide +kernel
theorem dX7_token_23 : decode cX7_token 23 = .ok (.aload_n 0, 1) := by decide +kernel
theorem dX7_token_24 : decode cX7_token 24 = .ok (.dup, 1) := by decide +kernel
theorem dX7_token_25 : decode cX7_token 25 = .ok (.getfield 221, 3) := by decide +kernel
theorem dX7_token_28 : decode cX7_token 28 = .ok (.iconst 1, 1) := by decide +kernel
theorem dX7_token_29 : decode cX7_token 29 = .ok (.iadd, 1) := by decide +kernel
theorem dX7_token_30 : decode cX7_token 30 = .ok (.putfield 221, 3) := by decide +kernel
theorem dX7_token_33 : decode cX7_token 33 = .ok (.goto (-25), 3) := by decide +kernel
theorem dX7_token_36 : decode cX7_token 36 = .ok (.aload_n 0, 1) := by decide +kernel
theorem dX7_token_37 : decode cX7_token 37 = .ok (.aload_n 0, 1) := by decide +kernel
theorem dX7_token_38 : decode cX7_token 38 = .ok (.getfield 221, 3) := by decide +kernel
theorem dX7_token_41 : decode cX7_token 41 = .ok (.putfield 218, 3) := by decide +kernel
theorem dX7_token_44 : decode cX7_token 44 = .ok (.aload_n 0, 1) := by decide +kernel
theorem dX7_token_45 : decode cX7_token 45 = .ok (.iconst 0, 1) := by decide +kernel
theorem dX7_token_46 : decode cX7_token 46 = .ok (.putfield 228, 3) := by decide +kernel
theorem dX7_token_49 : decode cX7_token 49 = .ok (.aload_n 0, 1) := by decide +kernel
theorem dX7_token_50 : decode cX7_token 50 = .ok (.aload_n 0, 1) := by decide +kernel
theorem dX7_token_51 : decode cX7_token 51 = .ok (.getfield 221, 3) := by decide +kernel
theorem dX7_token_54 : decode cX7_token 54 = .ok (.aload_n 0, 1) := by decide +kernel
theorem dX7_token_55 : decode cX7_token 55 = .ok (.getfield 215, 3) := by decide +kernel
theorem dX7_token_58 : decode cX7_token 58 = .ok (.if_icmp .ne 7, 3) := by decide +kernel
theorem dX7_token_61 : decode cX7_token 61 = .ok (.iconst 0, 1) := by decide +kernel
theorem dX7_token_62 : decode cX7_token 62 = .ok (.goto 42, 3) := by decide +kernel
theorem dX7_token_65 : decode cX7_token 65 = .ok (.aload_n 0, 1) := by decide +kernel
theorem dX7_token_66 : decode cX7_token 66 = .ok (.aload_n 0, 1) := by decide +kernel
theorem dX7_token_67 : decode cX7_token 67 = .ok (.getfield 221, 3) := by decide +kernel
theorem dX7_token_70 : decode cX7_token 70 = .ok (.bipush 97, 2) := by decide +kernel
theorem dX7_token_72 : decode cX7_token 72 = .ok (.bipush 122, 2) := by decide +kernel
theorem dX7_token_74 : decode cX7_token 74 = .ok (.invokevirtual 224, 3) := by decide +kernel
theorem dX7_token_77 : decode cX7_token 77 = .ok (.ifCond .eq 7, 3) := by decide +kernel
theorem dX7_token_80 : decode cX7_token 80 = .ok (.iconst 1, 1) := by decide +kernel
theorem dX7_token_81 : decode cX7_token 81 = .ok (.goto 23, 3) := by decide +kernel
theorem dX7_token_84 : decode cX7_token 84 = .ok (.aload_n 0, 1) := by decide +kernel
theorem dX7_token_85 : decode cX7_token 85 = .ok (.aload_n 0, 1) := by decide +kernel
theorem dX7_token_86 : decode cX7_token 86 = .ok (.getfield 221, 3) := by decide +kernel
theorem dX7_token_89 : decode cX7_token 89 = .ok (.bipush 48, 2) := by decide +kernel
theorem dX7_token_91 : decode cX7_token 91 = .ok (.bipush 57, 2) := by decide +kernel
theorem dX7_token_93 : decode cX7_token 93 = .ok (.invokevirtual 224, 3) := by decide +kernel
theorem dX7_token_96 : decode cX7_token 96 = .ok (.ifCond .eq 7, 3) := by decide +kernel
theorem dX7_token_99 : decode cX7_token 99 = .ok (.iconst 2, 1) := by decide +kernel
theorem dX7_token_100 : decode cX7_token 100 = .ok (.goto 4, 3) := by decide +kernel
theorem dX7_token_103 : decode cX7_token 103 = .ok (.iconst 3, 1) := by decide +kernel
theorem dX7_token_104 : decode cX7_token 104 = .ok (.putfield 231, 3) := by decide +kernel
theorem dX7_token_107 : decode cX7_token 107 = .ok (.aload_n 0, 1) := by decide +kernel
theorem dX7_token_108 : decode cX7_token 108 = .ok (.getfield 231, 3) := by decide +kernel
theorem dX7_token_111 : decode cX7_token 111 = .ok (.iconst 3, 1) := by decide +kernel
theorem dX7_token_112 : decode cX7_token 112 = .ok (.if_icmp .ne 13, 3) := by decide +kernel
theorem dX7_token_115 : decode cX7_token 115 = .ok (.aload_n 0, 1) := by decide +kernel
theorem dX7_token_116 : decode cX7_token 116 = .ok (.dup, 1) := by decide +kernel
theorem dX7_token_117 : decode cX7_token 117 = .ok (.getfield 218, 3) := by decide +kernel
theorem dX7_token_120 : decode cX7_token 120 = .ok (.iconst 1, 1) := by decide +kernel
theorem dX7_token_121 : decode cX7_token 121 = .ok (.iadd, 1) := by decide +kernel
theorem dX7_token_122 : decode cX7_token 122 = .ok (.putfield 218, 3) := by decide +kernel
theorem dX7_token_125 : decode cX7_token 125 = .ok (.aload_n 0, 1) := by decide +kernel
theorem dX7_token_126 : decode cX7_token 126 = .ok (.getfield 231, 3) := by decide +kernel
theorem dX7_token_129 : decode cX7_token 129 = .ok (.iconst 1, 1) := by decide +kernel
theorem dX7_token_130 : decode cX7_token 130 = .ok (.if_icmp .ne 31, 3) := by decide +kernel
theorem dX7_token_133 : decode cX7_token 133 = .ok (.aload_n 0, 1) := by decide +kernel
theorem dX7_token_134 : decode cX7_token 134 = .ok (.aload_n 0, 1) := by decide +kernel
theorem dX7_token_135 : decode cX7_token 135 = .ok (.getfield 218, 3) := by decide +kernel
theorem dX7_token_138 : decode cX7_token 138 = .ok (.bipush 97, 2) := by decide +kernel
theorem dX7_token_140 : decode cX7_token 140 = .ok (.bipush 122, 2) := by decide +kernel
theorem dX7_token_142 : decode cX7_token 142 = .ok (.invokevirtual 224, 3) := by decide +kernel
theorem dX7_token_145 : decode cX7_token 145 = .ok (.ifCond .eq 16, 3) := by decide +kernel
theorem dX7_token_148 : decode cX7_token 148 = .ok (.aload_n 0, 1) := by decide +kernel
theorem dX7_token_149 : decode cX7_token 149 = .ok (.dup, 1) := by decide +kernel
theorem dX7_token_150 : decode cX7_token 150 = .ok (.getfield 218, 3) := by decide +kernel
theorem dX7_token_153 : decode cX7_token 153 = .ok (.iconst 1, 1) := by decide +kernel
theorem dX7_token_154 : decode cX7_token 154 = .ok (.iadd, 1) := by decide +kernel
theorem dX7_token_155 : decode cX7_token 155 = .ok (.putfield 218, 3) := by decide +kernel
theorem dX7_token_158 : decode cX7_token 158 = .ok (.goto (-33), 3) := by decide +kernel
theorem dX7_token_161 : decode cX7_token 161 = .ok (.aload_n 0, 1) := by decide +kernel
theorem dX7_token_162 : decode cX7_token 162 = .ok (.getfield 231, 3) := by decide +kernel
theorem dX7_token_165 : decode cX7_token 165 = .ok (.iconst 2, 1) := by decide +kernel
theorem dX7_token_166 : decode cX7_token 166 = .ok (.if_icmp .ne 72, 3) := by decide +kernel
theorem dX7_token_169 : decode cX7_token 169 = .ok (.aload_n 0, 1) := by decide +kernel
theorem dX7_token_170 : decode cX7_token 170 = .ok (.aload_n 0, 1) := by decide +kernel
theorem dX7_token_171 : decode cX7_token 171 = .ok (.getfield 218, 3) := by decide +kernel
theorem dX7_token_174 : decode cX7_token 174 = .ok (.bipush 48, 2) := by decide +kernel
theorem dX7_token_176 : decode cX7_token 176 = .ok (.bipush 57, 2) := by decide +kernel
theorem dX7_token_178 : decode cX7_token 178 = .ok (.invokevirtual 224, 3) := by decide +kernel
theorem dX7_token_181 : decode cX7_token 181 = .ok (.ifCond .eq 57, 3) := by decide +kernel
theorem dX7_token_184 : decode cX7_token 184 = .ok (.aload_n 0, 1) := by decide +kernel
theorem dX7_token_185 : decode cX7_token 185 = .ok (.aload_n 0, 1) := by decide +kernel
theorem dX7_token_186 : decode cX7_token 186 = .ok (.getfield 228, 3) := by decide +kernel
theorem dX7_token_189 : decode cX7_token 189 = .ok (.sipush 999, 3) := by decide +kernel
theorem dX7_token_192 : decode cX7_token 192 = .ok (.if_icmp .le 10, 3) := by decide +kernel
theorem dX7_token_195 : decode cX7_token 195 = .ok (.aload_n 0, 1) := by decide +kernel
theorem dX7_token_196 : decode cX7_token 196 = .ok (.getfield 228, 3) := by decide +kernel
theorem dX7_token_199 : decode cX7_token 199 = .ok (.goto 23, 3) := by decide +kernel
theorem dX7_token_202 : decode cX7_token 202 = .ok (.bipush 10, 2) := by decide +kernel
theorem dX7_token_204 : decode cX7_token 204 = .ok (.aload_n 0, 1) := by decide +kernel
theorem dX7_token_205 : decode cX7_token 205 = .ok (.getfield 228, 3) := by decide +kernel
theorem dX7_token_208 : decode cX7_token 208 = .ok (.imul, 1) := by decide +kernel
theorem dX7_token_209 : decode cX7_token 209 = .ok (.aload_n 0, 1) := by decide +kernel
theorem dX7_token_210 : decode cX7_token 210 = .ok (.getfield 34, 3) := by decide +kernel
theorem dX7_token_213 : decode cX7_token 213 = .ok (.aload_n 0, 1) := by decide +kernel
theorem dX7_token_214 : decode cX7_token 214 = .ok (.getfield 218, 3) := by decide +kernel
theorem dX7_token_217 : decode cX7_token 217 = .ok (.iaload, 1) := by decide +kernel
theorem dX7_token_218 : decode cX7_token 218 = .ok (.iadd, 1) := by decide +kernel
theorem dX7_token_219 : decode cX7_token 219 = .ok (.bipush 48, 2) := by decide +kernel
theorem dX7_token_221 : decode cX7_token 221 = .ok (.isub, 1) := by decide +kernel
theorem dX7_token_222 : decode cX7_token 222 = .ok (.putfield 228, 3) := by decide +kernel
theorem dX7_token_225 : decode cX7_token 225 = .ok (.aload_n 0, 1) := by decide +kernel
theorem dX7_token_226 : decode cX7_token 226 = .ok (.dup, 1) := by decide +kernel
theorem dX7_token_227 : decode cX7_token 227 = .ok (.getfield 218, 3) := by decide +kernel
theorem dX7_token_230 : decode cX7_token 230 = .ok (.iconst 1, 1) := by decide +kernel
theorem dX7_token_231 : decode cX7_token 231 = .ok (.iadd, 1) := by decide +kernel
theorem dX7_token_232 : decode cX7_token 232 = .ok (.putfield 218, 3) := by decide +kernel
theorem dX7_token_235 : decode cX7_token 235 = .ok (.goto (-74), 3) := by decide +kernel
theorem dX7_token_238 : decode cX7_token 238 = .ok (.return_, 1) := by decide +kernel
theorem dX7_isWord_0 : decode cX7_isWord 0 = .ok (.aload_n 0, 1) := by decide +kernel
theorem dX7_isWord_1 : decode cX7_isWord 1 = .ok (.getfield 234, 3) := by decide +kernel
theorem dX7_isWord_4 : decode cX7_isWord 4 = .ok (.ifCond .ne 31, 3) := by decide +kernel
theorem dX7_isWord_7 : decode cX7_isWord 7 = .ok (.aload_n 0, 1) := by decide +kernel
theorem dX7_isWord_8 : decode cX7_isWord 8 = .ok (.getfield 231, 3) := by decide +kernel
theorem dX7_isWord_11 : decode cX7_isWord 11 = .ok (.iconst 1, 1) := by decide +kernel
theorem dX7_isWord_12 : decode cX7_isWord 12 = .ok (.if_icmp .ne 23, 3) := by decide +kernel
theorem dX7_isWord_15 : decode cX7_isWord 15 = .ok (.aload_n 0, 1) := by decide +kernel
theorem dX7_isWord_16 : decode cX7_isWord 16 = .ok (.getfield 218, 3) := by decide +kernel
theorem dX7_isWord_19 : decode cX7_isWord 19 = .ok (.aload_n 0, 1) := by decide +kernel
theorem dX7_isWord_20 : decode cX7_isWord 20 = .ok (.getfield 221, 3) := by decide +kernel
theorem dX7_isWord_23 : decode cX7_isWord 23 = .ok (.isub, 1) := by decide +kernel
theorem dX7_isWord_24 : decode cX7_isWord 24 = .ok (.aload_n 1, 1) := by decide +kernel
theorem dX7_isWord_25 : decode cX7_isWord 25 = .ok (.invokevirtual 238, 3) := by decide +kernel
theorem dX7_isWord_28 : decode cX7_isWord 28 = .ok (.if_icmp .ne 7, 3) := by decide +kernel
theorem dX7_isWord_31 : decode cX7_isWord 31 = .ok (.iconst 1, 1) := by decide +kernel
theorem dX7_isWord_32 : decode cX7_isWord 32 = .ok (.goto 4, 3) := by decide +kernel
theorem dX7_isWord_35 : decode cX7_isWord 35 = .ok (.iconst 0, 1) := by decide +kernel
theorem dX7_isWord_36 : decode cX7_isWord 36 = .ok (.istore_n 2, 1) := by decide +kernel
theorem dX7_isWord_37 : decode cX7_isWord 37 = .ok (.iconst 0, 1) := by decide +kernel
theorem dX7_isWord_38 : decode cX7_isWord 38 = .ok (.istore_n 3, 1) := by decide +kernel
theorem dX7_isWord_39 : decode cX7_isWord 39 = .ok (.iload_n 2, 1) := by decide +kernel
theorem dX7_isWord_40 : decode cX7_isWord 40 = .ok (.ifCond .eq 42, 3) := by decide +kernel
theorem dX7_isWord_43 : decode cX7_isWord 43 = .ok (.iload_n 3, 1) := by decide +kernel
theorem dX7_isWord_44 : decode cX7_isWord 44 = .ok (.aload_n 1, 1) := by decide +kernel
theorem dX7_isWord_45 : decode cX7_isWord 45 = .ok (.invokevirtual 238, 3) := by decide +kernel
theorem dX7_isWord_48 : decode cX7_isWord 48 = .ok (.if_icmp .ge 34, 3) := by decide +kernel
theorem dX7_isWord_51 : decode cX7_isWord 51 = .ok (.aload_n 0, 1) := by decide +kernel
theorem dX7_isWord_52 : decode cX7_isWord 52 = .ok (.getfield 34, 3) := by decide +kernel
theorem dX7_isWord_55 : decode cX7_isWord 55 = .ok (.aload_n 0, 1) := by decide +kernel
theorem dX7_isWord_56 : decode cX7_isWord 56 = .ok (.getfield 221, 3) := by decide +kernel
theorem dX7_isWord_59 : decode cX7_isWord 59 = .ok (.iload_n 3, 1) := by decide +kernel
theorem dX7_isWord_60 : decode cX7_isWord 60 = .ok (.iadd, 1) := by decide +kernel
theorem dX7_isWord_61 : decode cX7_isWord 61 = .ok (.iaload, 1) := by decide +kernel
theorem dX7_isWord_62 : decode cX7_isWord 62 = .ok (.aload_n 1, 1) := by decide +kernel
theorem dX7_isWord_63 : decode cX7_isWord 63 = .ok (.iload_n 3, 1) := by decide +kernel
theorem dX7_isWord_64 : decode cX7_isWord 64 = .ok (.invokevirtual 243, 3) := by decide +kernel
theorem dX7_isWord_67 : decode cX7_isWord 67 = .ok (.if_icmp .ne 7, 3) := by decide +kernel
theorem dX7_isWord_70 : decode cX7_isWord 70 = .ok (.iconst 1, 1) := by decide +kernel
theorem dX7_isWord_71 : decode cX7_isWord 71 = .ok (.goto 4, 3) := by decide +kernel
theorem dX7_isWord_74 : decode cX7_isWord 74 = .ok (.iconst 0, 1) := by decide +kernel
theorem dX7_isWord_75 : decode cX7_isWord 75 = .ok (.istore_n 2, 1) := by decide +kernel
theorem dX7_isWord_76 : decode cX7_isWord 76 = .ok (.iinc 3 1, 3) := by decide +kernel
theorem dX7_isWord_79 : decode cX7_isWord 79 = .ok (.goto (-40), 3) := by decide +kernel
theorem dX7_isWord_82 : decode cX7_isWord 82 = .ok (.iload_n 2, 1) := by decide +kernel
theorem dX7_isWord_83 : decode cX7_isWord 83 = .ok (.ireturn, 1) := by decide +kernel
theorem dX7_takes_0 : decode cX7_takes 0 = .ok (.aload_n 0, 1) := by decide +kernel
theorem dX7_takes_1 : decode cX7_takes 1 = .ok (.aload_n 1, 1) := by decide +kernel
theorem dX7_takes_2 : decode cX7_takes 2 = .ok (.invokevirtual 247, 3) := by decide +kernel
theorem dX7_takes_5 : decode cX7_takes 5 = .ok (.ifCond .ne 5, 3) := by decide +kernel
theorem dX7_takes_8 : decode cX7_takes 8 = .ok (.iconst 0, 1) := by decide +kernel
theorem dX7_takes_9 : decode cX7_takes 9 = .ok (.ireturn, 1) := by decide +kernel
theorem dX7_takes_10 : decode cX7_takes 10 = .ok (.aload_n 0, 1) := by decide +kernel
theorem dX7_takes_11 : decode cX7_takes 11 = .ok (.invokevirtual 251, 3) := by decide +kernel
theorem dX7_takes_14 : decode cX7_takes 14 = .ok (.iconst 1, 1) := by decide +kernel
theorem dX7_takes_15 : decode cX7_takes 15 = .ok (.ireturn, 1) := by decide +kernel
theorem dX7_isSign_0 : decode cX7_isSign 0 = .ok (.aload_n 0, 1) := by decide +kernel
theorem dX7_isSign_1 : decode cX7_isSign 1 = .ok (.getfield 234, 3) := by decide +kernel
theorem dX7_isSign_4 : decode cX7_isSign 4 = .ok (.ifCond .ne 28, 3) := by decide +kernel
theorem dX7_isSign_7 : decode cX7_isSign 7 = .ok (.aload_n 0, 1) := by decide +kernel
theorem dX7_isSign_8 : decode cX7_isSign 8 = .ok (.getfield 231, 3) := by decide +kernel
theorem dX7_isSign_11 : decode cX7_isSign 11 = .ok (.iconst 3, 1) := by decide +kernel
theorem dX7_isSign_12 : decode cX7_isSign 12 = .ok (.if_icmp .ne 20, 3) := by decide +kernel
theorem dX7_isSign_15 : decode cX7_isSign 15 = .ok (.aload_n 0, 1) := by decide +kernel
theorem dX7_isSign_16 : decode cX7_isSign 16 = .ok (.getfield 34, 3) := by decide +kernel
theorem dX7_isSign_19 : decode cX7_isSign 19 = .ok (.aload_n 0, 1) := by decide +kernel
theorem dX7_isSign_20 : decode cX7_isSign 20 = .ok (.getfield 221, 3) := by decide +kernel
theorem dX7_isSign_23 : decode cX7_isSign 23 = .ok (.iaload, 1) := by decide +kernel
theorem dX7_isSign_24 : decode cX7_isSign 24 = .ok (.iload_n 1, 1) := by decide +kernel
theorem dX7_isSign_25 : decode cX7_isSign 25 = .ok (.if_icmp .ne 7, 3) := by decide +kernel
theorem dX7_isSign_28 : decode cX7_isSign 28 = .ok (.iconst 1, 1) := by decide +kernel
theorem dX7_isSign_29 : decode cX7_isSign 29 = .ok (.goto 4, 3) := by decide +kernel
theorem dX7_isSign_32 : decode cX7_isSign 32 = .ok (.iconst 0, 1) := by decide +kernel
theorem dX7_isSign_33 : decode cX7_isSign 33 = .ok (.ireturn, 1) := by decide +kernel
theorem dX7_number_0 : decode cX7_number 0 = .ok (.aload_n 0, 1) := by decide +kernel
theorem dX7_number_1 : decode cX7_number 1 = .ok (.aload_n 0, 1) := by decide +kernel
theorem dX7_number_2 : decode cX7_number 2 = .ok (.getfield 234, 3) := by decide +kernel
theorem dX7_number_5 : decode cX7_number 5 = .ok (.ifCond .ne 30, 3) := by decide +kernel
theorem dX7_number_8 : decode cX7_number 8 = .ok (.iload_n 3, 1) := by decide +kernel
theorem dX7_number_9 : decode cX7_number 9 = .ok (.ifCond .eq 26, 3) := by decide +kernel
theorem dX7_number_12 : decode cX7_number 12 = .ok (.aload_n 0, 1) := by decide +kernel
theorem dX7_number_13 : decode cX7_number 13 = .ok (.getfield 231, 3) := by decide +kernel
theorem dX7_number_16 : decode cX7_number 16 = .ok (.iconst 2, 1) := by decide +kernel
theorem dX7_number_17 : decode cX7_number 17 = .ok (.if_icmp .ne 18, 3) := by decide +kernel
theorem dX7_number_20 : decode cX7_number 20 = .ok (.aload_n 0, 1) := by decide +kernel
theorem dX7_number_21 : decode cX7_number 21 = .ok (.getfield 228, 3) := by decide +kernel
theorem dX7_number_24 : decode cX7_number 24 = .ok (.i2l, 1) := by decide +kernel
theorem dX7_number_25 : decode cX7_number 25 = .ok (.iload_n 1, 1) := by decide +kernel
theorem dX7_number_26 : decode cX7_number 26 = .ok (.i2l, 1) := by decide +kernel
theorem dX7_number_27 : decode cX7_number 27 = .ok (.iload_n 2, 1) := by decide +kernel
theorem dX7_number_28 : decode cX7_number 28 = .ok (.i2l, 1) := by decide +kernel
theorem dX7_number_29 : decode cX7_number 29 = .ok (.invokestatic 54, 3) := by decide +kernel
theorem dX7_number_32 : decode cX7_number 32 = .ok (.ifCond .ne 7, 3) := by decide +kernel
theorem dX7_number_35 : decode cX7_number 35 = .ok (.iconst 1, 1) := by decide +kernel
theorem dX7_number_36 : decode cX7_number 36 = .ok (.goto 4, 3) := by decide +kernel
theorem dX7_number_39 : decode cX7_number 39 = .ok (.iconst 0, 1) := by decide +kernel
theorem dX7_number_40 : decode cX7_number 40 = .ok (.putfield 234, 3) := by decide +kernel
theorem dX7_number_43 : decode cX7_number 43 = .ok (.aload_n 0, 1) := by decide +kernel
theorem dX7_number_44 : decode cX7_number 44 = .ok (.getfield 228, 3) := by decide +kernel
theorem dX7_number_47 : decode cX7_number 47 = .ok (.istore 4, 2) := by decide +kernel
theorem dX7_number_49 : decode cX7_number 49 = .ok (.aload_n 0, 1) := by decide +kernel
theorem dX7_number_50 : decode cX7_number 50 = .ok (.getfield 234, 3) := by decide +kernel
theorem dX7_number_53 : decode cX7_number 53 = .ok (.ifCond .ne 7, 3) := by decide +kernel
theorem dX7_number_56 : decode cX7_number 56 = .ok (.aload_n 0, 1) := by decide +kernel
theorem dX7_number_57 : decode cX7_number 57 = .ok (.invokevirtual 251, 3) := by decide +kernel
theorem dX7_number_60 : decode cX7_number 60 = .ok (.iload 4, 2) := by decide +kernel
theorem dX7_number_62 : decode cX7_number 62 = .ok (.ireturn, 1) := by decide +kernel
theorem dX7_kindHere_0 : decode cX7_kindHere 0 = .ok (.aload_n 0, 1) := by decide +kernel
theorem dX7_kindHere_1 : decode cX7_kindHere 1 = .ok (.ldc 254, 2) := by decide +kernel
theorem dX7_kindHere_3 : decode cX7_kindHere 3 = .ok (.invokevirtual 247, 3) := by decide +kernel
theorem dX7_kindHere_6 : decode cX7_kindHere 6 = .ok (.ifCond .eq 5, 3) := by decide +kernel
theorem dX7_kindHere_9 : decode cX7_kindHere 9 = .ok (.iconst 0, 1) := by decide +kernel
theorem dX7_kindHere_10 : decode cX7_kindHere 10 = .ok (.ireturn, 1) := by decide +kernel
theorem dX7_kindHere_11 : decode cX7_kindHere 11 = .ok (.aload_n 0, 1) := by decide +kernel
theorem dX7_kindHere_12 : decode cX7_kindHere 12 = .ok (.ldc_w 256, 3) := by decide +kernel
theorem dX7_kindHere_15 : decode cX7_kindHere 15 = .ok (.invokevirtual 247, 3) := by decide +kernel
theorem dX7_kindHere_18 : decode cX7_kindHere 18 = .ok (.ifCond .eq 5, 3) := by decide +kernel
theorem dX7_kindHere_21 : decode cX7_kindHere 21 = .ok (.iconst 1, 1) := by decide +kernel
theorem dX7_kindHere_22 : decode cX7_kindHere 22 = .ok (.ireturn, 1) := by decide +kernel
theorem dX7_kindHere_23 : decode cX7_kindHere 23 = .ok (.aload_n 0, 1) := by decide +kernel
theorem dX7_kindHere_24 : decode cX7_kindHere 24 = .ok (.ldc_w 258, 3) := by decide +kernel
theorem dX7_kindHere_27 : decode cX7_kindHere 27 = .ok (.invokevirtual 247, 3) := by decide +kernel
theorem dX7_kindHere_30 : decode cX7_kindHere 30 = .ok (.ifCond .eq 5, 3) := by decide +kernel
theorem dX7_kindHere_33 : decode cX7_kindHere 33 = .ok (.iconst 2, 1) := by decide +kernel
theorem dX7_kindHere_34 : decode cX7_kindHere 34 = .ok (.ireturn, 1) := by decide +kernel
theorem dX7_kindHere_35 : decode cX7_kindHere 35 = .ok (.aload_n 0, 1) := by decide +kernel
theorem dX7_kindHere_36 : decode cX7_kindHere 36 = .ok (.ldc_w 260, 3) := by decide +kernel
theorem dX7_kindHere_39 : decode cX7_kindHere 39 = .ok (.invokevirtual 247, 3) := by decide +kernel
theorem dX7_kindHere_42 : decode cX7_kindHere 42 = .ok (.ifCond .eq 5, 3) := by decide +kernel
theorem dX7_kindHere_45 : decode cX7_kindHere 45 = .ok (.iconst 3, 1) := by decide +kernel
theorem dX7_kindHere_46 : decode cX7_kindHere 46 = .ok (.ireturn, 1) := by decide +kernel
theorem dX7_kindHere_47 : decode cX7_kindHere 47 = .ok (.aload_n 0, 1) := by decide +kernel
theorem dX7_kindHere_48 : decode cX7_kindHere 48 = .ok (.ldc_w 262, 3) := by decide +kernel
theorem dX7_kindHere_51 : decode cX7_kindHere 51 = .ok (.invokevirtual 247, 3) := by decide +kernel
theorem dX7_kindHere_54 : decode cX7_kindHere 54 = .ok (.ifCond .eq 5, 3) := by decide +kernel
theorem dX7_kindHere_57 : decode cX7_kindHere 57 = .ok (.iconst 4, 1) := by decide +kernel
theorem dX7_kindHere_58 : decode cX7_kindHere 58 = .ok (.ireturn, 1) := by decide +kernel
theorem dX7_kindHere_59 : decode cX7_kindHere 59 = .ok (.aload_n 0, 1) := by decide +kernel
theorem dX7_kindHere_60 : decode cX7_kindHere 60 = .ok (.ldc_w 264, 3) := by decide +kernel
theorem dX7_kindHere_63 : decode cX7_kindHere 63 = .ok (.invokevirtual 247, 3) := by decide +kernel
theorem dX7_kindHere_66 : decode cX7_kindHere 66 = .ok (.ifCond .eq 7, 3) := by decide +kernel
theorem dX7_kindHere_69 : decode cX7_kindHere 69 = .ok (.iconst 5, 1) := by decide +kernel
theorem dX7_kindHere_70 : decode cX7_kindHere 70 = .ok (.goto 19, 3) := by decide +kernel
theorem dX7_kindHere_73 : decode cX7_kindHere 73 = .ok (.aload_n 0, 1) := by decide +kernel
theorem dX7_kindHere_74 : decode cX7_kindHere 74 = .ok (.ldc_w 266, 3) := by decide +kernel
theorem dX7_kindHere_77 : decode cX7_kindHere 77 = .ok (.invokevirtual 247, 3) := by decide +kernel
theorem dX7_kindHere_80 : decode cX7_kindHere 80 = .ok (.ifCond .eq 8, 3) := by decide +kernel
theorem dX7_kindHere_83 : decode cX7_kindHere 83 = .ok (.bipush 6, 2) := by decide +kernel
theorem dX7_kindHere_85 : decode cX7_kindHere 85 = .ok (.goto 4, 3) := by decide +kernel
theorem dX7_kindHere_88 : decode cX7_kindHere 88 = .ok (.iconst (-1), 1) := by decide +kernel
theorem dX7_kindHere_89 : decode cX7_kindHere 89 = .ok (.ireturn, 1) := by decide +kernel
theorem dX7_friendsItem_0 : decode cX7_friendsItem 0 = .ok (.aload_n 0, 1) := by decide +kernel
theorem dX7_friendsItem_1 : decode cX7_friendsItem 1 = .ok (.iconst 0, 1) := by decide +kernel
theorem dX7_friendsItem_2 : decode cX7_friendsItem 2 = .ok (.bipush 7, 2) := by decide +kernel
theorem dX7_friendsItem_4 : decode cX7_friendsItem 4 = .ok (.iconst 1, 1) := by decide +kernel
theorem dX7_friendsItem_5 : decode cX7_friendsItem 5 = .ok (.invokevirtual 268, 3) := by decide +kernel
theorem dX7_friendsItem_8 : decode cX7_friendsItem 8 = .ok (.istore_n 2, 1) := by decide +kernel
theorem dX7_friendsItem_9 : decode cX7_friendsItem 9 = .ok (.aload_n 0, 1) := by decide +kernel
theorem dX7_friendsItem_10 : decode cX7_friendsItem 10 = .ok (.iconst 0, 1) := by decide +kernel
theorem dX7_friendsItem_11 : decode cX7_friendsItem 11 = .ok (.bipush 7, 2) := by decide +kernel
theorem dX7_friendsItem_13 : decode cX7_friendsItem 13 = .ok (.aload_n 0, 1) := by decide +kernel
theorem dX7_friendsItem_14 : decode cX7_friendsItem 14 = .ok (.getfield 228, 3) := by decide +kernel
theorem dX7_friendsItem_17 : decode cX7_friendsItem 17 = .ok (.iload_n 2, 1) := by decide +kernel
theorem dX7_friendsItem_18 : decode cX7_friendsItem 18 = .ok (.if_icmp .eq 7, 3) := by decide +kernel
theorem dX7_friendsItem_21 : decode cX7_friendsItem 21 = .ok (.iconst 1, 1) := by decide +kernel
theorem dX7_friendsItem_22 : decode cX7_friendsItem 22 = .ok (.goto 4, 3) := by decide +kernel
theorem dX7_friendsItem_25 : decode cX7_friendsItem 25 = .ok (.iconst 0, 1) := by decide +kernel
theorem dX7_friendsItem_26 : decode cX7_friendsItem 26 = .ok (.invokevirtual 268, 3) := by decide +kernel
theorem dX7_friendsItem_29 : decode cX7_friendsItem 29 = .ok (.istore_n 3, 1) := by decide +kernel
theorem dX7_friendsItem_30 : decode cX7_friendsItem 30 = .ok (.aload_n 0, 1) := by decide +kernel
theorem dX7_friendsItem_31 : decode cX7_friendsItem 31 = .ok (.getfield 234, 3) := by decide +kernel
theorem dX7_friendsItem_34 : decode cX7_friendsItem 34 = .ok (.ifCond .ne 10, 3) := by decide +kernel
theorem dX7_friendsItem_37 : decode cX7_friendsItem 37 = .ok (.aload_n 0, 1) := by decide +kernel
theorem dX7_friendsItem_38 : decode cX7_friendsItem 38 = .ok (.iload_n 2, 1) := by decide +kernel
theorem dX7_friendsItem_39 : decode cX7_friendsItem 39 = .ok (.iload_n 3, 1) := by decide +kernel
theorem dX7_friendsItem_40 : decode cX7_friendsItem 40 = .ok (.iload_n 1, 1) := by decide +kernel
theorem dX7_friendsItem_41 : decode cX7_friendsItem 41 = .ok (.invokevirtual 82, 3) := by decide +kernel
theorem dX7_friendsItem_44 : decode cX7_friendsItem 44 = .ok (.return_, 1) := by decide +kernel
theorem dX7_weightItem_0 : decode cX7_weightItem 0 = .ok (.aload_n 0, 1) := by decide +kernel
theorem dX7_weightItem_1 : decode cX7_weightItem 1 = .ok (.iconst 0, 1) := by decide +kernel
theorem dX7_weightItem_2 : decode cX7_weightItem 2 = .ok (.bipush 7, 2) := by decide +kernel
theorem dX7_weightItem_4 : decode cX7_weightItem 4 = .ok (.iconst 1, 1) := by decide +kernel
theorem dX7_weightItem_5 : decode cX7_weightItem 5 = .ok (.invokevirtual 268, 3) := by decide +kernel
theorem dX7_weightItem_8 : decode cX7_weightItem 8 = .ok (.istore_n 1, 1) := by decide +kernel
theorem dX7_weightItem_9 : decode cX7_weightItem 9 = .ok (.aload_n 0, 1) := by decide +kernel
theorem dX7_weightItem_10 : decode cX7_weightItem 10 = .ok (.iconst 1, 1) := by decide +kernel
theorem dX7_weightItem_11 : decode cX7_weightItem 11 = .ok (.bipush 99, 2) := by decide +kernel
theorem dX7_weightItem_13 : decode cX7_weightItem 13 = .ok (.iconst 1, 1) := by decide +kernel
theorem dX7_weightItem_14 : decode cX7_weightItem 14 = .ok (.invokevirtual 268, 3) := by decide +kernel
theorem dX7_weightItem_17 : decode cX7_weightItem 17 = .ok (.istore_n 2, 1) := by decide +kernel
theorem dX7_weightItem_18 : decode cX7_weightItem 18 = .ok (.aload_n 0, 1) := by decide +kernel
theorem dX7_weightItem_19 : decode cX7_weightItem 19 = .ok (.getfield 234, 3) := by decide +kernel
theorem dX7_weightItem_22 : decode cX7_weightItem 22 = .ok (.ifCond .ne 13, 3) := by decide +kernel
theorem dX7_weightItem_25 : decode cX7_weightItem 25 = .ok (.aload_n 0, 1) := by decide +kernel
theorem dX7_weightItem_26 : decode cX7_weightItem 26 = .ok (.getfield 9, 3) := by decide +kernel
theorem dX7_weightItem_29 : decode cX7_weightItem 29 = .ok (.bipush 68, 2) := by decide +kernel
theorem dX7_weightItem_31 : decode cX7_weightItem 31 = .ok (.iload_n 1, 1) := by decide +kernel
theorem dX7_weightItem_32 : decode cX7_weightItem 32 = .ok (.iadd, 1) := by decide +kernel
theorem dX7_weightItem_33 : decode cX7_weightItem 33 = .ok (.iload_n 2, 1) := by decide +kernel
theorem dX7_weightItem_34 : decode cX7_weightItem 34 = .ok (.iastore, 1) := by decide +kernel
theorem dX7_weightItem_35 : decode cX7_weightItem 35 = .ok (.return_, 1) := by decide +kernel
theorem dX7_sits_0 : decode cX7_sits 0 = .ok (.iconst 0, 1) := by decide +kernel
theorem dX7_sits_1 : decode cX7_sits 1 = .ok (.istore_n 2, 1) := by decide +kernel
theorem dX7_sits_2 : decode cX7_sits 2 = .ok (.iconst 1, 1) := by decide +kernel
theorem dX7_sits_3 : decode cX7_sits 3 = .ok (.istore_n 3, 1) := by decide +kernel
theorem dX7_sits_4 : decode cX7_sits 4 = .ok (.iload_n 3, 1) := by decide +kernel
theorem dX7_sits_5 : decode cX7_sits 5 = .ok (.ifCond .eq 117, 3) := by decide +kernel
theorem dX7_sits_8 : decode cX7_sits 8 = .ok (.iload_n 2, 1) := by decide +kernel
theorem dX7_sits_9 : decode cX7_sits 9 = .ok (.aload_n 0, 1) := by decide +kernel
theorem dX7_sits_10 : decode cX7_sits 10 = .ok (.iload_n 1, 1) := by decide +kernel
theorem dX7_sits_11 : decode cX7_sits 11 = .ok (.invokevirtual 66, 3) := by decide +kernel
theorem dX7_sits_14 : decode cX7_sits 14 = .ok (.if_icmp .ge 37, 3) := by decide +kernel
theorem dX7_sits_17 : decode cX7_sits 17 = .ok (.aload_n 0, 1) := by decide +kernel
theorem dX7_sits_18 : decode cX7_sits 18 = .ok (.getfield 228, 3) := by decide +kernel
theorem dX7_sits_21 : decode cX7_sits 21 = .ok (.bipush 8, 2) := by decide +kernel
theorem dX7_sits_23 : decode cX7_sits 23 = .ok (.if_icmp .eq 24, 3) := by decide +kernel
theorem dX7_sits_26 : decode cX7_sits 26 = .ok (.aload_n 0, 1) := by decide +kernel
theorem dX7_sits_27 : decode cX7_sits 27 = .ok (.getfield 228, 3) := by decide +kernel
theorem dX7_sits_30 : decode cX7_sits 30 = .ok (.invokestatic 69, 3) := by decide +kernel
theorem dX7_sits_33 : decode cX7_sits 33 = .ok (.ifCond .eq 14, 3) := by decide +kernel
theorem dX7_sits_36 : decode cX7_sits 36 = .ok (.aload_n 0, 1) := by decide +kernel
theorem dX7_sits_37 : decode cX7_sits 37 = .ok (.aload_n 0, 1) := by decide +kernel
theorem dX7_sits_38 : decode cX7_sits 38 = .ok (.getfield 228, 3) := by decide +kernel
theorem dX7_sits_41 : decode cX7_sits 41 = .ok (.invokevirtual 154, 3) := by decide +kernel
theorem dX7_sits_44 : decode cX7_sits 44 = .ok (.ifCond .ge 7, 3) := by decide +kernel
theorem dX7_sits_47 : decode cX7_sits 47 = .ok (.iconst 1, 1) := by decide +kernel
theorem dX7_sits_48 : decode cX7_sits 48 = .ok (.goto 4, 3) := by decide +kernel
theorem dX7_sits_51 : decode cX7_sits 51 = .ok (.iconst 0, 1) := by decide +kernel
theorem dX7_sits_52 : decode cX7_sits 52 = .ok (.istore 4, 2) := by decide +kernel
theorem dX7_sits_54 : decode cX7_sits 54 = .ok (.aload_n 0, 1) := by decide +kernel
theorem dX7_sits_55 : decode cX7_sits 55 = .ok (.iconst 0, 1) := by decide +kernel
theorem dX7_sits_56 : decode cX7_sits 56 = .ok (.bipush 8, 2) := by decide +kernel
theorem dX7_sits_58 : decode cX7_sits 58 = .ok (.iload 4, 2) := by decide +kernel
theorem dX7_sits_60 : decode cX7_sits 60 = .ok (.invokevirtual 268, 3) := by decide +kernel
theorem dX7_sits_63 : decode cX7_sits 63 = .ok (.istore 5, 2) := by decide +kernel
theorem dX7_sits_65 : decode cX7_sits 65 = .ok (.aload_n 0, 1) := by decide +kernel
theorem dX7_sits_66 : decode cX7_sits 66 = .ok (.getfield 234, 3) := by decide +kernel
theorem dX7_sits_69 : decode cX7_sits 69 = .ok (.ifCond .ne 26, 3) := by decide +kernel
theorem dX7_sits_72 : decode cX7_sits 72 = .ok (.aload_n 0, 1) := by decide +kernel
theorem dX7_sits_73 : decode cX7_sits 73 = .ok (.getfield 9, 3) := by decide +kernel
theorem dX7_sits_76 : decode cX7_sits 76 = .ok (.iload_n 1, 1) := by decide +kernel
theorem dX7_sits_77 : decode cX7_sits 77 = .ok (.iload_n 2, 1) := by decide +kernel
theorem dX7_sits_78 : decode cX7_sits 78 = .ok (.invokestatic 106, 3) := by decide +kernel
theorem dX7_sits_81 : decode cX7_sits 81 = .ok (.iload 5, 2) := by decide +kernel
theorem dX7_sits_83 : decode cX7_sits 83 = .ok (.bipush 8, 2) := by decide +kernel
theorem dX7_sits_85 : decode cX7_sits 85 = .ok (.if_icmp .ne 7, 3) := by decide +kernel
theorem dX7_sits_88 : decode cX7_sits 88 = .ok (.iconst (-1), 1) := by decide +kernel
theorem dX7_sits_89 : decode cX7_sits 89 = .ok (.goto 5, 3) := by decide +kernel
theorem dX7_sits_92 : decode cX7_sits 92 = .ok (.iload 5, 2) := by decide +kernel
theorem dX7_sits_94 : decode cX7_sits 94 = .ok (.iastore, 1) := by decide +kernel
theorem dX7_sits_95 : decode cX7_sits 95 = .ok (.iinc 2 1, 3) := by decide +kernel
theorem dX7_sits_98 : decode cX7_sits 98 = .ok (.aload_n 0, 1) := by decide +kernel
theorem dX7_sits_99 : decode cX7_sits 99 = .ok (.getfield 234, 3) := by decide +kernel
theorem dX7_sits_102 : decode cX7_sits 102 = .ok (.ifCond .ne 15, 3) := by decide +kernel
theorem dX7_sits_105 : decode cX7_sits 105 = .ok (.aload_n 0, 1) := by decide +kernel
theorem dX7_sits_106 : decode cX7_sits 106 = .ok (.getfield 231, 3) := by decide +kernel
theorem dX7_sits_109 : decode cX7_sits 109 = .ok (.iconst 2, 1) := by decide +kernel
theorem dX7_sits_110 : decode cX7_sits 110 = .ok (.if_icmp .ne 7, 3) := by decide +kernel
theorem dX7_sits_113 : decode cX7_sits 113 = .ok (.iconst 1, 1) := by decide +kernel
theorem dX7_sits_114 : decode cX7_sits 114 = .ok (.goto 4, 3) := by decide +kernel
theorem dX7_sits_117 : decode cX7_sits 117 = .ok (.iconst 0, 1) := by decide +kernel
theorem dX7_sits_118 : decode cX7_sits 118 = .ok (.istore_n 3, 1) := by decide +kernel
theorem dX7_sits_119 : decode cX7_sits 119 = .ok (.goto (-115), 3) := by decide +kernel
theorem dX7_sits_122 : decode cX7_sits 122 = .ok (.return_, 1) := by decide +kernel
theorem dX7_benchItem_0 : decode cX7_benchItem 0 = .ok (.aload_n 0, 1) := by decide +kernel
theorem dX7_benchItem_1 : decode cX7_benchItem 1 = .ok (.aload_n 0, 1) := by decide +kernel
theorem dX7_benchItem_2 : decode cX7_benchItem 2 = .ok (.getfield 234, 3) := by decide +kernel
theorem dX7_benchItem_5 : decode cX7_benchItem 5 = .ok (.ifCond .ne 17, 3) := by decide +kernel
theorem dX7_benchItem_8 : decode cX7_benchItem 8 = .ok (.iload_n 1, 1) := by decide +kernel
theorem dX7_benchItem_9 : decode cX7_benchItem 9 = .ok (.ifCond .lt 13, 3) := by decide +kernel
theorem dX7_benchItem_12 : decode cX7_benchItem 12 = .ok (.aload_n 0, 1) := by decide +kernel
theorem dX7_benchItem_13 : decode cX7_benchItem 13 = .ok (.getfield 9, 3) := by decide +kernel
theorem dX7_benchItem_16 : decode cX7_benchItem 16 = .ok (.iconst 3, 1) := by decide +kernel
theorem dX7_benchItem_17 : decode cX7_benchItem 17 = .ok (.iaload, 1) := by decide +kernel
theorem dX7_benchItem_18 : decode cX7_benchItem 18 = .ok (.iconst 5, 1) := by decide +kernel
theorem dX7_benchItem_19 : decode cX7_benchItem 19 = .ok (.if_icmp .ne 7, 3) := by decide +kernel
theorem dX7_benchItem_22 : decode cX7_benchItem 22 = .ok (.iconst 1, 1) := by decide +kernel
theorem dX7_benchItem_23 : decode cX7_benchItem 23 = .ok (.goto 4, 3) := by decide +kernel
theorem dX7_benchItem_26 : decode cX7_benchItem 26 = .ok (.iconst 0, 1) := by decide +kernel
theorem dX7_benchItem_27 : decode cX7_benchItem 27 = .ok (.putfield 234, 3) := by decide +kernel
theorem dX7_benchItem_30 : decode cX7_benchItem 30 = .ok (.aload_n 0, 1) := by decide +kernel
theorem dX7_benchItem_31 : decode cX7_benchItem 31 = .ok (.getfield 234, 3) := by decide +kernel
theorem dX7_benchItem_34 : decode cX7_benchItem 34 = .ok (.ifCond .eq 4, 3) := by decide +kernel
theorem dX7_benchItem_37 : decode cX7_benchItem 37 = .ok (.return_, 1) := by decide +kernel
theorem dX7_benchItem_38 : decode cX7_benchItem 38 = .ok (.aload_n 0, 1) := by decide +kernel
theorem dX7_benchItem_39 : decode cX7_benchItem 39 = .ok (.invokevirtual 251, 3) := by decide +kernel
theorem dX7_benchItem_42 : decode cX7_benchItem 42 = .ok (.aload_n 0, 1) := by decide +kernel
theorem dX7_benchItem_43 : decode cX7_benchItem 43 = .ok (.aload_n 0, 1) := by decide +kernel
theorem dX7_benchItem_44 : decode cX7_benchItem 44 = .ok (.ldc_w 270, 3) := by decide +kernel
theorem dX7_benchItem_47 : decode cX7_benchItem 47 = .ok (.invokevirtual 271, 3) := by decide +kernel
theorem dX7_benchItem_50 : decode cX7_benchItem 50 = .ok (.ifCond .ne 7, 3) := by decide +kernel
theorem dX7_benchItem_53 : decode cX7_benchItem 53 = .ok (.iconst 1, 1) := by decide +kernel
theorem dX7_benchItem_54 : decode cX7_benchItem 54 = .ok (.goto 4, 3) := by decide +kernel
theorem dX7_benchItem_57 : decode cX7_benchItem 57 = .ok (.iconst 0, 1) := by decide +kernel
theorem dX7_benchItem_58 : decode cX7_benchItem 58 = .ok (.putfield 234, 3) := by decide +kernel
theorem dX7_benchItem_61 : decode cX7_benchItem 61 = .ok (.aload_n 0, 1) := by decide +kernel
theorem dX7_benchItem_62 : decode cX7_benchItem 62 = .ok (.iconst 1, 1) := by decide +kernel
theorem dX7_benchItem_63 : decode cX7_benchItem 63 = .ok (.bipush 8, 2) := by decide +kernel
theorem dX7_benchItem_65 : decode cX7_benchItem 65 = .ok (.iconst 1, 1) := by decide +kernel
theorem dX7_benchItem_66 : decode cX7_benchItem 66 = .ok (.invokevirtual 268, 3) := by decide +kernel
theorem dX7_benchItem_69 : decode cX7_benchItem 69 = .ok (.istore_n 2, 1) := by decide +kernel
theorem dX7_benchItem_70 : decode cX7_benchItem 70 = .ok (.aload_n 0, 1) := by decide +kernel
theorem dX7_benchItem_71 : decode cX7_benchItem 71 = .ok (.getfield 234, 3) := by decide +kernel
theorem dX7_benchItem_74 : decode cX7_benchItem 74 = .ok (.ifCond .eq 4, 3) := by decide +kernel
theorem dX7_benchItem_77 : decode cX7_benchItem 77 = .ok (.return_, 1) := by decide +kernel
theorem dX7_benchItem_78 : decode cX7_benchItem 78 = .ok (.aload_n 0, 1) := by decide +kernel
theorem dX7_benchItem_79 : decode cX7_benchItem 79 = .ok (.iload_n 1, 1) := by decide +kernel
theorem dX7_benchItem_80 : decode cX7_benchItem 80 = .ok (.iload_n 2, 1) := by decide +kernel
theorem dX7_benchItem_81 : decode cX7_benchItem 81 = .ok (.invokevirtual 139, 3) := by decide +kernel
theorem dX7_benchItem_84 : decode cX7_benchItem 84 = .ok (.aload_n 0, 1) := by decide +kernel
theorem dX7_benchItem_85 : decode cX7_benchItem 85 = .ok (.ldc_w 274, 3) := by decide +kernel
theorem dX7_benchItem_88 : decode cX7_benchItem 88 = .ok (.invokevirtual 271, 3) := by decide +kernel
theorem dX7_benchItem_91 : decode cX7_benchItem 91 = .ok (.ifCond .eq 15, 3) := by decide +kernel
theorem dX7_benchItem_94 : decode cX7_benchItem 94 = .ok (.aload_n 0, 1) := by decide +kernel
theorem dX7_benchItem_95 : decode cX7_benchItem 95 = .ok (.aload_n 0, 1) := by decide +kernel
theorem dX7_benchItem_96 : decode cX7_benchItem 96 = .ok (.getfield 9, 3) := by decide +kernel
theorem dX7_benchItem_99 : decode cX7_benchItem 99 = .ok (.iconst 3, 1) := by decide +kernel
theorem dX7_benchItem_100 : decode cX7_benchItem 100 = .ok (.iaload, 1) := by decide +kernel
theorem dX7_benchItem_101 : decode cX7_benchItem 101 = .ok (.iconst 1, 1) := by decide +kernel
theorem dX7_benchItem_102 : decode cX7_benchItem 102 = .ok (.isub, 1) := by decide +kernel
theorem dX7_benchItem_103 : decode cX7_benchItem 103 = .ok (.invokevirtual 276, 3) := by decide +kernel
theorem dX7_benchItem_106 : decode cX7_benchItem 106 = .ok (.return_, 1) := by decide +kernel
theorem dX7_heldItem_0 : decode cX7_heldItem 0 = .ok (.aload_n 0, 1) := by decide +kernel
theorem dX7_heldItem_1 : decode cX7_heldItem 1 = .ok (.iconst 0, 1) := by decide +kernel
theorem dX7_heldItem_2 : decode cX7_heldItem 2 = .ok (.sipush 999, 3) := by decide +kernel
theorem dX7_heldItem_5 : decode cX7_heldItem 5 = .ok (.iconst 1, 1) := by decide +kernel
theorem dX7_heldItem_6 : decode cX7_heldItem 6 = .ok (.invokevirtual 268, 3) := by decide +kernel
theorem dX7_heldItem_9 : decode cX7_heldItem 9 = .ok (.istore_n 1, 1) := by decide +kernel
theorem dX7_heldItem_10 : decode cX7_heldItem 10 = .ok (.aload_n 0, 1) := by decide +kernel
theorem dX7_heldItem_11 : decode cX7_heldItem 11 = .ok (.getfield 234, 3) := by decide +kernel
theorem dX7_heldItem_14 : decode cX7_heldItem 14 = .ok (.ifCond .ne 10, 3) := by decide +kernel
theorem dX7_heldItem_17 : decode cX7_heldItem 17 = .ok (.aload_n 0, 1) := by decide +kernel
theorem dX7_heldItem_18 : decode cX7_heldItem 18 = .ok (.getfield 9, 3) := by decide +kernel
theorem dX7_heldItem_21 : decode cX7_heldItem 21 = .ok (.iconst 1, 1) := by decide +kernel
theorem dX7_heldItem_22 : decode cX7_heldItem 22 = .ok (.iload_n 1, 1) := by decide +kernel
theorem dX7_heldItem_23 : decode cX7_heldItem 23 = .ok (.iastore, 1) := by decide +kernel
theorem dX7_heldItem_24 : decode cX7_heldItem 24 = .ok (.return_, 1) := by decide +kernel
theorem dX7_item_0 : decode cX7_item 0 = .ok (.aload_n 0, 1) := by decide +kernel
theorem dX7_item_1 : decode cX7_item 1 = .ok (.ldc_w 278, 3) := by decide +kernel
theorem dX7_item_4 : decode cX7_item 4 = .ok (.invokevirtual 271, 3) := by decide +kernel
theorem dX7_item_7 : decode cX7_item 7 = .ok (.ifCond .eq 11, 3) := by decide +kernel
theorem dX7_item_10 : decode cX7_item 10 = .ok (.aload_n 0, 1) := by decide +kernel
theorem dX7_item_11 : decode cX7_item 11 = .ok (.iconst 1, 1) := by decide +kernel
theorem dX7_item_12 : decode cX7_item 12 = .ok (.invokevirtual 280, 3) := by decide +kernel
theorem dX7_item_15 : decode cX7_item 15 = .ok (.goto 63, 3) := by decide +kernel
theorem dX7_item_18 : decode cX7_item 18 = .ok (.aload_n 0, 1) := by decide +kernel
theorem dX7_item_19 : decode cX7_item 19 = .ok (.ldc_w 283, 3) := by decide +kernel
theorem dX7_item_22 : decode cX7_item 22 = .ok (.invokevirtual 271, 3) := by decide +kernel
theorem dX7_item_25 : decode cX7_item 25 = .ok (.ifCond .eq 11, 3) := by decide +kernel
theorem dX7_item_28 : decode cX7_item 28 = .ok (.aload_n 0, 1) := by decide +kernel
theorem dX7_item_29 : decode cX7_item 29 = .ok (.iconst 2, 1) := by decide +kernel
theorem dX7_item_30 : decode cX7_item 30 = .ok (.invokevirtual 280, 3) := by decide +kernel
theorem dX7_item_33 : decode cX7_item 33 = .ok (.goto 45, 3) := by decide +kernel
theorem dX7_item_36 : decode cX7_item 36 = .ok (.aload_n 0, 1) := by decide +kernel
theorem dX7_item_37 : decode cX7_item 37 = .ok (.ldc_w 285, 3) := by decide +kernel
theorem dX7_item_40 : decode cX7_item 40 = .ok (.invokevirtual 271, 3) := by decide +kernel
theorem dX7_item_43 : decode cX7_item 43 = .ok (.ifCond .eq 10, 3) := by decide +kernel
theorem dX7_item_46 : decode cX7_item 46 = .ok (.aload_n 0, 1) := by decide +kernel
theorem dX7_item_47 : decode cX7_item 47 = .ok (.invokevirtual 287, 3) := by decide +kernel
theorem dX7_item_50 : decode cX7_item 50 = .ok (.goto 28, 3) := by decide +kernel
theorem dX7_item_53 : decode cX7_item 53 = .ok (.aload_n 0, 1) := by decide +kernel
theorem dX7_item_54 : decode cX7_item 54 = .ok (.ldc_w 290, 3) := by decide +kernel
theorem dX7_item_57 : decode cX7_item 57 = .ok (.invokevirtual 271, 3) := by decide +kernel
theorem dX7_item_60 : decode cX7_item 60 = .ok (.ifCond .eq 10, 3) := by decide +kernel
theorem dX7_item_63 : decode cX7_item 63 = .ok (.aload_n 0, 1) := by decide +kernel
theorem dX7_item_64 : decode cX7_item 64 = .ok (.invokevirtual 292, 3) := by decide +kernel
theorem dX7_item_67 : decode cX7_item 67 = .ok (.goto 11, 3) := by decide +kernel
theorem dX7_item_70 : decode cX7_item 70 = .ok (.aload_n 0, 1) := by decide +kernel
theorem dX7_item_71 : decode cX7_item 71 = .ok (.aload_n 0, 1) := by decide +kernel
theorem dX7_item_72 : decode cX7_item 72 = .ok (.invokevirtual 295, 3) := by decide +kernel
theorem dX7_item_75 : decode cX7_item 75 = .ok (.invokevirtual 298, 3) := by decide +kernel
theorem dX7_item_78 : decode cX7_item 78 = .ok (.return_, 1) := by decide +kernel
theorem dX7_text_0 : decode cX7_text 0 = .ok (.aload_n 0, 1) := by decide +kernel
theorem dX7_text_1 : decode cX7_text 1 = .ok (.getfield 9, 3) := by decide +kernel
theorem dX7_text_4 : decode cX7_text 4 = .ok (.aload_n 0, 1) := by decide +kernel
theorem dX7_text_5 : decode cX7_text 5 = .ok (.getfield 16, 3) := by decide +kernel
theorem dX7_text_8 : decode cX7_text 8 = .ok (.invokestatic 167, 3) := by decide +kernel
theorem dX7_text_11 : decode cX7_text 11 = .ok (.aload_n 0, 1) := by decide +kernel
theorem dX7_text_12 : decode cX7_text 12 = .ok (.iconst 0, 1) := by decide +kernel
theorem dX7_text_13 : decode cX7_text 13 = .ok (.putfield 218, 3) := by decide +kernel
theorem dX7_text_16 : decode cX7_text 16 = .ok (.aload_n 0, 1) := by decide +kernel
theorem dX7_text_17 : decode cX7_text 17 = .ok (.iconst 0, 1) := by decide +kernel
theorem dX7_text_18 : decode cX7_text 18 = .ok (.putfield 234, 3) := by decide +kernel
theorem dX7_text_21 : decode cX7_text 21 = .ok (.aload_n 0, 1) := by decide +kernel
theorem dX7_text_22 : decode cX7_text 22 = .ok (.invokevirtual 251, 3) := by decide +kernel
theorem dX7_text_25 : decode cX7_text 25 = .ok (.iconst 0, 1) := by decide +kernel
theorem dX7_text_26 : decode cX7_text 26 = .ok (.istore_n 1, 1) := by decide +kernel
theorem dX7_text_27 : decode cX7_text 27 = .ok (.iconst 1, 1) := by decide +kernel
theorem dX7_text_28 : decode cX7_text 28 = .ok (.istore_n 2, 1) := by decide +kernel
theorem dX7_text_29 : decode cX7_text 29 = .ok (.iload_n 2, 1) := by decide +kernel
theorem dX7_text_30 : decode cX7_text 30 = .ok (.ifCond .eq 28, 3) := by decide +kernel
theorem dX7_text_33 : decode cX7_text 33 = .ok (.aload_n 0, 1) := by decide +kernel
theorem dX7_text_34 : decode cX7_text 34 = .ok (.invokevirtual 301, 3) := by decide +kernel
theorem dX7_text_37 : decode cX7_text 37 = .ok (.iinc 1 1, 3) := by decide +kernel
theorem dX7_text_40 : decode cX7_text 40 = .ok (.aload_n 0, 1) := by decide +kernel
theorem dX7_text_41 : decode cX7_text 41 = .ok (.bipush 59, 2) := by decide +kernel
theorem dX7_text_43 : decode cX7_text 43 = .ok (.invokevirtual 304, 3) := by decide +kernel
theorem dX7_text_46 : decode cX7_text 46 = .ok (.istore_n 2, 1) := by decide +kernel
theorem dX7_text_47 : decode cX7_text 47 = .ok (.iload_n 2, 1) := by decide +kernel
theorem dX7_text_48 : decode cX7_text 48 = .ok (.ifCond .eq (-19), 3) := by decide +kernel
theorem dX7_text_51 : decode cX7_text 51 = .ok (.aload_n 0, 1) := by decide +kernel
theorem dX7_text_52 : decode cX7_text 52 = .ok (.invokevirtual 251, 3) := by decide +kernel
theorem dX7_text_55 : decode cX7_text 55 = .ok (.goto (-26), 3) := by decide +kernel
theorem dX7_text_58 : decode cX7_text 58 = .ok (.aload_n 0, 1) := by decide +kernel
theorem dX7_text_59 : decode cX7_text 59 = .ok (.aload_n 0, 1) := by decide +kernel
theorem dX7_text_60 : decode cX7_text 60 = .ok (.getfield 234, 3) := by decide +kernel
theorem dX7_text_63 : decode cX7_text 63 = .ok (.ifCond .ne 10, 3) := by decide +kernel
theorem dX7_text_66 : decode cX7_text 66 = .ok (.aload_n 0, 1) := by decide +kernel
theorem dX7_text_67 : decode cX7_text 67 = .ok (.getfield 231, 3) := by decide +kernel
theorem dX7_text_70 : decode cX7_text 70 = .ok (.ifCond .eq 7, 3) := by decide +kernel
theorem dX7_text_73 : decode cX7_text 73 = .ok (.iconst 1, 1) := by decide +kernel
theorem dX7_text_74 : decode cX7_text 74 = .ok (.goto 4, 3) := by decide +kernel
theorem dX7_text_77 : decode cX7_text 77 = .ok (.iconst 0, 1) := by decide +kernel
theorem dX7_text_78 : decode cX7_text 78 = .ok (.putfield 234, 3) := by decide +kernel
theorem dX7_text_81 : decode cX7_text 81 = .ok (.aload_n 0, 1) := by decide +kernel
theorem dX7_text_82 : decode cX7_text 82 = .ok (.getfield 221, 3) := by decide +kernel
theorem dX7_text_85 : decode cX7_text 85 = .ok (.istore_n 3, 1) := by decide +kernel
theorem dX7_text_86 : decode cX7_text 86 = .ok (.aload_n 0, 1) := by decide +kernel
theorem dX7_text_87 : decode cX7_text 87 = .ok (.iconst 0, 1) := by decide +kernel
theorem dX7_text_88 : decode cX7_text 88 = .ok (.putfield 215, 3) := by decide +kernel
theorem dX7_text_91 : decode cX7_text 91 = .ok (.aload_n 0, 1) := by decide +kernel
theorem dX7_text_92 : decode cX7_text 92 = .ok (.getfield 234, 3) := by decide +kernel
theorem dX7_text_95 : decode cX7_text 95 = .ok (.ifCond .ne 5, 3) := by decide +kernel
theorem dX7_text_98 : decode cX7_text 98 = .ok (.iload_n 1, 1) := by decide +kernel
theorem dX7_text_99 : decode cX7_text 99 = .ok (.ireturn, 1) := by decide +kernel
theorem dX7_text_100 : decode cX7_text 100 = .ok (.aload_n 0, 1) := by decide +kernel
theorem dX7_text_101 : decode cX7_text 101 = .ok (.getfield 16, 3) := by decide +kernel
theorem dX7_text_104 : decode cX7_text 104 = .ok (.aload_n 0, 1) := by decide +kernel
theorem dX7_text_105 : decode cX7_text 105 = .ok (.getfield 9, 3) := by decide +kernel
theorem dX7_text_108 : decode cX7_text 108 = .ok (.invokestatic 167, 3) := by decide +kernel
theorem dX7_text_111 : decode cX7_text 111 = .ok (.iconst (-1), 1) := by decide +kernel
theorem dX7_text_112 : decode cX7_text 112 = .ok (.iload_n 3, 1) := by decide +kernel
theorem dX7_text_113 : decode cX7_text 113 = .ok (.isub, 1) := by decide +kernel
theorem dX7_text_114 : decode cX7_text 114 = .ok (.ireturn, 1) := by decide +kernel
theorem dX7_hold_0 : decode cX7_hold 0 = .ok (.iload_n 1, 1) := by decide +kernel
theorem dX7_hold_1 : decode cX7_hold 1 = .ok (.i2l, 1) := by decide +kernel
theorem dX7_hold_2 : decode cX7_hold 2 = .ok (.lconst 0, 1) := by decide +kernel
theorem dX7_hold_3 : decode cX7_hold 3 = .ok (.ldc2_w 307, 3) := by decide +kernel
theorem dX7_hold_6 : decode cX7_hold 6 = .ok (.invokestatic 54, 3) := by decide +kernel
theorem dX7_hold_9 : decode cX7_hold 9 = .ok (.ifCond .eq 16, 3) := by decide +kernel
theorem dX7_hold_12 : decode cX7_hold 12 = .ok (.iload_n 2, 1) := by decide +kernel
theorem dX7_hold_13 : decode cX7_hold 13 = .ok (.iconst (-1), 1) := by decide +kernel
theorem dX7_hold_14 : decode cX7_hold 14 = .ok (.if_icmp .eq 18, 3) := by decide +kernel
theorem dX7_hold_17 : decode cX7_hold 17 = .ok (.aload_n 0, 1) := by decide +kernel
theorem dX7_hold_18 : decode cX7_hold 18 = .ok (.iload_n 2, 1) := by decide +kernel
theorem dX7_hold_19 : decode cX7_hold 19 = .ok (.invokevirtual 62, 3) := by decide +kernel
theorem dX7_hold_22 : decode cX7_hold 22 = .ok (.ifCond .ne 10, 3) := by decide +kernel
theorem dX7_hold_25 : decode cX7_hold 25 = .ok (.aload_n 0, 1) := by decide +kernel
theorem dX7_hold_26 : decode cX7_hold 26 = .ok (.ldc 46, 2) := by decide +kernel
theorem dX7_hold_28 : decode cX7_hold 28 = .ok (.invokevirtual 48, 3) := by decide +kernel
theorem dX7_hold_31 : decode cX7_hold 31 = .ok (.ireturn, 1) := by decide +kernel
theorem dX7_hold_32 : decode cX7_hold 32 = .ok (.aload_n 0, 1) := by decide +kernel
theorem dX7_hold_33 : decode cX7_hold 33 = .ok (.getfield 9, 3) := by decide +kernel
theorem dX7_hold_36 : decode cX7_hold 36 = .ok (.bipush 126, 2) := by decide +kernel
theorem dX7_hold_38 : decode cX7_hold 38 = .ok (.iload_n 1, 1) := by decide +kernel
theorem dX7_hold_39 : decode cX7_hold 39 = .ok (.iadd, 1) := by decide +kernel
theorem dX7_hold_40 : decode cX7_hold 40 = .ok (.iload_n 2, 1) := by decide +kernel
theorem dX7_hold_41 : decode cX7_hold 41 = .ok (.iastore, 1) := by decide +kernel
theorem dX7_hold_42 : decode cX7_hold 42 = .ok (.iconst 1, 1) := by decide +kernel
theorem dX7_hold_43 : decode cX7_hold 43 = .ok (.ireturn, 1) := by decide +kernel
theorem dX7_above_0 : decode cX7_above 0 = .ok (.iload_n 0, 1) := by decide +kernel
theorem dX7_above_1 : decode cX7_above 1 = .ok (.tableswitch 51 0 6 #[43, 51, 51, 51, 45, 47, 49], 43) := by decide +kernel
theorem dX7_above_44 : decode cX7_above 44 = .ok (.iconst (-1), 1) := by decide +kernel
theorem dX7_above_45 : decode cX7_above 45 = .ok (.ireturn, 1) := by decide +kernel
theorem dX7_above_46 : decode cX7_above 46 = .ok (.iconst 1, 1) := by decide +kernel
theorem dX7_above_47 : decode cX7_above 47 = .ok (.ireturn, 1) := by decide +kernel
theorem dX7_above_48 : decode cX7_above 48 = .ok (.iconst 2, 1) := by decide +kernel
theorem dX7_above_49 : decode cX7_above 49 = .ok (.ireturn, 1) := by decide +kernel
theorem dX7_above_50 : decode cX7_above 50 = .ok (.iconst 3, 1) := by decide +kernel
theorem dX7_above_51 : decode cX7_above 51 = .ok (.ireturn, 1) := by decide +kernel
theorem dX7_above_52 : decode cX7_above 52 = .ok (.iconst 0, 1) := by decide +kernel
theorem dX7_above_53 : decode cX7_above 53 = .ok (.ireturn, 1) := by decide +kernel
theorem dX7_as_0 : decode cX7_as 0 = .ok (.iload_n 1, 1) := by decide +kernel
theorem dX7_as_1 : decode cX7_as 1 = .ok (.i2l, 1) := by decide +kernel
theorem dX7_as_2 : decode cX7_as 2 = .ok (.lconst 0, 1) := by decide +kernel
theorem dX7_as_3 : decode cX7_as 3 = .ok (.ldc2_w 307, 3) := by decide +kernel
theorem dX7_as_6 : decode cX7_as 6 = .ok (.invokestatic 54, 3) := by decide +kernel
theorem dX7_as_9 : decode cX7_as 9 = .ok (.ifCond .eq 10, 3) := by decide +kernel
theorem dX7_as_12 : decode cX7_as 12 = .ok (.iload_n 2, 1) := by decide +kernel
theorem dX7_as_13 : decode cX7_as 13 = .ok (.invokestatic 133, 3) := by decide +kernel
theorem dX7_as_16 : decode cX7_as 16 = .ok (.ifCond .ne 10, 3) := by decide +kernel
theorem dX7_as_19 : decode cX7_as 19 = .ok (.aload_n 0, 1) := by decide +kernel
theorem dX7_as_20 : decode cX7_as 20 = .ok (.ldc 46, 2) := by decide +kernel
theorem dX7_as_22 : decode cX7_as 22 = .ok (.invokevirtual 48, 3) := by decide +kernel
theorem dX7_as_25 : decode cX7_as 25 = .ok (.ireturn, 1) := by decide +kernel
theorem dX7_as_26 : decode cX7_as 26 = .ok (.aload_n 0, 1) := by decide +kernel
theorem dX7_as_27 : decode cX7_as 27 = .ok (.getfield 9, 3) := by decide +kernel
theorem dX7_as_30 : decode cX7_as 30 = .ok (.bipush 126, 2) := by decide +kernel
theorem dX7_as_32 : decode cX7_as 32 = .ok (.iload_n 1, 1) := by decide +kernel
theorem dX7_as_33 : decode cX7_as 33 = .ok (.iadd, 1) := by decide +kernel
theorem dX7_as_34 : decode cX7_as 34 = .ok (.iaload, 1) := by decide +kernel
theorem dX7_as_35 : decode cX7_as 35 = .ok (.istore_n 3, 1) := by decide +kernel
theorem dX7_as_36 : decode cX7_as 36 = .ok (.iload_n 3, 1) := by decide +kernel
theorem dX7_as_37 : decode cX7_as 37 = .ok (.ifCond .ge 11, 3) := by decide +kernel
theorem dX7_as_40 : decode cX7_as 40 = .ok (.aload_n 0, 1) := by decide +kernel
theorem dX7_as_41 : decode cX7_as 41 = .ok (.ldc_w 309, 3) := by decide +kernel
theorem dX7_as_44 : decode cX7_as 44 = .ok (.invokevirtual 48, 3) := by decide +kernel
theorem dX7_as_47 : decode cX7_as 47 = .ok (.ireturn, 1) := by decide +kernel
theorem dX7_as_48 : decode cX7_as 48 = .ok (.aload_n 0, 1) := by decide +kernel
theorem dX7_as_49 : decode cX7_as 49 = .ok (.iload_n 3, 1) := by decide +kernel
theorem dX7_as_50 : decode cX7_as 50 = .ok (.invokevirtual 96, 3) := by decide +kernel
theorem dX7_as_53 : decode cX7_as 53 = .ok (.istore 4, 2) := by decide +kernel
theorem dX7_as_55 : decode cX7_as 55 = .ok (.iload 4, 2) := by decide +kernel
theorem dX7_as_57 : decode cX7_as 57 = .ok (.ifCond .lt 21, 3) := by decide +kernel
theorem dX7_as_60 : decode cX7_as 60 = .ok (.iload 4, 2) := by decide +kernel
theorem dX7_as_62 : decode cX7_as 62 = .ok (.iload_n 2, 1) := by decide +kernel
theorem dX7_as_63 : decode cX7_as 63 = .ok (.if_icmp .ne 5, 3) := by decide +kernel
theorem dX7_as_66 : decode cX7_as 66 = .ok (.iload_n 3, 1) := by decide +kernel
theorem dX7_as_67 : decode cX7_as 67 = .ok (.ireturn, 1) := by decide +kernel
theorem dX7_as_68 : decode cX7_as 68 = .ok (.iload 4, 2) := by decide +kernel
theorem dX7_as_70 : decode cX7_as 70 = .ok (.invokestatic 310, 3) := by decide +kernel
theorem dX7_as_73 : decode cX7_as 73 = .ok (.istore 4, 2) := by decide +kernel
theorem dX7_as_75 : decode cX7_as 75 = .ok (.goto (-20), 3) := by decide +kernel
theorem dX7_as_78 : decode cX7_as 78 = .ok (.aload_n 0, 1) := by decide +kernel
theorem dX7_as_79 : decode cX7_as 79 = .ok (.ldc_w 313, 3) := by decide +kernel
theorem dX7_as_82 : decode cX7_as 82 = .ok (.invokevirtual 48, 3) := by decide +kernel
theorem dX7_as_85 : decode cX7_as 85 = .ok (.ireturn, 1) := by decide +kernel
theorem dX7_isSheet_0 : decode cX7_isSheet 0 = .ok (.iload_n 0, 1) := by decide +kernel
theorem dX7_isSheet_1 : decode cX7_isSheet 1 = .ok (.i2l, 1) := by decide +kernel
theorem dX7_isSheet_2 : decode cX7_isSheet 2 = .ok (.lconst 0, 1) := by decide +kernel
theorem dX7_isSheet_3 : decode cX7_isSheet 3 = .ok (.ldc2_w 314, 3) := by decide +kernel
theorem dX7_isSheet_6 : decode cX7_isSheet 6 = .ok (.invokestatic 54, 3) := by decide +kernel
theorem dX7_isSheet_9 : decode cX7_isSheet 9 = .ok (.ireturn, 1) := by decide +kernel
theorem dX7_sheet_0 : decode cX7_sheet 0 = .ok (.iload_n 1, 1) := by decide +kernel
theorem dX7_sheet_1 : decode cX7_sheet 1 = .ok (.invokestatic 316, 3) := by decide +kernel
theorem dX7_sheet_4 : decode cX7_sheet 4 = .ok (.ifCond .eq 25, 3) := by decide +kernel
theorem dX7_sheet_7 : decode cX7_sheet 7 = .ok (.iload_n 2, 1) := by decide +kernel
theorem dX7_sheet_8 : decode cX7_sheet 8 = .ok (.ifCond .eq 28, 3) := by decide +kernel
theorem dX7_sheet_11 : decode cX7_sheet 11 = .ok (.iload_n 2, 1) := by decide +kernel
theorem dX7_sheet_12 : decode cX7_sheet 12 = .ok (.bipush 8, 2) := by decide +kernel
theorem dX7_sheet_14 : decode cX7_sheet 14 = .ok (.if_icmp .eq 22, 3) := by decide +kernel
theorem dX7_sheet_17 : decode cX7_sheet 17 = .ok (.iload_n 2, 1) := by decide +kernel
theorem dX7_sheet_18 : decode cX7_sheet 18 = .ok (.bipush 16, 2) := by decide +kernel
theorem dX7_sheet_20 : decode cX7_sheet 20 = .ok (.if_icmp .eq 16, 3) := by decide +kernel
theorem dX7_sheet_23 : decode cX7_sheet 23 = .ok (.iload_n 2, 1) := by decide +kernel
theorem dX7_sheet_24 : decode cX7_sheet 24 = .ok (.bipush 32, 2) := by decide +kernel
theorem dX7_sheet_26 : decode cX7_sheet 26 = .ok (.if_icmp .eq 10, 3) := by decide +kernel
theorem dX7_sheet_29 : decode cX7_sheet 29 = .ok (.aload_n 0, 1) := by decide +kernel
theorem dX7_sheet_30 : decode cX7_sheet 30 = .ok (.ldc 46, 2) := by decide +kernel
theorem dX7_sheet_32 : decode cX7_sheet 32 = .ok (.invokevirtual 48, 3) := by decide +kernel
theorem dX7_sheet_35 : decode cX7_sheet 35 = .ok (.ireturn, 1) := by decide +kernel
theorem dX7_sheet_36 : decode cX7_sheet 36 = .ok (.iload_n 3, 1) := by decide +kernel
theorem dX7_sheet_37 : decode cX7_sheet 37 = .ok (.ifCond .ge 10, 3) := by decide +kernel
theorem dX7_sheet_40 : decode cX7_sheet 40 = .ok (.aload_n 0, 1) := by decide +kernel
theorem dX7_sheet_41 : decode cX7_sheet 41 = .ok (.ldc 189, 2) := by decide +kernel
theorem dX7_sheet_43 : decode cX7_sheet 43 = .ok (.invokevirtual 48, 3) := by decide +kernel
theorem dX7_sheet_46 : decode cX7_sheet 46 = .ok (.ireturn, 1) := by decide +kernel
theorem dX7_sheet_47 : decode cX7_sheet 47 = .ok (.iload_n 3, 1) := by decide +kernel
theorem dX7_sheet_48 : decode cX7_sheet 48 = .ok (.bipush 40, 2) := by decide +kernel
theorem dX7_sheet_50 : decode cX7_sheet 50 = .ok (.if_icmp .le 10, 3) := by decide +kernel
theorem dX7_sheet_53 : decode cX7_sheet 53 = .ok (.aload_n 0, 1) := by decide +kernel
theorem dX7_sheet_54 : decode cX7_sheet 54 = .ok (.ldc 46, 2) := by decide +kernel
theorem dX7_sheet_56 : decode cX7_sheet 56 = .ok (.invokevirtual 48, 3) := by decide +kernel
theorem dX7_sheet_59 : decode cX7_sheet 59 = .ok (.ireturn, 1) := by decide +kernel
theorem dX7_sheet_60 : decode cX7_sheet 60 = .ok (.aload_n 0, 1) := by decide +kernel
theorem dX7_sheet_61 : decode cX7_sheet 61 = .ok (.getfield 37, 3) := by decide +kernel
theorem dX7_sheet_64 : decode cX7_sheet 64 = .ok (.iload_n 1, 1) := by decide +kernel
theorem dX7_sheet_65 : decode cX7_sheet 65 = .ok (.iload_n 2, 1) := by decide +kernel
theorem dX7_sheet_66 : decode cX7_sheet 66 = .ok (.iastore, 1) := by decide +kernel
theorem dX7_sheet_67 : decode cX7_sheet 67 = .ok (.aload_n 0, 1) := by decide +kernel
theorem dX7_sheet_68 : decode cX7_sheet 68 = .ok (.getfield 40, 3) := by decide +kernel
theorem dX7_sheet_71 : decode cX7_sheet 71 = .ok (.iload_n 1, 1) := by decide +kernel
theorem dX7_sheet_72 : decode cX7_sheet 72 = .ok (.iload_n 2, 1) := by decide +kernel
theorem dX7_sheet_73 : decode cX7_sheet 73 = .ok (.ifCond .ne 7, 3) := by decide +kernel
theorem dX7_sheet_76 : decode cX7_sheet 76 = .ok (.iconst 0, 1) := by decide +kernel
theorem dX7_sheet_77 : decode cX7_sheet 77 = .ok (.goto 4, 3) := by decide +kernel
theorem dX7_sheet_80 : decode cX7_sheet 80 = .ok (.iload_n 3, 1) := by decide +kernel
theorem dX7_sheet_81 : decode cX7_sheet 81 = .ok (.iastore, 1) := by decide +kernel
theorem dX7_sheet_82 : decode cX7_sheet 82 = .ok (.iconst 0, 1) := by decide +kernel
theorem dX7_sheet_83 : decode cX7_sheet 83 = .ok (.istore 4, 2) := by decide +kernel
theorem dX7_sheet_85 : decode cX7_sheet 85 = .ok (.iload 4, 2) := by decide +kernel
theorem dX7_sheet_87 : decode cX7_sheet 87 = .ok (.bipush 40, 2) := by decide +kernel
theorem dX7_sheet_89 : decode cX7_sheet 89 = .ok (.if_icmp .ge 22, 3) := by decide +kernel
theorem dX7_sheet_92 : decode cX7_sheet 92 = .ok (.aload_n 0, 1) := by decide +kernel
theorem dX7_sheet_93 : decode cX7_sheet 93 = .ok (.getfield 43, 3) := by decide +kernel
theorem dX7_sheet_96 : decode cX7_sheet 96 = .ok (.bipush 40, 2) := by decide +kernel
theorem dX7_sheet_98 : decode cX7_sheet 98 = .ok (.iload_n 1, 1) := by decide +kernel
theorem dX7_sheet_99 : decode cX7_sheet 99 = .ok (.imul, 1) := by decide +kernel
theorem dX7_sheet_100 : decode cX7_sheet 100 = .ok (.iload 4, 2) := by decide +kernel
theorem dX7_sheet_102 : decode cX7_sheet 102 = .ok (.iadd, 1) := by decide +kernel
theorem dX7_sheet_103 : decode cX7_sheet 103 = .ok (.iconst 0, 1) := by decide +kernel
theorem dX7_sheet_104 : decode cX7_sheet 104 = .ok (.iastore, 1) := by decide +kernel
theorem dX7_sheet_105 : decode cX7_sheet 105 = .ok (.iinc 4 1, 3) := by decide +kernel
theorem dX7_sheet_108 : decode cX7_sheet 108 = .ok (.goto (-23), 3) := by decide +kernel
theorem dX7_sheet_111 : decode cX7_sheet 111 = .ok (.aload_n 0, 1) := by decide +kernel
theorem dX7_sheet_112 : decode cX7_sheet 112 = .ok (.getfield 40, 3) := by decide +kernel
theorem dX7_sheet_115 : decode cX7_sheet 115 = .ok (.iload_n 1, 1) := by decide +kernel
theorem dX7_sheet_116 : decode cX7_sheet 116 = .ok (.iaload, 1) := by decide +kernel
theorem dX7_sheet_117 : decode cX7_sheet 117 = .ok (.ireturn, 1) := by decide +kernel
theorem dX7_write_0 : decode cX7_write 0 = .ok (.iload_n 1, 1) := by decide +kernel
theorem dX7_write_1 : decode cX7_write 1 = .ok (.invokestatic 316, 3) := by decide +kernel
theorem dX7_write_4 : decode cX7_write 4 = .ok (.ifCond .ne 10, 3) := by decide +kernel
theorem dX7_write_7 : decode cX7_write 7 = .ok (.aload_n 0, 1) := by decide +kernel
theorem dX7_write_8 : decode cX7_write 8 = .ok (.ldc 46, 2) := by decide +kernel
theorem dX7_write_10 : decode cX7_write 10 = .ok (.invokevirtual 48, 3) := by decide +kernel
theorem dX7_write_13 : decode cX7_write 13 = .ok (.ireturn, 1) := by decide +kernel
theorem dX7_write_14 : decode cX7_write 14 = .ok (.aload_n 0, 1) := by decide +kernel
theorem dX7_write_15 : decode cX7_write 15 = .ok (.getfield 37, 3) := by decide +kernel
theorem dX7_write_18 : decode cX7_write 18 = .ok (.iload_n 1, 1) := by decide +kernel
theorem dX7_write_19 : decode cX7_write 19 = .ok (.iaload, 1) := by decide +kernel
theorem dX7_write_20 : decode cX7_write 20 = .ok (.ifCond .ne 11, 3) := by decide +kernel
theorem dX7_write_23 : decode cX7_write 23 = .ok (.aload_n 0, 1) := by decide +kernel
theorem dX7_write_24 : decode cX7_write 24 = .ok (.ldc_w 309, 3) := by decide +kernel
theorem dX7_write_27 : decode cX7_write 27 = .ok (.invokevirtual 48, 3) := by decide +kernel
theorem dX7_write_30 : decode cX7_write 30 = .ok (.ireturn, 1) := by decide +kernel
theorem dX7_write_31 : decode cX7_write 31 = .ok (.iload_n 2, 1) := by decide +kernel
theorem dX7_write_32 : decode cX7_write 32 = .ok (.i2l, 1) := by decide +kernel
theorem dX7_write_33 : decode cX7_write 33 = .ok (.lconst 0, 1) := by decide +kernel
theorem dX7_write_34 : decode cX7_write 34 = .ok (.aload_n 0, 1) := by decide +kernel
theorem dX7_write_35 : decode cX7_write 35 = .ok (.getfield 40, 3) := by decide +kernel
theorem dX7_write_38 : decode cX7_write 38 = .ok (.iload_n 1, 1) := by decide +kernel
theorem dX7_write_39 : decode cX7_write 39 = .ok (.iaload, 1) := by decide +kernel
theorem dX7_write_40 : decode cX7_write 40 = .ok (.iconst 1, 1) := by decide +kernel
theorem dX7_write_41 : decode cX7_write 41 = .ok (.isub, 1) := by decide +kernel
theorem dX7_write_42 : decode cX7_write 42 = .ok (.i2l, 1) := by decide +kernel
theorem dX7_write_43 : decode cX7_write 43 = .ok (.invokestatic 54, 3) := by decide +kernel
theorem dX7_write_46 : decode cX7_write 46 = .ok (.ifCond .ne 10, 3) := by decide +kernel
theorem dX7_write_49 : decode cX7_write 49 = .ok (.aload_n 0, 1) := by decide +kernel
theorem dX7_write_50 : decode cX7_write 50 = .ok (.ldc 46, 2) := by decide +kernel
theorem dX7_write_52 : decode cX7_write 52 = .ok (.invokevirtual 48, 3) := by decide +kernel
theorem dX7_write_55 : decode cX7_write 55 = .ok (.ireturn, 1) := by decide +kernel
theorem dX7_write_56 : decode cX7_write 56 = .ok (.aload_n 0, 1) := by decide +kernel
theorem dX7_write_57 : decode cX7_write 57 = .ok (.getfield 43, 3) := by decide +kernel
theorem dX7_write_60 : decode cX7_write 60 = .ok (.bipush 40, 2) := by decide +kernel
theorem dX7_write_62 : decode cX7_write 62 = .ok (.iload_n 1, 1) := by decide +kernel
theorem dX7_write_63 : decode cX7_write 63 = .ok (.imul, 1) := by decide +kernel
theorem dX7_write_64 : decode cX7_write 64 = .ok (.iload_n 2, 1) := by decide +kernel
theorem dX7_write_65 : decode cX7_write 65 = .ok (.iadd, 1) := by decide +kernel
theorem dX7_write_66 : decode cX7_write 66 = .ok (.aload_n 0, 1) := by decide +kernel
theorem dX7_write_67 : decode cX7_write 67 = .ok (.getfield 37, 3) := by decide +kernel
theorem dX7_write_70 : decode cX7_write 70 = .ok (.iload_n 1, 1) := by decide +kernel
theorem dX7_write_71 : decode cX7_write 71 = .ok (.iaload, 1) := by decide +kernel
theorem dX7_write_72 : decode cX7_write 72 = .ok (.bipush 8, 2) := by decide +kernel
theorem dX7_write_74 : decode cX7_write 74 = .ok (.if_icmp .ne 8, 3) := by decide +kernel
theorem dX7_write_77 : decode cX7_write 77 = .ok (.iload_n 3, 1) := by decide +kernel
theorem dX7_write_78 : decode cX7_write 78 = .ok (.i2b, 1) := by decide +kernel
theorem dX7_write_79 : decode cX7_write 79 = .ok (.goto 20, 3) := by decide +kernel
theorem dX7_write_82 : decode cX7_write 82 = .ok (.aload_n 0, 1) := by decide +kernel
theorem dX7_write_83 : decode cX7_write 83 = .ok (.getfield 37, 3) := by decide +kernel
theorem dX7_write_86 : decode cX7_write 86 = .ok (.iload_n 1, 1) := by decide +kernel
theorem dX7_write_87 : decode cX7_write 87 = .ok (.iaload, 1) := by decide +kernel
theorem dX7_write_88 : decode cX7_write 88 = .ok (.bipush 16, 2) := by decide +kernel
theorem dX7_write_90 : decode cX7_write 90 = .ok (.if_icmp .ne 8, 3) := by decide +kernel
theorem dX7_write_93 : decode cX7_write 93 = .ok (.iload_n 3, 1) := by decide +kernel
theorem dX7_write_94 : decode cX7_write 94 = .ok (.i2s, 1) := by decide +kernel
theorem dX7_write_95 : decode cX7_write 95 = .ok (.goto 4, 3) := by decide +kernel
theorem dX7_write_98 : decode cX7_write 98 = .ok (.iload_n 3, 1) := by decide +kernel
theorem dX7_write_99 : decode cX7_write 99 = .ok (.iastore, 1) := by decide +kernel
theorem dX7_write_100 : decode cX7_write 100 = .ok (.iconst 1, 1) := by decide +kernel
theorem dX7_write_101 : decode cX7_write 101 = .ok (.ireturn, 1) := by decide +kernel
theorem dX7_copy_0 : decode cX7_copy 0 = .ok (.iload_n 1, 1) := by decide +kernel
theorem dX7_copy_1 : decode cX7_copy 1 = .ok (.invokestatic 316, 3) := by decide +kernel
theorem dX7_copy_4 : decode cX7_copy 4 = .ok (.ifCond .eq 10, 3) := by decide +kernel
theorem dX7_copy_7 : decode cX7_copy 7 = .ok (.iload_n 3, 1) := by decide +kernel
theorem dX7_copy_8 : decode cX7_copy 8 = .ok (.invokestatic 316, 3) := by decide +kernel
theorem dX7_copy_11 : decode cX7_copy 11 = .ok (.ifCond .ne 10, 3) := by decide +kernel
theorem dX7_copy_14 : decode cX7_copy 14 = .ok (.aload_n 0, 1) := by decide +kernel
theorem dX7_copy_15 : decode cX7_copy 15 = .ok (.ldc 46, 2) := by decide +kernel
theorem dX7_copy_17 : decode cX7_copy 17 = .ok (.invokevirtual 48, 3) := by decide +kernel
theorem dX7_copy_20 : decode cX7_copy 20 = .ok (.ireturn, 1) := by decide +kernel
theorem dX7_copy_21 : decode cX7_copy 21 = .ok (.aload_n 0, 1) := by decide +kernel
theorem dX7_copy_22 : decode cX7_copy 22 = .ok (.getfield 37, 3) := by decide +kernel
theorem dX7_copy_25 : decode cX7_copy 25 = .ok (.iload_n 1, 1) := by decide +kernel
theorem dX7_copy_26 : decode cX7_copy 26 = .ok (.iaload, 1) := by decide +kernel
theorem dX7_copy_27 : decode cX7_copy 27 = .ok (.ifCond .eq 12, 3) := by decide +kernel
theorem dX7_copy_30 : decode cX7_copy 30 = .ok (.aload_n 0, 1) := by decide +kernel
theorem dX7_copy_31 : decode cX7_copy 31 = .ok (.getfield 37, 3) := by decide +kernel
theorem dX7_copy_34 : decode cX7_copy 34 = .ok (.iload_n 3, 1) := by decide +kernel
theorem dX7_copy_35 : decode cX7_copy 35 = .ok (.iaload, 1) := by decide +kernel
theorem dX7_copy_36 : decode cX7_copy 36 = .ok (.ifCond .ne 11, 3) := by decide +kernel
theorem dX7_copy_39 : decode cX7_copy 39 = .ok (.aload_n 0, 1) := by decide +kernel
theorem dX7_copy_40 : decode cX7_copy 40 = .ok (.ldc_w 309, 3) := by decide +kernel
theorem dX7_copy_43 : decode cX7_copy 43 = .ok (.invokevirtual 48, 3) := by decide +kernel
theorem dX7_copy_46 : decode cX7_copy 46 = .ok (.ireturn, 1) := by decide +kernel
theorem dX7_copy_47 : decode cX7_copy 47 = .ok (.aload_n 0, 1) := by decide +kernel
theorem dX7_copy_48 : decode cX7_copy 48 = .ok (.getfield 37, 3) := by decide +kernel
theorem dX7_copy_51 : decode cX7_copy 51 = .ok (.iload_n 1, 1) := by decide +kernel
theorem dX7_copy_52 : decode cX7_copy 52 = .ok (.iaload, 1) := by decide +kernel
theorem dX7_copy_53 : decode cX7_copy 53 = .ok (.aload_n 0, 1) := by decide +kernel
theorem dX7_copy_54 : decode cX7_copy 54 = .ok (.getfield 37, 3) := by decide +kernel
theorem dX7_copy_57 : decode cX7_copy 57 = .ok (.iload_n 3, 1) := by decide +kernel
theorem dX7_copy_58 : decode cX7_copy 58 = .ok (.iaload, 1) := by decide +kernel
theorem dX7_copy_59 : decode cX7_copy 59 = .ok (.if_icmp .eq 11, 3) := by decide +kernel
theorem dX7_copy_62 : decode cX7_copy 62 = .ok (.aload_n 0, 1) := by decide +kernel
theorem dX7_copy_63 : decode cX7_copy 63 = .ok (.ldc_w 313, 3) := by decide +kernel
theorem dX7_copy_66 : decode cX7_copy 66 = .ok (.invokevirtual 48, 3) := by decide +kernel
theorem dX7_copy_69 : decode cX7_copy 69 = .ok (.ireturn, 1) := by decide +kernel
theorem dX7_copy_70 : decode cX7_copy 70 = .ok (.iload 5, 2) := by decide +kernel
theorem dX7_copy_72 : decode cX7_copy 72 = .ok (.ifCond .lt 39, 3) := by decide +kernel
theorem dX7_copy_75 : decode cX7_copy 75 = .ok (.iload_n 2, 1) := by decide +kernel
theorem dX7_copy_76 : decode cX7_copy 76 = .ok (.ifCond .lt 35, 3) := by decide +kernel
theorem dX7_copy_79 : decode cX7_copy 79 = .ok (.iload 4, 2) := by decide +kernel
theorem dX7_copy_81 : decode cX7_copy 81 = .ok (.ifCond .lt 30, 3) := by decide +kernel
theorem dX7_copy_84 : decode cX7_copy 84 = .ok (.iload 5, 2) := by decide +kernel
theorem dX7_copy_86 : decode cX7_copy 86 = .ok (.aload_n 0, 1) := by decide +kernel
theorem dX7_copy_87 : decode cX7_copy 87 = .ok (.getfield 40, 3) := by decide +kernel
theorem dX7_copy_90 : decode cX7_copy 90 = .ok (.iload_n 1, 1) := by decide +kernel
theorem dX7_copy_91 : decode cX7_copy 91 = .ok (.iaload, 1) := by decide +kernel
theorem dX7_copy_92 : decode cX7_copy 92 = .ok (.iload_n 2, 1) := by decide +kernel
theorem dX7_copy_93 : decode cX7_copy 93 = .ok (.isub, 1) := by decide +kernel
theorem dX7_copy_94 : decode cX7_copy 94 = .ok (.if_icmp .gt 17, 3) := by decide +kernel
theorem dX7_copy_97 : decode cX7_copy 97 = .ok (.iload 5, 2) := by decide +kernel
theorem dX7_copy_99 : decode cX7_copy 99 = .ok (.aload_n 0, 1) := by decide +kernel
theorem dX7_copy_100 : decode cX7_copy 100 = .ok (.getfield 40, 3) := by decide +kernel
theorem dX7_copy_103 : decode cX7_copy 103 = .ok (.iload_n 3, 1) := by decide +kernel
theorem dX7_copy_104 : decode cX7_copy 104 = .ok (.iaload, 1) := by decide +kernel
theorem dX7_copy_105 : decode cX7_copy 105 = .ok (.iload 4, 2) := by decide +kernel
theorem dX7_copy_107 : decode cX7_copy 107 = .ok (.isub, 1) := by decide +kernel
theorem dX7_copy_108 : decode cX7_copy 108 = .ok (.if_icmp .le 10, 3) := by decide +kernel
theorem dX7_copy_111 : decode cX7_copy 111 = .ok (.aload_n 0, 1) := by decide +kernel
theorem dX7_copy_112 : decode cX7_copy 112 = .ok (.ldc 46, 2) := by decide +kernel
theorem dX7_copy_114 : decode cX7_copy 114 = .ok (.invokevirtual 48, 3) := by decide +kernel
theorem dX7_copy_117 : decode cX7_copy 117 = .ok (.ireturn, 1) := by decide +kernel
theorem dX7_copy_118 : decode cX7_copy 118 = .ok (.iload_n 1, 1) := by decide +kernel
theorem dX7_copy_119 : decode cX7_copy 119 = .ok (.iload_n 3, 1) := by decide +kernel
theorem dX7_copy_120 : decode cX7_copy 120 = .ok (.if_icmp .ne 13, 3) := by decide +kernel
theorem dX7_copy_123 : decode cX7_copy 123 = .ok (.iload_n 2, 1) := by decide +kernel
theorem dX7_copy_124 : decode cX7_copy 124 = .ok (.iload 4, 2) := by decide +kernel
theorem dX7_copy_126 : decode cX7_copy 126 = .ok (.if_icmp .ge 7, 3) := by decide +kernel
theorem dX7_copy_129 : decode cX7_copy 129 = .ok (.iconst 1, 1) := by decide +kernel
theorem dX7_copy_130 : decode cX7_copy 130 = .ok (.goto 4, 3) := by decide +kernel
theorem dX7_copy_133 : decode cX7_copy 133 = .ok (.iconst 0, 1) := by decide +kernel
theorem dX7_copy_134 : decode cX7_copy 134 = .ok (.istore 6, 2) := by decide +kernel
theorem dX7_copy_136 : decode cX7_copy 136 = .ok (.iconst 0, 1) := by decide +kernel
theorem dX7_copy_137 : decode cX7_copy 137 = .ok (.istore 7, 2) := by decide +kernel
theorem dX7_copy_139 : decode cX7_copy 139 = .ok (.iload 7, 2) := by decide +kernel
theorem dX7_copy_141 : decode cX7_copy 141 = .ok (.iload 5, 2) := by decide +kernel
theorem dX7_copy_143 : decode cX7_copy 143 = .ok (.if_icmp .ge 57, 3) := by decide +kernel
theorem dX7_copy_146 : decode cX7_copy 146 = .ok (.iload 6, 2) := by decide +kernel
theorem dX7_copy_148 : decode cX7_copy 148 = .ok (.ifCond .eq 13, 3) := by decide +kernel
theorem dX7_copy_151 : decode cX7_copy 151 = .ok (.iload 5, 2) := by decide +kernel
theorem dX7_copy_153 : decode cX7_copy 153 = .ok (.iconst 1, 1) := by decide +kernel
theorem dX7_copy_154 : decode cX7_copy 154 = .ok (.isub, 1) := by decide +kernel
theorem dX7_copy_155 : decode cX7_copy 155 = .ok (.iload 7, 2) := by decide +kernel
theorem dX7_copy_157 : decode cX7_copy 157 = .ok (.isub, 1) := by decide +kernel
theorem dX7_copy_158 : decode cX7_copy 158 = .ok (.goto 5, 3) := by decide +kernel
theorem dX7_copy_161 : decode cX7_copy 161 = .ok (.iload 7, 2) := by decide +kernel
theorem dX7_copy_163 : decode cX7_copy 163 = .ok (.istore 8, 2) := by decide +kernel
theorem dX7_copy_165 : decode cX7_copy 165 = .ok (.aload_n 0, 1) := by decide +kernel
theorem dX7_copy_166 : decode cX7_copy 166 = .ok (.getfield 43, 3) := by decide +kernel
theorem dX7_copy_169 : decode cX7_copy 169 = .ok (.bipush 40, 2) := by decide +kernel
theorem dX7_copy_171 : decode cX7_copy 171 = .ok (.iload_n 3, 1) := by decide +kernel
theorem dX7_copy_172 : decode cX7_copy 172 = .ok (.imul, 1) := by decide +kernel
theorem dX7_copy_173 : decode cX7_copy 173 = .ok (.iload 4, 2) := by decide +kernel
theorem dX7_copy_175 : decode cX7_copy 175 = .ok (.iadd, 1) := by decide +kernel
theorem dX7_copy_176 : decode cX7_copy 176 = .ok (.iload 8, 2) := by decide +kernel
theorem dX7_copy_178 : decode cX7_copy 178 = .ok (.iadd, 1) := by decide +kernel
theorem dX7_copy_179 : decode cX7_copy 179 = .ok (.aload_n 0, 1) := by decide +kernel
theorem dX7_copy_180 : decode cX7_copy 180 = .ok (.getfield 43, 3) := by decide +kernel
theorem dX7_copy_183 : decode cX7_copy 183 = .ok (.bipush 40, 2) := by decide +kernel
theorem dX7_copy_185 : decode cX7_copy 185 = .ok (.iload_n 1, 1) := by decide +kernel
theorem dX7_copy_186 : decode cX7_copy 186 = .ok (.imul, 1) := by decide +kernel
theorem dX7_copy_187 : decode cX7_copy 187 = .ok (.iload_n 2, 1) := by decide +kernel
theorem dX7_copy_188 : decode cX7_copy 188 = .ok (.iadd, 1) := by decide +kernel
theorem dX7_copy_189 : decode cX7_copy 189 = .ok (.iload 8, 2) := by decide +kernel
theorem dX7_copy_191 : decode cX7_copy 191 = .ok (.iadd, 1) := by decide +kernel
theorem dX7_copy_192 : decode cX7_copy 192 = .ok (.iaload, 1) := by decide +kernel
theorem dX7_copy_193 : decode cX7_copy 193 = .ok (.iastore, 1) := by decide +kernel
theorem dX7_copy_194 : decode cX7_copy 194 = .ok (.iinc 7 1, 3) := by decide +kernel
theorem dX7_copy_197 : decode cX7_copy 197 = .ok (.goto (-58), 3) := by decide +kernel
theorem dX7_copy_200 : decode cX7_copy 200 = .ok (.iload 5, 2) := by decide +kernel
theorem dX7_copy_202 : decode cX7_copy 202 = .ok (.ireturn, 1) := by decide +kernel
theorem dX7_sitsDown_0 : decode cX7_sitsDown 0 = .ok (.aload_n 0, 1) := by decide +kernel
theorem dX7_sitsDown_1 : decode cX7_sitsDown 1 = .ok (.getfield 9, 3) := by decide +kernel
theorem dX7_sitsDown_4 : decode cX7_sitsDown 4 = .ok (.iload_n 2, 1) := by decide +kernel
theorem dX7_sitsDown_5 : decode cX7_sitsDown 5 = .ok (.iload_n 3, 1) := by decide +kernel
theorem dX7_sitsDown_6 : decode cX7_sitsDown 6 = .ok (.invokestatic 106, 3) := by decide +kernel
theorem dX7_sitsDown_9 : decode cX7_sitsDown 9 = .ok (.iaload, 1) := by decide +kernel
theorem dX7_sitsDown_10 : decode cX7_sitsDown 10 = .ok (.istore 4, 2) := by decide +kernel
theorem dX7_sitsDown_12 : decode cX7_sitsDown 12 = .ok (.iload_n 1, 1) := by decide +kernel
theorem dX7_sitsDown_13 : decode cX7_sitsDown 13 = .ok (.i2l, 1) := by decide +kernel
theorem dX7_sitsDown_14 : decode cX7_sitsDown 14 = .ok (.lconst 0, 1) := by decide +kernel
theorem dX7_sitsDown_15 : decode cX7_sitsDown 15 = .ok (.ldc2_w 136, 3) := by decide +kernel
theorem dX7_sitsDown_18 : decode cX7_sitsDown 18 = .ok (.invokestatic 54, 3) := by decide +kernel
theorem dX7_sitsDown_21 : decode cX7_sitsDown 21 = .ok (.ifCond .eq 20, 3) := by decide +kernel
theorem dX7_sitsDown_24 : decode cX7_sitsDown 24 = .ok (.iload_n 1, 1) := by decide +kernel
theorem dX7_sitsDown_25 : decode cX7_sitsDown 25 = .ok (.bipush 8, 2) := by decide +kernel
theorem dX7_sitsDown_27 : decode cX7_sitsDown 27 = .ok (.if_icmp .ge 16, 3) := by decide +kernel
theorem dX7_sitsDown_30 : decode cX7_sitsDown 30 = .ok (.iload 4, 2) := by decide +kernel
theorem dX7_sitsDown_32 : decode cX7_sitsDown 32 = .ok (.ifCond .lt 11, 3) := by decide +kernel
theorem dX7_sitsDown_35 : decode cX7_sitsDown 35 = .ok (.iload 4, 2) := by decide +kernel
theorem dX7_sitsDown_37 : decode cX7_sitsDown 37 = .ok (.iload_n 1, 1) := by decide +kernel
theorem dX7_sitsDown_38 : decode cX7_sitsDown 38 = .ok (.if_icmp .eq 5, 3) := by decide +kernel
theorem dX7_sitsDown_41 : decode cX7_sitsDown 41 = .ok (.iconst 0, 1) := by decide +kernel
theorem dX7_sitsDown_42 : decode cX7_sitsDown 42 = .ok (.ireturn, 1) := by decide +kernel
theorem dX7_sitsDown_43 : decode cX7_sitsDown 43 = .ok (.iload_n 1, 1) := by decide +kernel
theorem dX7_sitsDown_44 : decode cX7_sitsDown 44 = .ok (.bipush 8, 2) := by decide +kernel
theorem dX7_sitsDown_46 : decode cX7_sitsDown 46 = .ok (.if_icmp .ge 9, 3) := by decide +kernel
theorem dX7_sitsDown_49 : decode cX7_sitsDown 49 = .ok (.aload_n 0, 1) := by decide +kernel
theorem dX7_sitsDown_50 : decode cX7_sitsDown 50 = .ok (.iload_n 1, 1) := by decide +kernel
theorem dX7_sitsDown_51 : decode cX7_sitsDown 51 = .ok (.invokevirtual 158, 3) := by decide +kernel
theorem dX7_sitsDown_54 : decode cX7_sitsDown 54 = .ok (.pop, 1) := by decide +kernel
theorem dX7_sitsDown_55 : decode cX7_sitsDown 55 = .ok (.aload_n 0, 1) := by decide +kernel
theorem dX7_sitsDown_56 : decode cX7_sitsDown 56 = .ok (.getfield 9, 3) := by decide +kernel
theorem dX7_sitsDown_59 : decode cX7_sitsDown 59 = .ok (.iload_n 2, 1) := by decide +kernel
theorem dX7_sitsDown_60 : decode cX7_sitsDown 60 = .ok (.iload_n 3, 1) := by decide +kernel
theorem dX7_sitsDown_61 : decode cX7_sitsDown 61 = .ok (.invokestatic 106, 3) := by decide +kernel
theorem dX7_sitsDown_64 : decode cX7_sitsDown 64 = .ok (.iload_n 1, 1) := by decide +kernel
theorem dX7_sitsDown_65 : decode cX7_sitsDown 65 = .ok (.bipush 8, 2) := by decide +kernel
theorem dX7_sitsDown_67 : decode cX7_sitsDown 67 = .ok (.if_icmp .ne 7, 3) := by decide +kernel
theorem dX7_sitsDown_70 : decode cX7_sitsDown 70 = .ok (.iconst (-1), 1) := by decide +kernel
theorem dX7_sitsDown_71 : decode cX7_sitsDown 71 = .ok (.goto 4, 3) := by decide +kernel
theorem dX7_sitsDown_74 : decode cX7_sitsDown 74 = .ok (.iload_n 1, 1) := by decide +kernel
theorem dX7_sitsDown_75 : decode cX7_sitsDown 75 = .ok (.iastore, 1) := by decide +kernel
theorem dX7_sitsDown_76 : decode cX7_sitsDown 76 = .ok (.iconst 1, 1) := by decide +kernel
theorem dX7_sitsDown_77 : decode cX7_sitsDown 77 = .ok (.ireturn, 1) := by decide +kernel
theorem dX7_load_0 : decode cX7_load 0 = .ok (.iload_n 1, 1) := by decide +kernel
theorem dX7_load_1 : decode cX7_load 1 = .ok (.invokestatic 316, 3) := by decide +kernel
theorem dX7_load_4 : decode cX7_load 4 = .ok (.ifCond .ne 10, 3) := by decide +kernel
theorem dX7_load_7 : decode cX7_load 7 = .ok (.aload_n 0, 1) := by decide +kernel
theorem dX7_load_8 : decode cX7_load 8 = .ok (.ldc 46, 2) := by decide +kernel
theorem dX7_load_10 : decode cX7_load 10 = .ok (.invokevirtual 48, 3) := by decide +kernel
theorem dX7_load_13 : decode cX7_load 13 = .ok (.ireturn, 1) := by decide +kernel
theorem dX7_load_14 : decode cX7_load 14 = .ok (.aload_n 0, 1) := by decide +kernel
theorem dX7_load_15 : decode cX7_load 15 = .ok (.getfield 37, 3) := by decide +kernel
theorem dX7_load_18 : decode cX7_load 18 = .ok (.iload_n 1, 1) := by decide +kernel
theorem dX7_load_19 : decode cX7_load 19 = .ok (.iaload, 1) := by decide +kernel
theorem dX7_load_20 : decode cX7_load 20 = .ok (.ifCond .ne 11, 3) := by decide +kernel
theorem dX7_load_23 : decode cX7_load 23 = .ok (.aload_n 0, 1) := by decide +kernel
theorem dX7_load_24 : decode cX7_load 24 = .ok (.ldc_w 309, 3) := by decide +kernel
theorem dX7_load_27 : decode cX7_load 27 = .ok (.invokevirtual 48, 3) := by decide +kernel
theorem dX7_load_30 : decode cX7_load 30 = .ok (.ireturn, 1) := by decide +kernel
theorem dX7_load_31 : decode cX7_load 31 = .ok (.aload_n 0, 1) := by decide +kernel
theorem dX7_load_32 : decode cX7_load 32 = .ok (.iload_n 2, 1) := by decide +kernel
theorem dX7_load_33 : decode cX7_load 33 = .ok (.invokevirtual 62, 3) := by decide +kernel
theorem dX7_load_36 : decode cX7_load 36 = .ok (.ifCond .ne 10, 3) := by decide +kernel
theorem dX7_load_39 : decode cX7_load 39 = .ok (.aload_n 0, 1) := by decide +kernel
theorem dX7_load_40 : decode cX7_load 40 = .ok (.ldc 46, 2) := by decide +kernel
theorem dX7_load_42 : decode cX7_load 42 = .ok (.invokevirtual 48, 3) := by decide +kernel
theorem dX7_load_45 : decode cX7_load 45 = .ok (.ireturn, 1) := by decide +kernel
theorem dX7_load_46 : decode cX7_load 46 = .ok (.iconst 0, 1) := by decide +kernel
theorem dX7_load_47 : decode cX7_load 47 = .ok (.istore_n 3, 1) := by decide +kernel
theorem dX7_load_48 : decode cX7_load 48 = .ok (.iload_n 3, 1) := by decide +kernel
theorem dX7_load_49 : decode cX7_load 49 = .ok (.aload_n 0, 1) := by decide +kernel
theorem dX7_load_50 : decode cX7_load 50 = .ok (.getfield 40, 3) := by decide +kernel
theorem dX7_load_53 : decode cX7_load 53 = .ok (.iload_n 1, 1) := by decide +kernel
theorem dX7_load_54 : decode cX7_load 54 = .ok (.iaload, 1) := by decide +kernel
theorem dX7_load_55 : decode cX7_load 55 = .ok (.if_icmp .ge 38, 3) := by decide +kernel
theorem dX7_load_58 : decode cX7_load 58 = .ok (.iload_n 3, 1) := by decide +kernel
theorem dX7_load_59 : decode cX7_load 59 = .ok (.aload_n 0, 1) := by decide +kernel
theorem dX7_load_60 : decode cX7_load 60 = .ok (.iload_n 2, 1) := by decide +kernel
theorem dX7_load_61 : decode cX7_load 61 = .ok (.invokevirtual 66, 3) := by decide +kernel
theorem dX7_load_64 : decode cX7_load 64 = .ok (.if_icmp .ge 29, 3) := by decide +kernel
theorem dX7_load_67 : decode cX7_load 67 = .ok (.aload_n 0, 1) := by decide +kernel
theorem dX7_load_68 : decode cX7_load 68 = .ok (.aload_n 0, 1) := by decide +kernel
theorem dX7_load_69 : decode cX7_load 69 = .ok (.getfield 43, 3) := by decide +kernel
theorem dX7_load_72 : decode cX7_load 72 = .ok (.bipush 40, 2) := by decide +kernel
theorem dX7_load_74 : decode cX7_load 74 = .ok (.iload_n 1, 1) := by decide +kernel
theorem dX7_load_75 : decode cX7_load 75 = .ok (.imul, 1) := by decide +kernel
theorem dX7_load_76 : decode cX7_load 76 = .ok (.iload_n 3, 1) := by decide +kernel
theorem dX7_load_77 : decode cX7_load 77 = .ok (.iadd, 1) := by decide +kernel
theorem dX7_load_78 : decode cX7_load 78 = .ok (.iaload, 1) := by decide +kernel
theorem dX7_load_79 : decode cX7_load 79 = .ok (.iload_n 2, 1) := by decide +kernel
theorem dX7_load_80 : decode cX7_load 80 = .ok (.iload_n 3, 1) := by decide +kernel
theorem dX7_load_81 : decode cX7_load 81 = .ok (.invokevirtual 319, 3) := by decide +kernel
theorem dX7_load_84 : decode cX7_load 84 = .ok (.ifCond .eq 9, 3) := by decide +kernel
theorem dX7_load_87 : decode cX7_load 87 = .ok (.iinc 3 1, 3) := by decide +kernel
theorem dX7_load_90 : decode cX7_load 90 = .ok (.goto (-42), 3) := by decide +kernel
theorem dX7_load_93 : decode cX7_load 93 = .ok (.iload_n 3, 1) := by decide +kernel
theorem dX7_load_94 : decode cX7_load 94 = .ok (.ireturn, 1) := by decide +kernel
theorem dX7_judge_0 : decode cX7_judge 0 = .ok (.iload_n 1, 1) := by decide +kernel
theorem dX7_judge_1 : decode cX7_judge 1 = .ok (.invokestatic 316, 3) := by decide +kernel
theorem dX7_judge_4 : decode cX7_judge 4 = .ok (.ifCond .ne 10, 3) := by decide +kernel
theorem dX7_judge_7 : decode cX7_judge 7 = .ok (.aload_n 0, 1) := by decide +kernel
theorem dX7_judge_8 : decode cX7_judge 8 = .ok (.ldc 46, 2) := by decide +kernel
theorem dX7_judge_10 : decode cX7_judge 10 = .ok (.invokevirtual 48, 3) := by decide +kernel
theorem dX7_judge_13 : decode cX7_judge 13 = .ok (.ireturn, 1) := by decide +kernel
theorem dX7_judge_14 : decode cX7_judge 14 = .ok (.aload_n 0, 1) := by decide +kernel
theorem dX7_judge_15 : decode cX7_judge 15 = .ok (.getfield 37, 3) := by decide +kernel
theorem dX7_judge_18 : decode cX7_judge 18 = .ok (.iload_n 1, 1) := by decide +kernel
theorem dX7_judge_19 : decode cX7_judge 19 = .ok (.iaload, 1) := by decide +kernel
theorem dX7_judge_20 : decode cX7_judge 20 = .ok (.ifCond .ne 11, 3) := by decide +kernel
theorem dX7_judge_23 : decode cX7_judge 23 = .ok (.aload_n 0, 1) := by decide +kernel
theorem dX7_judge_24 : decode cX7_judge 24 = .ok (.ldc_w 309, 3) := by decide +kernel
theorem dX7_judge_27 : decode cX7_judge 27 = .ok (.invokevirtual 48, 3) := by decide +kernel
theorem dX7_judge_30 : decode cX7_judge 30 = .ok (.ireturn, 1) := by decide +kernel
theorem dX7_judge_31 : decode cX7_judge 31 = .ok (.aload_n 0, 1) := by decide +kernel
theorem dX7_judge_32 : decode cX7_judge 32 = .ok (.iload_n 2, 1) := by decide +kernel
theorem dX7_judge_33 : decode cX7_judge 33 = .ok (.invokevirtual 62, 3) := by decide +kernel
theorem dX7_judge_36 : decode cX7_judge 36 = .ok (.ifCond .ne 10, 3) := by decide +kernel
theorem dX7_judge_39 : decode cX7_judge 39 = .ok (.aload_n 0, 1) := by decide +kernel
theorem dX7_judge_40 : decode cX7_judge 40 = .ok (.ldc 46, 2) := by decide +kernel
theorem dX7_judge_42 : decode cX7_judge 42 = .ok (.invokevirtual 48, 3) := by decide +kernel
theorem dX7_judge_45 : decode cX7_judge 45 = .ok (.ireturn, 1) := by decide +kernel
theorem dX7_judge_46 : decode cX7_judge 46 = .ok (.iconst 0, 1) := by decide +kernel
theorem dX7_judge_47 : decode cX7_judge 47 = .ok (.istore_n 3, 1) := by decide +kernel
theorem dX7_judge_48 : decode cX7_judge 48 = .ok (.iconst 0, 1) := by decide +kernel
theorem dX7_judge_49 : decode cX7_judge 49 = .ok (.istore 4, 2) := by decide +kernel
theorem dX7_judge_51 : decode cX7_judge 51 = .ok (.iload 4, 2) := by decide +kernel
theorem dX7_judge_53 : decode cX7_judge 53 = .ok (.aload_n 0, 1) := by decide +kernel
theorem dX7_judge_54 : decode cX7_judge 54 = .ok (.getfield 40, 3) := by decide +kernel
theorem dX7_judge_57 : decode cX7_judge 57 = .ok (.iload_n 1, 1) := by decide +kernel
theorem dX7_judge_58 : decode cX7_judge 58 = .ok (.iaload, 1) := by decide +kernel
theorem dX7_judge_59 : decode cX7_judge 59 = .ok (.if_icmp .ge 75, 3) := by decide +kernel
theorem dX7_judge_62 : decode cX7_judge 62 = .ok (.aload_n 0, 1) := by decide +kernel
theorem dX7_judge_63 : decode cX7_judge 63 = .ok (.getfield 43, 3) := by decide +kernel
theorem dX7_judge_66 : decode cX7_judge 66 = .ok (.bipush 40, 2) := by decide +kernel
theorem dX7_judge_68 : decode cX7_judge 68 = .ok (.iload_n 1, 1) := by decide +kernel
theorem dX7_judge_69 : decode cX7_judge 69 = .ok (.imul, 1) := by decide +kernel
theorem dX7_judge_70 : decode cX7_judge 70 = .ok (.iload 4, 2) := by decide +kernel
theorem dX7_judge_72 : decode cX7_judge 72 = .ok (.iadd, 1) := by decide +kernel
theorem dX7_judge_73 : decode cX7_judge 73 = .ok (.iaload, 1) := by decide +kernel
theorem dX7_judge_74 : decode cX7_judge 74 = .ok (.istore 5, 2) := by decide +kernel
theorem dX7_judge_76 : decode cX7_judge 76 = .ok (.iload 5, 2) := by decide +kernel
theorem dX7_judge_78 : decode cX7_judge 78 = .ok (.i2l, 1) := by decide +kernel
theorem dX7_judge_79 : decode cX7_judge 79 = .ok (.lconst 0, 1) := by decide +kernel
theorem dX7_judge_80 : decode cX7_judge 80 = .ok (.ldc2_w 136, 3) := by decide +kernel
theorem dX7_judge_83 : decode cX7_judge 83 = .ok (.invokestatic 54, 3) := by decide +kernel
theorem dX7_judge_86 : decode cX7_judge 86 = .ok (.ifCond .eq 19, 3) := by decide +kernel
theorem dX7_judge_89 : decode cX7_judge 89 = .ok (.iload 5, 2) := by decide +kernel
theorem dX7_judge_91 : decode cX7_judge 91 = .ok (.bipush 8, 2) := by decide +kernel
theorem dX7_judge_93 : decode cX7_judge 93 = .ok (.if_icmp .ge 17, 3) := by decide +kernel
theorem dX7_judge_96 : decode cX7_judge 96 = .ok (.iload_n 3, 1) := by decide +kernel
theorem dX7_judge_97 : decode cX7_judge 97 = .ok (.iload 5, 2) := by decide +kernel
theorem dX7_judge_99 : decode cX7_judge 99 = .ok (.invokestatic 171, 3) := by decide +kernel
theorem dX7_judge_102 : decode cX7_judge 102 = .ok (.ifCond .eq 8, 3) := by decide +kernel
theorem dX7_judge_105 : decode cX7_judge 105 = .ok (.iconst 1, 1) := by decide +kernel
theorem dX7_judge_106 : decode cX7_judge 106 = .ok (.iload 4, 2) := by decide +kernel
theorem dX7_judge_108 : decode cX7_judge 108 = .ok (.iadd, 1) := by decide +kernel
theorem dX7_judge_109 : decode cX7_judge 109 = .ok (.ireturn, 1) := by decide +kernel
theorem dX7_judge_110 : decode cX7_judge 110 = .ok (.iload_n 3, 1) := by decide +kernel
theorem dX7_judge_111 : decode cX7_judge 111 = .ok (.iload 5, 2) := by decide +kernel
theorem dX7_judge_113 : decode cX7_judge 113 = .ok (.bipush 8, 2) := by decide +kernel
theorem dX7_judge_115 : decode cX7_judge 115 = .ok (.if_icmp .ge 10, 3) := by decide +kernel
theorem dX7_judge_118 : decode cX7_judge 118 = .ok (.iconst 1, 1) := by decide +kernel
theorem dX7_judge_119 : decode cX7_judge 119 = .ok (.iload 5, 2) := by decide +kernel
theorem dX7_judge_121 : decode cX7_judge 121 = .ok (.ishl, 1) := by decide +kernel
theorem dX7_judge_122 : decode cX7_judge 122 = .ok (.goto 4, 3) := by decide +kernel
theorem dX7_judge_125 : decode cX7_judge 125 = .ok (.iconst 0, 1) := by decide +kernel
theorem dX7_judge_126 : decode cX7_judge 126 = .ok (.ior, 1) := by decide +kernel
theorem dX7_judge_127 : decode cX7_judge 127 = .ok (.istore_n 3, 1) := by decide +kernel
theorem dX7_judge_128 : decode cX7_judge 128 = .ok (.iinc 4 1, 3) := by decide +kernel
theorem dX7_judge_131 : decode cX7_judge 131 = .ok (.goto (-80), 3) := by decide +kernel
theorem dX7_judge_134 : decode cX7_judge 134 = .ok (.aload_n 0, 1) := by decide +kernel
theorem dX7_judge_135 : decode cX7_judge 135 = .ok (.getfield 40, 3) := by decide +kernel
theorem dX7_judge_138 : decode cX7_judge 138 = .ok (.iload_n 1, 1) := by decide +kernel
theorem dX7_judge_139 : decode cX7_judge 139 = .ok (.iaload, 1) := by decide +kernel
theorem dX7_judge_140 : decode cX7_judge 140 = .ok (.aload_n 0, 1) := by decide +kernel
theorem dX7_judge_141 : decode cX7_judge 141 = .ok (.iload_n 2, 1) := by decide +kernel
theorem dX7_judge_142 : decode cX7_judge 142 = .ok (.invokevirtual 66, 3) := by decide +kernel
theorem dX7_judge_145 : decode cX7_judge 145 = .ok (.if_icmp .eq 6, 3) := by decide +kernel
theorem dX7_judge_148 : decode cX7_judge 148 = .ok (.bipush 41, 2) := by decide +kernel
theorem dX7_judge_150 : decode cX7_judge 150 = .ok (.ireturn, 1) := by decide +kernel
theorem dX7_judge_151 : decode cX7_judge 151 = .ok (.aload_n 0, 1) := by decide +kernel
theorem dX7_judge_152 : decode cX7_judge 152 = .ok (.iload_n 2, 1) := by decide +kernel
theorem dX7_judge_153 : decode cX7_judge 153 = .ok (.invokevirtual 125, 3) := by decide +kernel
theorem dX7_judge_156 : decode cX7_judge 156 = .ok (.iconst 0, 1) := by decide +kernel
theorem dX7_judge_157 : decode cX7_judge 157 = .ok (.istore 4, 2) := by decide +kernel
theorem dX7_judge_159 : decode cX7_judge 159 = .ok (.iload 4, 2) := by decide +kernel
theorem dX7_judge_161 : decode cX7_judge 161 = .ok (.aload_n 0, 1) := by decide +kernel
theorem dX7_judge_162 : decode cX7_judge 162 = .ok (.getfield 103, 3) := by decide +kernel
theorem dX7_judge_165 : decode cX7_judge 165 = .ok (.if_icmp .ge 49, 3) := by decide +kernel
theorem dX7_judge_168 : decode cX7_judge 168 = .ok (.aload_n 0, 1) := by decide +kernel
theorem dX7_judge_169 : decode cX7_judge 169 = .ok (.getfield 22, 3) := by decide +kernel
theorem dX7_judge_172 : decode cX7_judge 172 = .ok (.iload 4, 2) := by decide +kernel
theorem dX7_judge_174 : decode cX7_judge 174 = .ok (.aload_n 0, 1) := by decide +kernel
theorem dX7_judge_175 : decode cX7_judge 175 = .ok (.getfield 43, 3) := by decide +kernel
theorem dX7_judge_178 : decode cX7_judge 178 = .ok (.bipush 40, 2) := by decide +kernel
theorem dX7_judge_180 : decode cX7_judge 180 = .ok (.iload_n 1, 1) := by decide +kernel
theorem dX7_judge_181 : decode cX7_judge 181 = .ok (.imul, 1) := by decide +kernel
theorem dX7_judge_182 : decode cX7_judge 182 = .ok (.iload 4, 2) := by decide +kernel
theorem dX7_judge_184 : decode cX7_judge 184 = .ok (.iadd, 1) := by decide +kernel
theorem dX7_judge_185 : decode cX7_judge 185 = .ok (.iaload, 1) := by decide +kernel
theorem dX7_judge_186 : decode cX7_judge 186 = .ok (.bipush 8, 2) := by decide +kernel
theorem dX7_judge_188 : decode cX7_judge 188 = .ok (.if_icmp .ne 7, 3) := by decide +kernel
theorem dX7_judge_191 : decode cX7_judge 191 = .ok (.iconst (-1), 1) := by decide +kernel
theorem dX7_judge_192 : decode cX7_judge 192 = .ok (.goto 15, 3) := by decide +kernel
theorem dX7_judge_195 : decode cX7_judge 195 = .ok (.aload_n 0, 1) := by decide +kernel
theorem dX7_judge_196 : decode cX7_judge 196 = .ok (.getfield 43, 3) := by decide +kernel
theorem dX7_judge_199 : decode cX7_judge 199 = .ok (.bipush 40, 2) := by decide +kernel
theorem dX7_judge_201 : decode cX7_judge 201 = .ok (.iload_n 1, 1) := by decide +kernel
theorem dX7_judge_202 : decode cX7_judge 202 = .ok (.imul, 1) := by decide +kernel
theorem dX7_judge_203 : decode cX7_judge 203 = .ok (.iload 4, 2) := by decide +kernel
theorem dX7_judge_205 : decode cX7_judge 205 = .ok (.iadd, 1) := by decide +kernel
theorem dX7_judge_206 : decode cX7_judge 206 = .ok (.iaload, 1) := by decide +kernel
theorem dX7_judge_207 : decode cX7_judge 207 = .ok (.iastore, 1) := by decide +kernel
theorem dX7_judge_208 : decode cX7_judge 208 = .ok (.iinc 4 1, 3) := by decide +kernel
theorem dX7_judge_211 : decode cX7_judge 211 = .ok (.goto (-52), 3) := by decide +kernel
theorem dX7_judge_214 : decode cX7_judge 214 = .ok (.aload_n 0, 1) := by decide +kernel
theorem dX7_judge_215 : decode cX7_judge 215 = .ok (.invokevirtual 129, 3) := by decide +kernel
theorem dX7_judge_218 : decode cX7_judge 218 = .ok (.ifCond .eq 7, 3) := by decide +kernel
theorem dX7_judge_221 : decode cX7_judge 221 = .ok (.iconst 0, 1) := by decide +kernel
theorem dX7_judge_222 : decode cX7_judge 222 = .ok (.goto 5, 3) := by decide +kernel
theorem dX7_judge_225 : decode cX7_judge 225 = .ok (.bipush 42, 2) := by decide +kernel
theorem dX7_judge_227 : decode cX7_judge 227 = .ok (.ireturn, 1) := by decide +kernel
theorem dX7_image_0 : decode cX7_image 0 = .ok (.aload_n 0, 1) := by decide +kernel
theorem dX7_image_1 : decode cX7_image 1 = .ok (.getfield 9, 3) := by decide +kernel
theorem dX7_image_4 : decode cX7_image 4 = .ok (.aload_n 0, 1) := by decide +kernel
theorem dX7_image_5 : decode cX7_image 5 = .ok (.getfield 13, 3) := by decide +kernel
theorem dX7_image_8 : decode cX7_image 8 = .ok (.invokestatic 167, 3) := by decide +kernel
theorem dX7_image_11 : decode cX7_image 11 = .ok (.aload_n 0, 1) := by decide +kernel
theorem dX7_image_12 : decode cX7_image 12 = .ok (.iconst 1, 1) := by decide +kernel
theorem dX7_image_13 : decode cX7_image 13 = .ok (.putfield 322, 3) := by decide +kernel
theorem dX7_image_16 : decode cX7_image 16 = .ok (.iconst 1, 1) := by decide +kernel
theorem dX7_image_17 : decode cX7_image 17 = .ok (.ireturn, 1) := by decide +kernel
theorem dX7_undo_0 : decode cX7_undo 0 = .ok (.aload_n 0, 1) := by decide +kernel
theorem dX7_undo_1 : decode cX7_undo 1 = .ok (.getfield 322, 3) := by decide +kernel
theorem dX7_undo_4 : decode cX7_undo 4 = .ok (.ifCond .ne 10, 3) := by decide +kernel
theorem dX7_undo_7 : decode cX7_undo 7 = .ok (.aload_n 0, 1) := by decide +kernel
theorem dX7_undo_8 : decode cX7_undo 8 = .ok (.ldc 47, 2) := by decide +kernel
theorem dX7_undo_10 : decode cX7_undo 10 = .ok (.invokevirtual 48, 3) := by decide +kernel
theorem dX7_undo_13 : decode cX7_undo 13 = .ok (.ireturn, 1) := by decide +kernel
theorem dX7_undo_14 : decode cX7_undo 14 = .ok (.aload_n 0, 1) := by decide +kernel
theorem dX7_undo_15 : decode cX7_undo 15 = .ok (.getfield 13, 3) := by decide +kernel
theorem dX7_undo_18 : decode cX7_undo 18 = .ok (.aload_n 0, 1) := by decide +kernel
theorem dX7_undo_19 : decode cX7_undo 19 = .ok (.getfield 9, 3) := by decide +kernel
theorem dX7_undo_22 : decode cX7_undo 22 = .ok (.invokestatic 167, 3) := by decide +kernel
theorem dX7_undo_25 : decode cX7_undo 25 = .ok (.aload_n 0, 1) := by decide +kernel
theorem dX7_undo_26 : decode cX7_undo 26 = .ok (.getfield 9, 3) := by decide +kernel
theorem dX7_undo_29 : decode cX7_undo 29 = .ok (.iconst 3, 1) := by decide +kernel
theorem dX7_undo_30 : decode cX7_undo 30 = .ok (.iaload, 1) := by decide +kernel
theorem dX7_undo_31 : decode cX7_undo 31 = .ok (.ireturn, 1) := by decide +kernel
theorem dX7_tear_0 : decode cX7_tear 0 = .ok (.aload_n 0, 1) := by decide +kernel
theorem dX7_tear_1 : decode cX7_tear 1 = .ok (.getfield 322, 3) := by decide +kernel
theorem dX7_tear_4 : decode cX7_tear 4 = .ok (.ifCond .eq 7, 3) := by decide +kernel
theorem dX7_tear_7 : decode cX7_tear 7 = .ok (.iconst 1, 1) := by decide +kernel
theorem dX7_tear_8 : decode cX7_tear 8 = .ok (.goto 4, 3) := by decide +kernel
theorem dX7_tear_11 : decode cX7_tear 11 = .ok (.iconst 0, 1) := by decide +kernel
theorem dX7_tear_12 : decode cX7_tear 12 = .ok (.istore_n 1, 1) := by decide +kernel
theorem dX7_tear_13 : decode cX7_tear 13 = .ok (.aload_n 0, 1) := by decide +kernel
theorem dX7_tear_14 : decode cX7_tear 14 = .ok (.iconst 0, 1) := by decide +kernel
theorem dX7_tear_15 : decode cX7_tear 15 = .ok (.putfield 322, 3) := by decide +kernel
theorem dX7_tear_18 : decode cX7_tear 18 = .ok (.iload_n 1, 1) := by decide +kernel
theorem dX7_tear_19 : decode cX7_tear 19 = .ok (.ireturn, 1) := by decide +kernel
theorem dX7_pairs_0 : decode cX7_pairs 0 = .ok (.iconst 0, 1) := by decide +kernel
theorem dX7_pairs_1 : decode cX7_pairs 1 = .ok (.istore_n 2, 1) := by decide +kernel
theorem dX7_pairs_2 : decode cX7_pairs 2 = .ok (.iconst 0, 1) := by decide +kernel
theorem dX7_pairs_3 : decode cX7_pairs 3 = .ok (.istore_n 3, 1) := by decide +kernel
theorem dX7_pairs_4 : decode cX7_pairs 4 = .ok (.iload_n 3, 1) := by decide +kernel
theorem dX7_pairs_5 : decode cX7_pairs 5 = .ok (.bipush 8, 2) := by decide +kernel
theorem dX7_pairs_7 : decode cX7_pairs 7 = .ok (.if_icmp .ge 60, 3) := by decide +kernel
theorem dX7_pairs_10 : decode cX7_pairs 10 = .ok (.iconst 0, 1) := by decide +kernel
theorem dX7_pairs_11 : decode cX7_pairs 11 = .ok (.istore 4, 2) := by decide +kernel
theorem dX7_pairs_13 : decode cX7_pairs 13 = .ok (.iload 4, 2) := by decide +kernel
theorem dX7_pairs_15 : decode cX7_pairs 15 = .ok (.iload_n 3, 1) := by decide +kernel
theorem dX7_pairs_16 : decode cX7_pairs 16 = .ok (.if_icmp .ge 45, 3) := by decide +kernel
theorem dX7_pairs_19 : decode cX7_pairs 19 = .ok (.iload_n 2, 1) := by decide +kernel
theorem dX7_pairs_20 : decode cX7_pairs 20 = .ok (.iload_n 1, 1) := by decide +kernel
theorem dX7_pairs_21 : decode cX7_pairs 21 = .ok (.ifCond .eq 17, 3) := by decide +kernel
theorem dX7_pairs_24 : decode cX7_pairs 24 = .ok (.aload_n 0, 1) := by decide +kernel
theorem dX7_pairs_25 : decode cX7_pairs 25 = .ok (.iload_n 3, 1) := by decide +kernel
theorem dX7_pairs_26 : decode cX7_pairs 26 = .ok (.iload 4, 2) := by decide +kernel
theorem dX7_pairs_28 : decode cX7_pairs 28 = .ok (.invokevirtual 72, 3) := by decide +kernel
theorem dX7_pairs_31 : decode cX7_pairs 31 = .ok (.iconst 2, 1) := by decide +kernel
theorem dX7_pairs_32 : decode cX7_pairs 32 = .ok (.if_icmp .ne 20, 3) := by decide +kernel
theorem dX7_pairs_35 : decode cX7_pairs 35 = .ok (.goto 13, 3) := by decide +kernel
theorem dX7_pairs_38 : decode cX7_pairs 38 = .ok (.aload_n 0, 1) := by decide +kernel
theorem dX7_pairs_39 : decode cX7_pairs 39 = .ok (.iload_n 3, 1) := by decide +kernel
theorem dX7_pairs_40 : decode cX7_pairs 40 = .ok (.iload 4, 2) := by decide +kernel
theorem dX7_pairs_42 : decode cX7_pairs 42 = .ok (.invokevirtual 93, 3) := by decide +kernel
theorem dX7_pairs_45 : decode cX7_pairs 45 = .ok (.ifCond .eq 7, 3) := by decide +kernel
theorem dX7_pairs_48 : decode cX7_pairs 48 = .ok (.iconst 1, 1) := by decide +kernel
theorem dX7_pairs_49 : decode cX7_pairs 49 = .ok (.goto 4, 3) := by decide +kernel
theorem dX7_pairs_52 : decode cX7_pairs 52 = .ok (.iconst 0, 1) := by decide +kernel
theorem dX7_pairs_53 : decode cX7_pairs 53 = .ok (.iadd, 1) := by decide +kernel
theorem dX7_pairs_54 : decode cX7_pairs 54 = .ok (.istore_n 2, 1) := by decide +kernel
theorem dX7_pairs_55 : decode cX7_pairs 55 = .ok (.iinc 4 1, 3) := by decide +kernel
theorem dX7_pairs_58 : decode cX7_pairs 58 = .ok (.goto (-45), 3) := by decide +kernel
theorem dX7_pairs_61 : decode cX7_pairs 61 = .ok (.iinc 3 1, 3) := by decide +kernel
theorem dX7_pairs_64 : decode cX7_pairs 64 = .ok (.goto (-60), 3) := by decide +kernel
theorem dX7_pairs_67 : decode cX7_pairs 67 = .ok (.iload_n 2, 1) := by decide +kernel
theorem dX7_pairs_68 : decode cX7_pairs 68 = .ok (.ireturn, 1) := by decide +kernel
theorem dX7_count_0 : decode cX7_count 0 = .ok (.iconst 0, 1) := by decide +kernel
theorem dX7_count_1 : decode cX7_count 1 = .ok (.istore_n 2, 1) := by decide +kernel
theorem dX7_count_2 : decode cX7_count 2 = .ok (.iload_n 1, 1) := by decide +kernel
theorem dX7_count_3 : decode cX7_count 3 = .ok (.tableswitch 147 0 7 #[45, 52, 80, 86, 92, 99, 104, 111], 45) := by decide +kernel
theorem dX7_count_48 : decode cX7_count 48 = .ok (.aload_n 0, 1) := by decide +kernel
theorem dX7_count_49 : decode cX7_count 49 = .ok (.getfield 9, 3) := by decide +kernel
theorem dX7_count_52 : decode cX7_count 52 = .ok (.iconst 3, 1) := by decide +kernel
theorem dX7_count_53 : decode cX7_count 53 = .ok (.iaload, 1) := by decide +kernel
theorem dX7_count_54 : decode cX7_count 54 = .ok (.ireturn, 1) := by decide +kernel
theorem dX7_count_55 : decode cX7_count 55 = .ok (.iconst 0, 1) := by decide +kernel
theorem dX7_count_56 : decode cX7_count 56 = .ok (.istore_n 3, 1) := by decide +kernel
theorem dX7_count_57 : decode cX7_count 57 = .ok (.iload_n 3, 1) := by decide +kernel
theorem dX7_count_58 : decode cX7_count 58 = .ok (.aload_n 0, 1) := by decide +kernel
theorem dX7_count_59 : decode cX7_count 59 = .ok (.getfield 9, 3) := by decide +kernel
theorem dX7_count_62 : decode cX7_count 62 = .ok (.iconst 3, 1) := by decide +kernel
theorem dX7_count_63 : decode cX7_count 63 = .ok (.iaload, 1) := by decide +kernel
theorem dX7_count_64 : decode cX7_count 64 = .ok (.if_icmp .ge 17, 3) := by decide +kernel
theorem dX7_count_67 : decode cX7_count 67 = .ok (.iload_n 2, 1) := by decide +kernel
theorem dX7_count_68 : decode cX7_count 68 = .ok (.aload_n 0, 1) := by decide +kernel
theorem dX7_count_69 : decode cX7_count 69 = .ok (.iload_n 3, 1) := by decide +kernel
theorem dX7_count_70 : decode cX7_count 70 = .ok (.invokevirtual 145, 3) := by decide +kernel
theorem dX7_count_73 : decode cX7_count 73 = .ok (.iadd, 1) := by decide +kernel
theorem dX7_count_74 : decode cX7_count 74 = .ok (.istore_n 2, 1) := by decide +kernel
theorem dX7_count_75 : decode cX7_count 75 = .ok (.iinc 3 1, 3) := by decide +kernel
theorem dX7_count_78 : decode cX7_count 78 = .ok (.goto (-21), 3) := by decide +kernel
theorem dX7_count_81 : decode cX7_count 81 = .ok (.iload_n 2, 1) := by decide +kernel
theorem dX7_count_82 : decode cX7_count 82 = .ok (.ireturn, 1) := by decide +kernel
theorem dX7_count_83 : decode cX7_count 83 = .ok (.aload_n 0, 1) := by decide +kernel
theorem dX7_count_84 : decode cX7_count 84 = .ok (.iconst 0, 1) := by decide +kernel
theorem dX7_count_85 : decode cX7_count 85 = .ok (.invokevirtual 325, 3) := by decide +kernel
theorem dX7_count_88 : decode cX7_count 88 = .ok (.ireturn, 1) := by decide +kernel
theorem dX7_count_89 : decode cX7_count 89 = .ok (.aload_n 0, 1) := by decide +kernel
theorem dX7_count_90 : decode cX7_count 90 = .ok (.iconst 1, 1) := by decide +kernel
theorem dX7_count_91 : decode cX7_count 91 = .ok (.invokevirtual 325, 3) := by decide +kernel
theorem dX7_count_94 : decode cX7_count 94 = .ok (.ireturn, 1) := by decide +kernel
theorem dX7_count_95 : decode cX7_count 95 = .ok (.aload_n 0, 1) := by decide +kernel
theorem dX7_count_96 : decode cX7_count 96 = .ok (.getfield 9, 3) := by decide +kernel
theorem dX7_count_99 : decode cX7_count 99 = .ok (.iconst 1, 1) := by decide +kernel
theorem dX7_count_100 : decode cX7_count 100 = .ok (.iaload, 1) := by decide +kernel
theorem dX7_count_101 : decode cX7_count 101 = .ok (.ireturn, 1) := by decide +kernel
theorem dX7_count_102 : decode cX7_count 102 = .ok (.aload_n 0, 1) := by decide +kernel
theorem dX7_count_103 : decode cX7_count 103 = .ok (.getfield 215, 3) := by decide +kernel
theorem dX7_count_106 : decode cX7_count 106 = .ok (.ireturn, 1) := by decide +kernel
theorem dX7_count_107 : decode cX7_count 107 = .ok (.aload_n 0, 1) := by decide +kernel
theorem dX7_count_108 : decode cX7_count 108 = .ok (.getfield 9, 3) := by decide +kernel
theorem dX7_count_111 : decode cX7_count 111 = .ok (.iconst 2, 1) := by decide +kernel
theorem dX7_count_112 : decode cX7_count 112 = .ok (.iaload, 1) := by decide +kernel
theorem dX7_count_113 : decode cX7_count 113 = .ok (.ireturn, 1) := by decide +kernel
theorem dX7_count_114 : decode cX7_count 114 = .ok (.iconst 0, 1) := by decide +kernel
theorem dX7_count_115 : decode cX7_count 115 = .ok (.istore_n 3, 1) := by decide +kernel
theorem dX7_count_116 : decode cX7_count 116 = .ok (.iload_n 3, 1) := by decide +kernel
theorem dX7_count_117 : decode cX7_count 117 = .ok (.aload_n 0, 1) := by decide +kernel
theorem dX7_count_118 : decode cX7_count 118 = .ok (.getfield 9, 3) := by decide +kernel
theorem dX7_count_121 : decode cX7_count 121 = .ok (.iconst 3, 1) := by decide +kernel
theorem dX7_count_122 : decode cX7_count 122 = .ok (.iaload, 1) := by decide +kernel
theorem dX7_count_123 : decode cX7_count 123 = .ok (.if_icmp .ge 25, 3) := by decide +kernel
theorem dX7_count_126 : decode cX7_count 126 = .ok (.iload_n 2, 1) := by decide +kernel
theorem dX7_count_127 : decode cX7_count 127 = .ok (.aload_n 0, 1) := by decide +kernel
theorem dX7_count_128 : decode cX7_count 128 = .ok (.iload_n 3, 1) := by decide +kernel
theorem dX7_count_129 : decode cX7_count 129 = .ok (.invokevirtual 161, 3) := by decide +kernel
theorem dX7_count_132 : decode cX7_count 132 = .ok (.ifCond .eq 7, 3) := by decide +kernel
theorem dX7_count_135 : decode cX7_count 135 = .ok (.iconst 1, 1) := by decide +kernel
theorem dX7_count_136 : decode cX7_count 136 = .ok (.goto 4, 3) := by decide +kernel
theorem dX7_count_139 : decode cX7_count 139 = .ok (.iconst 0, 1) := by decide +kernel
theorem dX7_count_140 : decode cX7_count 140 = .ok (.iadd, 1) := by decide +kernel
theorem dX7_count_141 : decode cX7_count 141 = .ok (.istore_n 2, 1) := by decide +kernel
theorem dX7_count_142 : decode cX7_count 142 = .ok (.iinc 3 1, 3) := by decide +kernel
theorem dX7_count_145 : decode cX7_count 145 = .ok (.goto (-29), 3) := by decide +kernel
theorem dX7_count_148 : decode cX7_count 148 = .ok (.iload_n 2, 1) := by decide +kernel
theorem dX7_count_149 : decode cX7_count 149 = .ok (.ireturn, 1) := by decide +kernel
theorem dX7_count_150 : decode cX7_count 150 = .ok (.aload_n 0, 1) := by decide +kernel
theorem dX7_count_151 : decode cX7_count 151 = .ok (.ldc 46, 2) := by decide +kernel
theorem dX7_count_153 : decode cX7_count 153 = .ok (.invokevirtual 48, 3) := by decide +kernel
theorem dX7_count_156 : decode cX7_count 156 = .ok (.ireturn, 1) := by decide +kernel
theorem dX7_status_0 : decode cX7_status 0 = .ok (.iload_n 1, 1) := by decide +kernel
theorem dX7_status_1 : decode cX7_status 1 = .ok (.i2l, 1) := by decide +kernel
theorem dX7_status_2 : decode cX7_status 2 = .ok (.ldc2_w 329, 3) := by decide +kernel
theorem dX7_status_5 : decode cX7_status 5 = .ok (.ldc2_w 60, 3) := by decide +kernel
theorem dX7_status_8 : decode cX7_status 8 = .ok (.invokestatic 54, 3) := by decide +kernel
theorem dX7_status_11 : decode cX7_status 11 = .ok (.ifCond .ne 10, 3) := by decide +kernel
theorem dX7_status_14 : decode cX7_status 14 = .ok (.aload_n 0, 1) := by decide +kernel
theorem dX7_status_15 : decode cX7_status 15 = .ok (.ldc 46, 2) := by decide +kernel
theorem dX7_status_17 : decode cX7_status 17 = .ok (.invokevirtual 48, 3) := by decide +kernel
theorem dX7_status_20 : decode cX7_status 20 = .ok (.ireturn, 1) := by decide +kernel
theorem dX7_status_21 : decode cX7_status 21 = .ok (.iconst 0, 1) := by decide +kernel
theorem dX7_status_22 : decode cX7_status 22 = .ok (.istore_n 2, 1) := by decide +kernel
theorem dX7_status_23 : decode cX7_status 23 = .ok (.iconst 0, 1) := by decide +kernel
theorem dX7_status_24 : decode cX7_status 24 = .ok (.istore_n 3, 1) := by decide +kernel
theorem dX7_status_25 : decode cX7_status 25 = .ok (.iload_n 3, 1) := by decide +kernel
theorem dX7_status_26 : decode cX7_status 26 = .ok (.bipush 7, 2) := by decide +kernel
theorem dX7_status_28 : decode cX7_status 28 = .ok (.if_icmp .ge 31, 3) := by decide +kernel
theorem dX7_status_31 : decode cX7_status 31 = .ok (.iload_n 2, 1) := by decide +kernel
theorem dX7_status_32 : decode cX7_status 32 = .ok (.iload_n 1, 1) := by decide +kernel
theorem dX7_status_33 : decode cX7_status 33 = .ok (.ifCond .lt 8, 3) := by decide +kernel
theorem dX7_status_36 : decode cX7_status 36 = .ok (.iload_n 1, 1) := by decide +kernel
theorem dX7_status_37 : decode cX7_status 37 = .ok (.iload_n 3, 1) := by decide +kernel
theorem dX7_status_38 : decode cX7_status 38 = .ok (.if_icmp .ne 12, 3) := by decide +kernel
theorem dX7_status_41 : decode cX7_status 41 = .ok (.aload_n 0, 1) := by decide +kernel
theorem dX7_status_42 : decode cX7_status 42 = .ok (.getfield 19, 3) := by decide +kernel
theorem dX7_status_45 : decode cX7_status 45 = .ok (.iload_n 3, 1) := by decide +kernel
theorem dX7_status_46 : decode cX7_status 46 = .ok (.iaload, 1) := by decide +kernel
theorem dX7_status_47 : decode cX7_status 47 = .ok (.goto 4, 3) := by decide +kernel
theorem dX7_status_50 : decode cX7_status 50 = .ok (.iconst 0, 1) := by decide +kernel
theorem dX7_status_51 : decode cX7_status 51 = .ok (.iadd, 1) := by decide +kernel
theorem dX7_status_52 : decode cX7_status 52 = .ok (.istore_n 2, 1) := by decide +kernel
theorem dX7_status_53 : decode cX7_status 53 = .ok (.iinc 3 1, 3) := by decide +kernel
theorem dX7_status_56 : decode cX7_status 56 = .ok (.goto (-31), 3) := by decide +kernel
theorem dX7_status_59 : decode cX7_status 59 = .ok (.iload_n 2, 1) := by decide +kernel
theorem dX7_status_60 : decode cX7_status 60 = .ok (.ireturn, 1) := by decide +kernel
