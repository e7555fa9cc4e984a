theorem dX9_restOf_16 : decode cX9_restOf 16 = .ok (.iload_n 3, 1) := by decide +kernel
theorem dX9_restOf_17 : decode cX9_restOf 17 = .ok (.ireturn, 1) := by decide +kernel
theorem dX9_quotient_0 : decode cX9_quotient 0 = .ok (.iconst 0, 1) := by decide +kernel
theorem dX9_quotient_1 : decode cX9_quotient 1 = .ok (.istore_n 3, 1) := by decide +kernel
theorem dX9_quotient_2 : decode cX9_quotient 2 = .ok (.iload_n 3, 1) := by decide +kernel
theorem dX9_quotient_3 : decode cX9_quotient 3 = .ok (.iload_n 2, 1) := by decide +kernel
theorem dX9_quotient_4 : decode cX9_quotient 4 = .ok (.iconst 1, 1) := by decide +kernel
theorem dX9_quotient_5 : decode cX9_quotient 5 = .ok (.isub, 1) := by decide +kernel
theorem dX9_quotient_6 : decode cX9_quotient 6 = .ok (.if_icmp .ge 18, 3) := by decide +kernel
theorem dX9_quotient_9 : decode cX9_quotient 9 = .ok (.iload_n 3, 1) := by decide +kernel
theorem dX9_quotient_10 : decode cX9_quotient 10 = .ok (.iload_n 1, 1) := by decide +kernel
theorem dX9_quotient_11 : decode cX9_quotient 11 = .ok (.imul, 1) := by decide +kernel
theorem dX9_quotient_12 : decode cX9_quotient 12 = .ok (.iload_n 2, 1) := by decide +kernel
theorem dX9_quotient_13 : decode cX9_quotient 13 = .ok (.irem, 1) := by decide +kernel
theorem dX9_quotient_14 : decode cX9_quotient 14 = .ok (.iload_n 0, 1) := by decide +kernel
theorem dX9_quotient_15 : decode cX9_quotient 15 = .ok (.if_icmp .eq 9, 3) := by decide +kernel
theorem dX9_quotient_18 : decode cX9_quotient 18 = .ok (.iinc 3 1, 3) := by decide +kernel
theorem dX9_quotient_21 : decode cX9_quotient 21 = .ok (.goto (-19), 3) := by decide +kernel
theorem dX9_quotient_24 : decode cX9_quotient 24 = .ok (.iload_n 3, 1) := by decide +kernel
theorem dX9_quotient_25 : decode cX9_quotient 25 = .ok (.ireturn, 1) := by decide +kernel
theorem dX9_hasRing_0 : decode cX9_hasRing 0 = .ok (.iload_n 1, 1) := by decide +kernel
theorem dX9_hasRing_1 : decode cX9_hasRing 1 = .ok (.istore_n 2, 1) := by decide +kernel
theorem dX9_hasRing_2 : decode cX9_hasRing 2 = .ok (.iconst 0, 1) := by decide +kernel
theorem dX9_hasRing_3 : decode cX9_hasRing 3 = .ok (.istore_n 3, 1) := by decide +kernel
theorem dX9_hasRing_4 : decode cX9_hasRing 4 = .ok (.iload_n 3, 1) := by decide +kernel
theorem dX9_hasRing_5 : decode cX9_hasRing 5 = .ok (.bipush 8, 2) := by decide +kernel
theorem dX9_hasRing_7 : decode cX9_hasRing 7 = .ok (.if_icmp .ge 47, 3) := by decide +kernel
theorem dX9_hasRing_10 : decode cX9_hasRing 10 = .ok (.iconst 0, 1) := by decide +kernel
theorem dX9_hasRing_11 : decode cX9_hasRing 11 = .ok (.istore 4, 2) := by decide +kernel
theorem dX9_hasRing_13 : decode cX9_hasRing 13 = .ok (.iload 4, 2) := by decide +kernel
theorem dX9_hasRing_15 : decode cX9_hasRing 15 = .ok (.bipush 8, 2) := by decide +kernel
theorem dX9_hasRing_17 : decode cX9_hasRing 17 = .ok (.if_icmp .ge 31, 3) := by decide +kernel
theorem dX9_hasRing_20 : decode cX9_hasRing 20 = .ok (.aload_n 0, 1) := by decide +kernel
theorem dX9_hasRing_21 : decode cX9_hasRing 21 = .ok (.iload 4, 2) := by decide +kernel
theorem dX9_hasRing_23 : decode cX9_hasRing 23 = .ok (.iaload, 1) := by decide +kernel
theorem dX9_hasRing_24 : decode cX9_hasRing 24 = .ok (.iload_n 2, 1) := by decide +kernel
theorem dX9_hasRing_25 : decode cX9_hasRing 25 = .ok (.iand, 1) := by decide +kernel
theorem dX9_hasRing_26 : decode cX9_hasRing 26 = .ok (.invokestatic 180, 3) := by decide +kernel
theorem dX9_hasRing_29 : decode cX9_hasRing 29 = .ok (.iconst 1, 1) := by decide +kernel
theorem dX9_hasRing_30 : decode cX9_hasRing 30 = .ok (.if_icmp .gt 12, 3) := by decide +kernel
theorem dX9_hasRing_33 : decode cX9_hasRing 33 = .ok (.iload_n 2, 1) := by decide +kernel
theorem dX9_hasRing_34 : decode cX9_hasRing 34 = .ok (.iconst 1, 1) := by decide +kernel
theorem dX9_hasRing_35 : decode cX9_hasRing 35 = .ok (.iload 4, 2) := by decide +kernel
theorem dX9_hasRing_37 : decode cX9_hasRing 37 = .ok (.ishl, 1) := by decide +kernel
theorem dX9_hasRing_38 : decode cX9_hasRing 38 = .ok (.iconst (-1), 1) := by decide +kernel
theorem dX9_hasRing_39 : decode cX9_hasRing 39 = .ok (.ixor, 1) := by decide +kernel
theorem dX9_hasRing_40 : decode cX9_hasRing 40 = .ok (.iand, 1) := by decide +kernel
theorem dX9_hasRing_41 : decode cX9_hasRing 41 = .ok (.istore_n 2, 1) := by decide +kernel
theorem dX9_hasRing_42 : decode cX9_hasRing 42 = .ok (.iinc 4 1, 3) := by decide +kernel
theorem dX9_hasRing_45 : decode cX9_hasRing 45 = .ok (.goto (-32), 3) := by decide +kernel
theorem dX9_hasRing_48 : decode cX9_hasRing 48 = .ok (.iinc 3 1, 3) := by decide +kernel
theorem dX9_hasRing_51 : decode cX9_hasRing 51 = .ok (.goto (-47), 3) := by decide +kernel
theorem dX9_hasRing_54 : decode cX9_hasRing 54 = .ok (.iload_n 2, 1) := by decide +kernel
theorem dX9_hasRing_55 : decode cX9_hasRing 55 = .ok (.ifCond .eq 7, 3) := by decide +kernel
theorem dX9_hasRing_58 : decode cX9_hasRing 58 = .ok (.iconst 1, 1) := by decide +kernel
theorem dX9_hasRing_59 : decode cX9_hasRing 59 = .ok (.goto 4, 3) := by decide +kernel
theorem dX9_hasRing_62 : decode cX9_hasRing 62 = .ok (.iconst 0, 1) := by decide +kernel
theorem dX9_hasRing_63 : decode cX9_hasRing 63 = .ok (.ireturn, 1) := by decide +kernel
theorem dX10_init_0 : decode cX10_init 0 = .ok (.aload_n 0, 1) := by decide +kernel
theorem dX10_init_1 : decode cX10_init 1 = .ok (.invokespecial 1, 3) := by decide +kernel
theorem dX10_init_4 : decode cX10_init 4 = .ok (.aload_n 0, 1) := by decide +kernel
theorem dX10_init_5 : decode cX10_init 5 = .ok (.bipush 7, 2) := by decide +kernel
theorem dX10_init_7 : decode cX10_init 7 = .ok (.putfield 7, 3) := by decide +kernel
theorem dX10_init_10 : decode cX10_init 10 = .ok (.aload_n 0, 1) := by decide +kernel
theorem dX10_init_11 : decode cX10_init 11 = .ok (.iconst 4, 1) := by decide +kernel
theorem dX10_init_12 : decode cX10_init 12 = .ok (.putfield 13, 3) := by decide +kernel
theorem dX10_init_15 : decode cX10_init 15 = .ok (.aload_n 0, 1) := by decide +kernel
theorem dX10_init_16 : decode cX10_init 16 = .ok (.bipush 10, 2) := by decide +kernel
theorem dX10_init_18 : decode cX10_init 18 = .ok (.newarray .int, 2) := by decide +kernel
theorem dX10_init_20 : decode cX10_init 20 = .ok (.putfield 16, 3) := by decide +kernel
theorem dX10_init_23 : decode cX10_init 23 = .ok (.aload_n 0, 1) := by decide +kernel
theorem dX10_init_24 : decode cX10_init 24 = .ok (.bipush 10, 2) := by decide +kernel
theorem dX10_init_26 : decode cX10_init 26 = .ok (.newarray .int, 2) := by decide +kernel
theorem dX10_init_28 : decode cX10_init 28 = .ok (.putfield 20, 3) := by decide +kernel
theorem dX10_init_31 : decode cX10_init 31 = .ok (.aload_n 0, 1) := by decide +kernel
theorem dX10_init_32 : decode cX10_init 32 = .ok (.bipush 10, 2) := by decide +kernel
theorem dX10_init_34 : decode cX10_init 34 = .ok (.newarray .long, 2) := by decide +kernel
theorem dX10_init_36 : decode cX10_init 36 = .ok (.putfield 23, 3) := by decide +kernel
theorem dX10_init_39 : decode cX10_init 39 = .ok (.aload_n 0, 1) := by decide +kernel
theorem dX10_init_40 : decode cX10_init 40 = .ok (.bipush 120, 2) := by decide +kernel
theorem dX10_init_42 : decode cX10_init 42 = .ok (.newarray .int, 2) := by decide +kernel
theorem dX10_init_44 : decode cX10_init 44 = .ok (.putfield 27, 3) := by decide +kernel
theorem dX10_init_47 : decode cX10_init 47 = .ok (.aload_n 0, 1) := by decide +kernel
theorem dX10_init_48 : decode cX10_init 48 = .ok (.bipush 8, 2) := by decide +kernel
theorem dX10_init_50 : decode cX10_init 50 = .ok (.newarray .int, 2) := by decide +kernel
theorem dX10_init_52 : decode cX10_init 52 = .ok (.putfield 30, 3) := by decide +kernel
theorem dX10_init_55 : decode cX10_init 55 = .ok (.aload_n 0, 1) := by decide +kernel
theorem dX10_init_56 : decode cX10_init 56 = .ok (.sipush 156, 3) := by decide +kernel
theorem dX10_init_59 : decode cX10_init 59 = .ok (.newarray .int, 2) := by decide +kernel
theorem dX10_init_61 : decode cX10_init 61 = .ok (.putfield 33, 3) := by decide +kernel
theorem dX10_init_64 : decode cX10_init 64 = .ok (.aload_n 0, 1) := by decide +kernel
theorem dX10_init_65 : decode cX10_init 65 = .ok (.bipush 10, 2) := by decide +kernel
theorem dX10_init_67 : decode cX10_init 67 = .ok (.newarray .long, 2) := by decide +kernel
theorem dX10_init_69 : decode cX10_init 69 = .ok (.putfield 36, 3) := by decide +kernel
theorem dX10_init_72 : decode cX10_init 72 = .ok (.aload_n 0, 1) := by decide +kernel
theorem dX10_init_73 : decode cX10_init 73 = .ok (.bipush 36, 2) := by decide +kernel
theorem dX10_init_75 : decode cX10_init 75 = .ok (.newarray .long, 2) := by decide +kernel
theorem dX10_init_77 : decode cX10_init 77 = .ok (.putfield 39, 3) := by decide +kernel
theorem dX10_init_80 : decode cX10_init 80 = .ok (.aload_n 0, 1) := by decide +kernel
theorem dX10_init_81 : decode cX10_init 81 = .ok (.bipush 20, 2) := by decide +kernel
theorem dX10_init_83 : decode cX10_init 83 = .ok (.newarray .long, 2) := by decide +kernel
theorem dX10_init_85 : decode cX10_init 85 = .ok (.putfield 42, 3) := by decide +kernel
theorem dX10_init_88 : decode cX10_init 88 = .ok (.aload_n 0, 1) := by decide +kernel
theorem dX10_init_89 : decode cX10_init 89 = .ok (.iconst 4, 1) := by decide +kernel
theorem dX10_init_90 : decode cX10_init 90 = .ok (.newarray .int, 2) := by decide +kernel
theorem dX10_init_92 : decode cX10_init 92 = .ok (.putfield 45, 3) := by decide +kernel
theorem dX10_init_95 : decode cX10_init 95 = .ok (.aload_n 0, 1) := by decide +kernel
theorem dX10_init_96 : decode cX10_init 96 = .ok (.iconst 4, 1) := by decide +kernel
theorem dX10_init_97 : decode cX10_init 97 = .ok (.newarray .int, 2) := by decide +kernel
theorem dX10_init_99 : decode cX10_init 99 = .ok (.putfield 48, 3) := by decide +kernel
theorem dX10_init_102 : decode cX10_init 102 = .ok (.aload_n 0, 1) := by decide +kernel
theorem dX10_init_103 : decode cX10_init 103 = .ok (.iconst 4, 1) := by decide +kernel
theorem dX10_init_104 : decode cX10_init 104 = .ok (.newarray .int, 2) := by decide +kernel
theorem dX10_init_106 : decode cX10_init 106 = .ok (.putfield 51, 3) := by decide +kernel
theorem dX10_init_109 : decode cX10_init 109 = .ok (.aload_n 0, 1) := by decide +kernel
theorem dX10_init_110 : decode cX10_init 110 = .ok (.iconst 4, 1) := by decide +kernel
theorem dX10_init_111 : decode cX10_init 111 = .ok (.newarray .int, 2) := by decide +kernel
theorem dX10_init_113 : decode cX10_init 113 = .ok (.putfield 54, 3) := by decide +kernel
theorem dX10_init_116 : decode cX10_init 116 = .ok (.aload_n 0, 1) := by decide +kernel
theorem dX10_init_117 : decode cX10_init 117 = .ok (.bipush 24, 2) := by decide +kernel
theorem dX10_init_119 : decode cX10_init 119 = .ok (.newarray .int, 2) := by decide +kernel
theorem dX10_init_121 : decode cX10_init 121 = .ok (.putfield 57, 3) := by decide +kernel
theorem dX10_init_124 : decode cX10_init 124 = .ok (.aload_n 0, 1) := by decide +kernel
theorem dX10_init_125 : decode cX10_init 125 = .ok (.iconst 4, 1) := by decide +kernel
theorem dX10_init_126 : decode cX10_init 126 = .ok (.newarray .int, 2) := by decide +kernel
theorem dX10_init_128 : decode cX10_init 128 = .ok (.dup, 1) := by decide +kernel
theorem dX10_init_129 : decode cX10_init 129 = .ok (.iconst 0, 1) := by decide +kernel
theorem dX10_init_130 : decode cX10_init 130 = .ok (.iconst (-1), 1) := by decide +kernel
theorem dX10_init_131 : decode cX10_init 131 = .ok (.iastore, 1) := by decide +kernel
theorem dX10_init_132 : decode cX10_init 132 = .ok (.dup, 1) := by decide +kernel
theorem dX10_init_133 : decode cX10_init 133 = .ok (.iconst 1, 1) := by decide +kernel
theorem dX10_init_134 : decode cX10_init 134 = .ok (.iconst (-1), 1) := by decide +kernel
theorem dX10_init_135 : decode cX10_init 135 = .ok (.iastore, 1) := by decide +kernel
theorem dX10_init_136 : decode cX10_init 136 = .ok (.dup, 1) := by decide +kernel
theorem dX10_init_137 : decode cX10_init 137 = .ok (.iconst 2, 1) := by decide +kernel
theorem dX10_init_138 : decode cX10_init 138 = .ok (.iconst (-1), 1) := by decide +kernel
theorem dX10_init_139 : decode cX10_init 139 = .ok (.iastore, 1) := by decide +kernel
theorem dX10_init_140 : decode cX10_init 140 = .ok (.dup, 1) := by decide +kernel
theorem dX10_init_141 : decode cX10_init 141 = .ok (.iconst 3, 1) := by decide +kernel
theorem dX10_init_142 : decode cX10_init 142 = .ok (.iconst (-1), 1) := by decide +kernel
theorem dX10_init_143 : decode cX10_init 143 = .ok (.iastore, 1) := by decide +kernel
theorem dX10_init_144 : decode cX10_init 144 = .ok (.putfield 60, 3) := by decide +kernel
theorem dX10_init_147 : decode cX10_init 147 = .ok (.aload_n 0, 1) := by decide +kernel
theorem dX10_init_148 : decode cX10_init 148 = .ok (.iconst 4, 1) := by decide +kernel
theorem dX10_init_149 : decode cX10_init 149 = .ok (.newarray .int, 2) := by decide +kernel
theorem dX10_init_151 : decode cX10_init 151 = .ok (.putfield 63, 3) := by decide +kernel
theorem dX10_init_154 : decode cX10_init 154 = .ok (.aload_n 0, 1) := by decide +kernel
theorem dX10_init_155 : decode cX10_init 155 = .ok (.bipush 120, 2) := by decide +kernel
theorem dX10_init_157 : decode cX10_init 157 = .ok (.newarray .long, 2) := by decide +kernel
theorem dX10_init_159 : decode cX10_init 159 = .ok (.putfield 66, 3) := by decide +kernel
theorem dX10_init_162 : decode cX10_init 162 = .ok (.aload_n 0, 1) := by decide +kernel
theorem dX10_init_163 : decode cX10_init 163 = .ok (.sipush 151, 3) := by decide +kernel
theorem dX10_init_166 : decode cX10_init 166 = .ok (.newarray .int, 2) := by decide +kernel
theorem dX10_init_168 : decode cX10_init 168 = .ok (.putfield 69, 3) := by decide +kernel
theorem dX10_init_171 : decode cX10_init 171 = .ok (.aload_n 0, 1) := by decide +kernel
theorem dX10_init_172 : decode cX10_init 172 = .ok (.bipush 10, 2) := by decide +kernel
theorem dX10_init_174 : decode cX10_init 174 = .ok (.newarray .long, 2) := by decide +kernel
theorem dX10_init_176 : decode cX10_init 176 = .ok (.putfield 72, 3) := by decide +kernel
theorem dX10_init_179 : decode cX10_init 179 = .ok (.return_, 1) := by decide +kernel
theorem dX10_in_0 : decode cX10_in 0 = .ok (.lload_n 0, 1) := by decide +kernel
theorem dX10_in_1 : decode cX10_in 1 = .ok (.lload_n 2, 1) := by decide +kernel
theorem dX10_in_2 : decode cX10_in 2 = .ok (.lcmp, 1) := by decide +kernel
theorem dX10_in_3 : decode cX10_in 3 = .ok (.ifCond .lt 14, 3) := by decide +kernel
theorem dX10_in_6 : decode cX10_in 6 = .ok (.lload_n 0, 1) := by decide +kernel
theorem dX10_in_7 : decode cX10_in 7 = .ok (.lload 4, 2) := by decide +kernel
theorem dX10_in_9 : decode cX10_in 9 = .ok (.lcmp, 1) := by decide +kernel
theorem dX10_in_10 : decode cX10_in 10 = .ok (.ifCond .gt 7, 3) := by decide +kernel
theorem dX10_in_13 : decode cX10_in 13 = .ok (.iconst 1, 1) := by decide +kernel
theorem dX10_in_14 : decode cX10_in 14 = .ok (.goto 4, 3) := by decide +kernel
theorem dX10_in_17 : decode cX10_in 17 = .ok (.iconst 0, 1) := by decide +kernel
theorem dX10_in_18 : decode cX10_in 18 = .ok (.ireturn, 1) := by decide +kernel
theorem dX10_has_0 : decode cX10_has 0 = .ok (.iload_n 0, 1) := by decide +kernel
theorem dX10_has_1 : decode cX10_has 1 = .ok (.iload_n 1, 1) := by decide +kernel
theorem dX10_has_2 : decode cX10_has 2 = .ok (.ishr, 1) := by decide +kernel
theorem dX10_has_3 : decode cX10_has 3 = .ok (.iconst 1, 1) := by decide +kernel
theorem dX10_has_4 : decode cX10_has 4 = .ok (.iand, 1) := by decide +kernel
theorem dX10_has_5 : decode cX10_has 5 = .ok (.iconst 1, 1) := by decide +kernel
theorem dX10_has_6 : decode cX10_has 6 = .ok (.if_icmp .ne 7, 3) := by decide +kernel
theorem dX10_has_9 : decode cX10_has 9 = .ok (.iconst 1, 1) := by decide +kernel
theorem dX10_has_10 : decode cX10_has 10 = .ok (.goto 4, 3) := by decide +kernel
theorem dX10_has_13 : decode cX10_has 13 = .ok (.iconst 0, 1) := by decide +kernel
theorem dX10_has_14 : decode cX10_has 14 = .ok (.ireturn, 1) := by decide +kernel
theorem dX10_many_0 : decode cX10_many 0 = .ok (.iconst 0, 1) := by decide +kernel
theorem dX10_many_1 : decode cX10_many 1 = .ok (.istore_n 1, 1) := by decide +kernel
theorem dX10_many_2 : decode cX10_many 2 = .ok (.iload_n 0, 1) := by decide +kernel
theorem dX10_many_3 : decode cX10_many 3 = .ok (.istore_n 2, 1) := by decide +kernel
theorem dX10_many_4 : decode cX10_many 4 = .ok (.iload_n 2, 1) := by decide +kernel
theorem dX10_many_5 : decode cX10_many 5 = .ok (.ifCond .eq 15, 3) := by decide +kernel
theorem dX10_many_8 : decode cX10_many 8 = .ok (.iinc 1 1, 3) := by decide +kernel
theorem dX10_many_11 : decode cX10_many 11 = .ok (.iload_n 2, 1) := by decide +kernel
theorem dX10_many_12 : decode cX10_many 12 = .ok (.iload_n 2, 1) := by decide +kernel
theorem dX10_many_13 : decode cX10_many 13 = .ok (.iconst 1, 1) := by decide +kernel
theorem dX10_many_14 : decode cX10_many 14 = .ok (.isub, 1) := by decide +kernel
theorem dX10_many_15 : decode cX10_many 15 = .ok (.iand, 1) := by decide +kernel
theorem dX10_many_16 : decode cX10_many 16 = .ok (.istore_n 2, 1) := by decide +kernel
theorem dX10_many_17 : decode cX10_many 17 = .ok (.goto (-13), 3) := by decide +kernel
theorem dX10_many_20 : decode cX10_many 20 = .ok (.iload_n 1, 1) := by decide +kernel
theorem dX10_many_21 : decode cX10_many 21 = .ok (.ireturn, 1) := by decide +kernel
theorem dX10_isPair_0 : decode cX10_isPair 0 = .ok (.iload_n 1, 1) := by decide +kernel
theorem dX10_isPair_1 : decode cX10_isPair 1 = .ok (.i2l, 1) := by decide +kernel
theorem dX10_isPair_2 : decode cX10_isPair 2 = .ok (.lconst 0, 1) := by decide +kernel
theorem dX10_isPair_3 : decode cX10_isPair 3 = .ok (.aload_n 0, 1) := by decide +kernel
theorem dX10_isPair_4 : decode cX10_isPair 4 = .ok (.getfield 75, 3) := by decide +kernel
theorem dX10_isPair_7 : decode cX10_isPair 7 = .ok (.iconst 1, 1) := by decide +kernel
theorem dX10_isPair_8 : decode cX10_isPair 8 = .ok (.isub, 1) := by decide +kernel
theorem dX10_isPair_9 : decode cX10_isPair 9 = .ok (.i2l, 1) := by decide +kernel
theorem dX10_isPair_10 : decode cX10_isPair 10 = .ok (.invokestatic 78, 3) := by decide +kernel
theorem dX10_isPair_13 : decode cX10_isPair 13 = .ok (.ireturn, 1) := by decide +kernel
theorem dX10_isSet_0 : decode cX10_isSet 0 = .ok (.iload_n 1, 1) := by decide +kernel
theorem dX10_isSet_1 : decode cX10_isSet 1 = .ok (.i2l, 1) := by decide +kernel
theorem dX10_isSet_2 : decode cX10_isSet 2 = .ok (.lconst 0, 1) := by decide +kernel
theorem dX10_isSet_3 : decode cX10_isSet 3 = .ok (.iconst 1, 1) := by decide +kernel
theorem dX10_isSet_4 : decode cX10_isSet 4 = .ok (.aload_n 0, 1) := by decide +kernel
theorem dX10_isSet_5 : decode cX10_isSet 5 = .ok (.getfield 75, 3) := by decide +kernel
theorem dX10_isSet_8 : decode cX10_isSet 8 = .ok (.ishl, 1) := by decide +kernel
theorem dX10_isSet_9 : decode cX10_isSet 9 = .ok (.iconst 1, 1) := by decide +kernel
theorem dX10_isSet_10 : decode cX10_isSet 10 = .ok (.isub, 1) := by decide +kernel
theorem dX10_isSet_11 : decode cX10_isSet 11 = .ok (.i2l, 1) := by decide +kernel
theorem dX10_isSet_12 : decode cX10_isSet 12 = .ok (.invokestatic 78, 3) := by decide +kernel
theorem dX10_isSet_15 : decode cX10_isSet 15 = .ok (.ireturn, 1) := by decide +kernel
theorem dX10_rest_0 : decode cX10_rest 0 = .ok (.lload_n 1, 1) := by decide +kernel
theorem dX10_rest_1 : decode cX10_rest 1 = .ok (.aload_n 0, 1) := by decide +kernel
theorem dX10_rest_2 : decode cX10_rest 2 = .ok (.getfield 7, 3) := by decide +kernel
theorem dX10_rest_5 : decode cX10_rest 5 = .ok (.i2l, 1) := by decide +kernel
theorem dX10_rest_6 : decode cX10_rest 6 = .ok (.lrem, 1) := by decide +kernel
theorem dX10_rest_7 : decode cX10_rest 7 = .ok (.l2i, 1) := by decide +kernel
theorem dX10_rest_8 : decode cX10_rest 8 = .ok (.istore_n 3, 1) := by decide +kernel
theorem dX10_rest_9 : decode cX10_rest 9 = .ok (.iload_n 3, 1) := by decide +kernel
theorem dX10_rest_10 : decode cX10_rest 10 = .ok (.ifCond .ge 12, 3) := by decide +kernel
theorem dX10_rest_13 : decode cX10_rest 13 = .ok (.iload_n 3, 1) := by decide +kernel
theorem dX10_rest_14 : decode cX10_rest 14 = .ok (.aload_n 0, 1) := by decide +kernel
theorem dX10_rest_15 : decode cX10_rest 15 = .ok (.getfield 7, 3) := by decide +kernel
theorem dX10_rest_18 : decode cX10_rest 18 = .ok (.iadd, 1) := by decide +kernel
theorem dX10_rest_19 : decode cX10_rest 19 = .ok (.goto 4, 3) := by decide +kernel
theorem dX10_rest_22 : decode cX10_rest 22 = .ok (.iload_n 3, 1) := by decide +kernel
theorem dX10_rest_23 : decode cX10_rest 23 = .ok (.ireturn, 1) := by decide +kernel
theorem dX10_over_0 : decode cX10_over 0 = .ok (.iconst 0, 1) := by decide +kernel
theorem dX10_over_1 : decode cX10_over 1 = .ok (.istore_n 3, 1) := by decide +kernel
theorem dX10_over_2 : decode cX10_over 2 = .ok (.aload_n 0, 1) := by decide +kernel
theorem dX10_over_3 : decode cX10_over 3 = .ok (.iload_n 3, 1) := by decide +kernel
theorem dX10_over_4 : decode cX10_over 4 = .ok (.i2l, 1) := by decide +kernel
theorem dX10_over_5 : decode cX10_over 5 = .ok (.iload_n 2, 1) := by decide +kernel
theorem dX10_over_6 : decode cX10_over 6 = .ok (.i2l, 1) := by decide +kernel
theorem dX10_over_7 : decode cX10_over 7 = .ok (.lmul, 1) := by decide +kernel
theorem dX10_over_8 : decode cX10_over 8 = .ok (.invokevirtual 82, 3) := by decide +kernel
theorem dX10_over_11 : decode cX10_over 11 = .ok (.aload_n 0, 1) := by decide +kernel
theorem dX10_over_12 : decode cX10_over 12 = .ok (.iload_n 1, 1) := by decide +kernel
theorem dX10_over_13 : decode cX10_over 13 = .ok (.i2l, 1) := by decide +kernel
theorem dX10_over_14 : decode cX10_over 14 = .ok (.invokevirtual 82, 3) := by decide +kernel
theorem dX10_over_17 : decode cX10_over 17 = .ok (.if_icmp .eq 9, 3) := by decide +kernel
theorem dX10_over_20 : decode cX10_over 20 = .ok (.iinc 3 1, 3) := by decide +kernel
theorem dX10_over_23 : decode cX10_over 23 = .ok (.goto (-21), 3) := by decide +kernel
theorem dX10_over_26 : decode cX10_over 26 = .ok (.iload_n 3, 1) := by decide +kernel
theorem dX10_over_27 : decode cX10_over 27 = .ok (.ireturn, 1) := by decide +kernel
theorem dX10_isPrime_0 : decode cX10_isPrime 0 = .ok (.iconst 2, 1) := by decide +kernel
theorem dX10_isPrime_1 : decode cX10_isPrime 1 = .ok (.istore_n 1, 1) := by decide +kernel
theorem dX10_isPrime_2 : decode cX10_isPrime 2 = .ok (.iload_n 1, 1) := by decide +kernel
theorem dX10_isPrime_3 : decode cX10_isPrime 3 = .ok (.iload_n 0, 1) := by decide +kernel
theorem dX10_isPrime_4 : decode cX10_isPrime 4 = .ok (.if_icmp .ge 17, 3) := by decide +kernel
theorem dX10_isPrime_7 : decode cX10_isPrime 7 = .ok (.iload_n 0, 1) := by decide +kernel
theorem dX10_isPrime_8 : decode cX10_isPrime 8 = .ok (.iload_n 1, 1) := by decide +kernel
theorem dX10_isPrime_9 : decode cX10_isPrime 9 = .ok (.irem, 1) := by decide +kernel
theorem dX10_isPrime_10 : decode cX10_isPrime 10 = .ok (.ifCond .ne 5, 3) := by decide +kernel
theorem dX10_isPrime_13 : decode cX10_isPrime 13 = .ok (.iconst 0, 1) := by decide +kernel
theorem dX10_isPrime_14 : decode cX10_isPrime 14 = .ok (.ireturn, 1) := by decide +kernel
theorem dX10_isPrime_15 : decode cX10_isPrime 15 = .ok (.iinc 1 1, 3) := by decide +kernel
theorem dX10_isPrime_18 : decode cX10_isPrime 18 = .ok (.goto (-16), 3) := by decide +kernel
theorem dX10_isPrime_21 : decode cX10_isPrime 21 = .ok (.iload_n 0, 1) := by decide +kernel
theorem dX10_isPrime_22 : decode cX10_isPrime 22 = .ok (.i2l, 1) := by decide +kernel
theorem dX10_isPrime_23 : decode cX10_isPrime 23 = .ok (.ldc2_w 86, 3) := by decide +kernel
theorem dX10_isPrime_26 : decode cX10_isPrime 26 = .ok (.ldc2_w 88, 3) := by decide +kernel
theorem dX10_isPrime_29 : decode cX10_isPrime 29 = .ok (.invokestatic 78, 3) := by decide +kernel
theorem dX10_isPrime_32 : decode cX10_isPrime 32 = .ok (.ireturn, 1) := by decide +kernel
theorem dX10_field_0 : decode cX10_field 0 = .ok (.iload_n 1, 1) := by decide +kernel
theorem dX10_field_1 : decode cX10_field 1 = .ok (.i2l, 1) := by decide +kernel
theorem dX10_field_2 : decode cX10_field 2 = .ok (.ldc2_w 86, 3) := by decide +kernel
theorem dX10_field_5 : decode cX10_field 5 = .ok (.ldc2_w 88, 3) := by decide +kernel
theorem dX10_field_8 : decode cX10_field 8 = .ok (.invokestatic 78, 3) := by decide +kernel
theorem dX10_field_11 : decode cX10_field 11 = .ok (.ifCond .eq 22, 3) := by decide +kernel
theorem dX10_field_14 : decode cX10_field 14 = .ok (.iload_n 1, 1) := by decide +kernel
theorem dX10_field_15 : decode cX10_field 15 = .ok (.invokestatic 90, 3) := by decide +kernel
theorem dX10_field_18 : decode cX10_field 18 = .ok (.ifCond .eq 15, 3) := by decide +kernel
theorem dX10_field_21 : decode cX10_field 21 = .ok (.iload_n 2, 1) := by decide +kernel
theorem dX10_field_22 : decode cX10_field 22 = .ok (.i2l, 1) := by decide +kernel
theorem dX10_field_23 : decode cX10_field 23 = .ok (.lconst 1, 1) := by decide +kernel
theorem dX10_field_24 : decode cX10_field 24 = .ok (.ldc2_w 94, 3) := by decide +kernel
theorem dX10_field_27 : decode cX10_field 27 = .ok (.invokestatic 78, 3) := by decide +kernel
theorem dX10_field_30 : decode cX10_field 30 = .ok (.ifCond .ne 6, 3) := by decide +kernel
theorem dX10_field_33 : decode cX10_field 33 = .ok (.bipush (-2), 2) := by decide +kernel
theorem dX10_field_35 : decode cX10_field 35 = .ok (.ireturn, 1) := by decide +kernel
theorem dX10_field_36 : decode cX10_field 36 = .ok (.aload_n 0, 1) := by decide +kernel
theorem dX10_field_37 : decode cX10_field 37 = .ok (.getfield 7, 3) := by decide +kernel
theorem dX10_field_40 : decode cX10_field 40 = .ok (.istore_n 3, 1) := by decide +kernel
theorem dX10_field_41 : decode cX10_field 41 = .ok (.aload_n 0, 1) := by decide +kernel
theorem dX10_field_42 : decode cX10_field 42 = .ok (.iload_n 1, 1) := by decide +kernel
theorem dX10_field_43 : decode cX10_field 43 = .ok (.putfield 7, 3) := by decide +kernel
theorem dX10_field_46 : decode cX10_field 46 = .ok (.aload_n 0, 1) := by decide +kernel
theorem dX10_field_47 : decode cX10_field 47 = .ok (.iload_n 2, 1) := by decide +kernel
theorem dX10_field_48 : decode cX10_field 48 = .ok (.putfield 13, 3) := by decide +kernel
theorem dX10_field_51 : decode cX10_field 51 = .ok (.iload_n 3, 1) := by decide +kernel
theorem dX10_field_52 : decode cX10_field 52 = .ok (.ireturn, 1) := by decide +kernel
theorem dX10_divided_0 : decode cX10_divided 0 = .ok (.aload_n 0, 1) := by decide +kernel
theorem dX10_divided_1 : decode cX10_divided 1 = .ok (.iload_n 2, 1) := by decide +kernel
theorem dX10_divided_2 : decode cX10_divided 2 = .ok (.i2l, 1) := by decide +kernel
theorem dX10_divided_3 : decode cX10_divided 3 = .ok (.invokevirtual 82, 3) := by decide +kernel
theorem dX10_divided_6 : decode cX10_divided 6 = .ok (.ifCond .ne 8, 3) := by decide +kernel
theorem dX10_divided_9 : decode cX10_divided 9 = .ok (.bipush (-2), 2) := by decide +kernel
theorem dX10_divided_11 : decode cX10_divided 11 = .ok (.goto 19, 3) := by decide +kernel
theorem dX10_divided_14 : decode cX10_divided 14 = .ok (.aload_n 0, 1) := by decide +kernel
theorem dX10_divided_15 : decode cX10_divided 15 = .ok (.aload_n 0, 1) := by decide +kernel
theorem dX10_divided_16 : decode cX10_divided 16 = .ok (.iload_n 1, 1) := by decide +kernel
theorem dX10_divided_17 : decode cX10_divided 17 = .ok (.i2l, 1) := by decide +kernel
theorem dX10_divided_18 : decode cX10_divided 18 = .ok (.invokevirtual 82, 3) := by decide +kernel
theorem dX10_divided_21 : decode cX10_divided 21 = .ok (.aload_n 0, 1) := by decide +kernel
theorem dX10_divided_22 : decode cX10_divided 22 = .ok (.iload_n 2, 1) := by decide +kernel
theorem dX10_divided_23 : decode cX10_divided 23 = .ok (.i2l, 1) := by decide +kernel
theorem dX10_divided_24 : decode cX10_divided 24 = .ok (.invokevirtual 82, 3) := by decide +kernel
theorem dX10_divided_27 : decode cX10_divided 27 = .ok (.invokevirtual 96, 3) := by decide +kernel
theorem dX10_divided_30 : decode cX10_divided 30 = .ok (.ireturn, 1) := by decide +kernel
theorem dX10_pair_0 : decode cX10_pair 0 = .ok (.iload_n 1, 1) := by decide +kernel
theorem dX10_pair_1 : decode cX10_pair 1 = .ok (.i2l, 1) := by decide +kernel
theorem dX10_pair_2 : decode cX10_pair 2 = .ok (.lconst 0, 1) := by decide +kernel
theorem dX10_pair_3 : decode cX10_pair 3 = .ok (.ldc2_w 100, 3) := by decide +kernel
theorem dX10_pair_6 : decode cX10_pair 6 = .ok (.invokestatic 78, 3) := by decide +kernel
theorem dX10_pair_9 : decode cX10_pair 9 = .ok (.ifCond .eq 15, 3) := by decide +kernel
theorem dX10_pair_12 : decode cX10_pair 12 = .ok (.iload_n 2, 1) := by decide +kernel
theorem dX10_pair_13 : decode cX10_pair 13 = .ok (.i2l, 1) := by decide +kernel
theorem dX10_pair_14 : decode cX10_pair 14 = .ok (.lconst 0, 1) := by decide +kernel
theorem dX10_pair_15 : decode cX10_pair 15 = .ok (.ldc2_w 102, 3) := by decide +kernel
theorem dX10_pair_18 : decode cX10_pair 18 = .ok (.invokestatic 78, 3) := by decide +kernel
theorem dX10_pair_21 : decode cX10_pair 21 = .ok (.ifCond .ne 6, 3) := by decide +kernel
theorem dX10_pair_24 : decode cX10_pair 24 = .ok (.bipush (-2), 2) := by decide +kernel
theorem dX10_pair_26 : decode cX10_pair 26 = .ok (.ireturn, 1) := by decide +kernel
theorem dX10_pair_27 : decode cX10_pair 27 = .ok (.aload_n 0, 1) := by decide +kernel
theorem dX10_pair_28 : decode cX10_pair 28 = .ok (.getfield 75, 3) := by decide +kernel
theorem dX10_pair_31 : decode cX10_pair 31 = .ok (.bipush 10, 2) := by decide +kernel
theorem dX10_pair_33 : decode cX10_pair 33 = .ok (.if_icmp .ne 6, 3) := by decide +kernel
theorem dX10_pair_36 : decode cX10_pair 36 = .ok (.bipush (-4), 2) := by decide +kernel
theorem dX10_pair_38 : decode cX10_pair 38 = .ok (.ireturn, 1) := by decide +kernel
theorem dX10_pair_39 : decode cX10_pair 39 = .ok (.aload_n 0, 1) := by decide +kernel
theorem dX10_pair_40 : decode cX10_pair 40 = .ok (.getfield 16, 3) := by decide +kernel
theorem dX10_pair_43 : decode cX10_pair 43 = .ok (.aload_n 0, 1) := by decide +kernel
theorem dX10_pair_44 : decode cX10_pair 44 = .ok (.getfield 75, 3) := by decide +kernel
theorem dX10_pair_47 : decode cX10_pair 47 = .ok (.iload_n 1, 1) := by decide +kernel
theorem dX10_pair_48 : decode cX10_pair 48 = .ok (.iastore, 1) := by decide +kernel
theorem dX10_pair_49 : decode cX10_pair 49 = .ok (.aload_n 0, 1) := by decide +kernel
theorem dX10_pair_50 : decode cX10_pair 50 = .ok (.getfield 20, 3) := by decide +kernel
theorem dX10_pair_53 : decode cX10_pair 53 = .ok (.aload_n 0, 1) := by decide +kernel
theorem dX10_pair_54 : decode cX10_pair 54 = .ok (.getfield 75, 3) := by decide +kernel
theorem dX10_pair_57 : decode cX10_pair 57 = .ok (.iload_n 2, 1) := by decide +kernel
theorem dX10_pair_58 : decode cX10_pair 58 = .ok (.iastore, 1) := by decide +kernel
theorem dX10_pair_59 : decode cX10_pair 59 = .ok (.aload_n 0, 1) := by decide +kernel
theorem dX10_pair_60 : decode cX10_pair 60 = .ok (.getfield 23, 3) := by decide +kernel
theorem dX10_pair_63 : decode cX10_pair 63 = .ok (.aload_n 0, 1) := by decide +kernel
theorem dX10_pair_64 : decode cX10_pair 64 = .ok (.getfield 75, 3) := by decide +kernel
theorem dX10_pair_67 : decode cX10_pair 67 = .ok (.lconst 0, 1) := by decide +kernel
theorem dX10_pair_68 : decode cX10_pair 68 = .ok (.lastore, 1) := by decide +kernel
theorem dX10_pair_69 : decode cX10_pair 69 = .ok (.iconst 0, 1) := by decide +kernel
theorem dX10_pair_70 : decode cX10_pair 70 = .ok (.istore_n 3, 1) := by decide +kernel
theorem dX10_pair_71 : decode cX10_pair 71 = .ok (.iload_n 3, 1) := by decide +kernel
theorem dX10_pair_72 : decode cX10_pair 72 = .ok (.bipush 12, 2) := by decide +kernel
theorem dX10_pair_74 : decode cX10_pair 74 = .ok (.if_icmp .ge 24, 3) := by decide +kernel
theorem dX10_pair_77 : decode cX10_pair 77 = .ok (.aload_n 0, 1) := by decide +kernel
theorem dX10_pair_78 : decode cX10_pair 78 = .ok (.getfield 27, 3) := by decide +kernel
theorem dX10_pair_81 : decode cX10_pair 81 = .ok (.bipush 12, 2) := by decide +kernel
theorem dX10_pair_83 : decode cX10_pair 83 = .ok (.aload_n 0, 1) := by decide +kernel
theorem dX10_pair_84 : decode cX10_pair 84 = .ok (.getfield 75, 3) := by decide +kernel
theorem dX10_pair_87 : decode cX10_pair 87 = .ok (.imul, 1) := by decide +kernel
theorem dX10_pair_88 : decode cX10_pair 88 = .ok (.iload_n 3, 1) := by decide +kernel
theorem dX10_pair_89 : decode cX10_pair 89 = .ok (.iadd, 1) := by decide +kernel
theorem dX10_pair_90 : decode cX10_pair 90 = .ok (.iconst 0, 1) := by decide +kernel
theorem dX10_pair_91 : decode cX10_pair 91 = .ok (.iastore, 1) := by decide +kernel
theorem dX10_pair_92 : decode cX10_pair 92 = .ok (.iinc 3 1, 3) := by decide +kernel
theorem dX10_pair_95 : decode cX10_pair 95 = .ok (.goto (-24), 3) := by decide +kernel
theorem dX10_pair_98 : decode cX10_pair 98 = .ok (.aload_n 0, 1) := by decide +kernel
theorem dX10_pair_99 : decode cX10_pair 99 = .ok (.dup, 1) := by decide +kernel
theorem dX10_pair_100 : decode cX10_pair 100 = .ok (.getfield 75, 3) := by decide +kernel
theorem dX10_pair_103 : decode cX10_pair 103 = .ok (.iconst 1, 1) := by decide +kernel
theorem dX10_pair_104 : decode cX10_pair 104 = .ok (.iadd, 1) := by decide +kernel
theorem dX10_pair_105 : decode cX10_pair 105 = .ok (.putfield 75, 3) := by decide +kernel
theorem dX10_pair_108 : decode cX10_pair 108 = .ok (.aload_n 0, 1) := by decide +kernel
theorem dX10_pair_109 : decode cX10_pair 109 = .ok (.getfield 75, 3) := by decide +kernel
theorem dX10_pair_112 : decode cX10_pair 112 = .ok (.iconst 1, 1) := by decide +kernel
theorem dX10_pair_113 : decode cX10_pair 113 = .ok (.isub, 1) := by decide +kernel
theorem dX10_pair_114 : decode cX10_pair 114 = .ok (.ireturn, 1) := by decide +kernel
theorem dX10_entry_0 : decode cX10_entry 0 = .ok (.aload_n 0, 1) := by decide +kernel
theorem dX10_entry_1 : decode cX10_entry 1 = .ok (.iload_n 1, 1) := by decide +kernel
theorem dX10_entry_2 : decode cX10_entry 2 = .ok (.invokevirtual 104, 3) := by decide +kernel
theorem dX10_entry_5 : decode cX10_entry 5 = .ok (.ifCond .eq 40, 3) := by decide +kernel
theorem dX10_entry_8 : decode cX10_entry 8 = .ok (.iload_n 2, 1) := by decide +kernel
theorem dX10_entry_9 : decode cX10_entry 9 = .ok (.i2l, 1) := by decide +kernel
theorem dX10_entry_10 : decode cX10_entry 10 = .ok (.lconst 0, 1) := by decide +kernel
theorem dX10_entry_11 : decode cX10_entry 11 = .ok (.lconst 1, 1) := by decide +kernel
theorem dX10_entry_12 : decode cX10_entry 12 = .ok (.invokestatic 78, 3) := by decide +kernel
theorem dX10_entry_15 : decode cX10_entry 15 = .ok (.ifCond .eq 30, 3) := by decide +kernel
theorem dX10_entry_18 : decode cX10_entry 18 = .ok (.iload_n 3, 1) := by decide +kernel
theorem dX10_entry_19 : decode cX10_entry 19 = .ok (.i2l, 1) := by decide +kernel
theorem dX10_entry_20 : decode cX10_entry 20 = .ok (.lconst 0, 1) := by decide +kernel
theorem dX10_entry_21 : decode cX10_entry 21 = .ok (.ldc2_w 100, 3) := by decide +kernel
theorem dX10_entry_24 : decode cX10_entry 24 = .ok (.invokestatic 78, 3) := by decide +kernel
theorem dX10_entry_27 : decode cX10_entry 27 = .ok (.ifCond .eq 18, 3) := by decide +kernel
theorem dX10_entry_30 : decode cX10_entry 30 = .ok (.iload 4, 2) := by decide +kernel
theorem dX10_entry_32 : decode cX10_entry 32 = .ok (.i2l, 1) := by decide +kernel
theorem dX10_entry_33 : decode cX10_entry 33 = .ok (.ldc2_w 107, 3) := by decide +kernel
theorem dX10_entry_36 : decode cX10_entry 36 = .ok (.ldc2_w 109, 3) := by decide +kernel
theorem dX10_entry_39 : decode cX10_entry 39 = .ok (.invokestatic 78, 3) := by decide +kernel
theorem dX10_entry_42 : decode cX10_entry 42 = .ok (.ifCond .ne 6, 3) := by decide +kernel
theorem dX10_entry_45 : decode cX10_entry 45 = .ok (.bipush (-2), 2) := by decide +kernel
theorem dX10_entry_47 : decode cX10_entry 47 = .ok (.ireturn, 1) := by decide +kernel
theorem dX10_entry_48 : decode cX10_entry 48 = .ok (.bipush 12, 2) := by decide +kernel
theorem dX10_entry_50 : decode cX10_entry 50 = .ok (.iload_n 1, 1) := by decide +kernel
theorem dX10_entry_51 : decode cX10_entry 51 = .ok (.imul, 1) := by decide +kernel
theorem dX10_entry_52 : decode cX10_entry 52 = .ok (.bipush 6, 2) := by decide +kernel
theorem dX10_entry_54 : decode cX10_entry 54 = .ok (.iload_n 2, 1) := by decide +kernel
theorem dX10_entry_55 : decode cX10_entry 55 = .ok (.imul, 1) := by decide +kernel
theorem dX10_entry_56 : decode cX10_entry 56 = .ok (.iadd, 1) := by decide +kernel
theorem dX10_entry_57 : decode cX10_entry 57 = .ok (.iload_n 3, 1) := by decide +kernel
theorem dX10_entry_58 : decode cX10_entry 58 = .ok (.iadd, 1) := by decide +kernel
theorem dX10_entry_59 : decode cX10_entry 59 = .ok (.istore 5, 2) := by decide +kernel
theorem dX10_entry_61 : decode cX10_entry 61 = .ok (.aload_n 0, 1) := by decide +kernel
theorem dX10_entry_62 : decode cX10_entry 62 = .ok (.getfield 27, 3) := by decide +kernel
theorem dX10_entry_65 : decode cX10_entry 65 = .ok (.iload 5, 2) := by decide +kernel
theorem dX10_entry_67 : decode cX10_entry 67 = .ok (.iaload, 1) := by decide +kernel
theorem dX10_entry_68 : decode cX10_entry 68 = .ok (.istore 6, 2) := by decide +kernel
theorem dX10_entry_70 : decode cX10_entry 70 = .ok (.aload_n 0, 1) := by decide +kernel
theorem dX10_entry_71 : decode cX10_entry 71 = .ok (.getfield 27, 3) := by decide +kernel
theorem dX10_entry_74 : decode cX10_entry 74 = .ok (.iload 5, 2) := by decide +kernel
theorem dX10_entry_76 : decode cX10_entry 76 = .ok (.iload 4, 2) := by decide +kernel
theorem dX10_entry_78 : decode cX10_entry 78 = .ok (.iastore, 1) := by decide +kernel
theorem dX10_entry_79 : decode cX10_entry 79 = .ok (.iload 6, 2) := by decide +kernel
theorem dX10_entry_81 : decode cX10_entry 81 = .ok (.ireturn, 1) := by decide +kernel
theorem dX10_set_0 : decode cX10_set 0 = .ok (.aload_n 0, 1) := by decide +kernel
theorem dX10_set_1 : decode cX10_set 1 = .ok (.iload_n 1, 1) := by decide +kernel
theorem dX10_set_2 : decode cX10_set 2 = .ok (.invokevirtual 104, 3) := by decide +kernel
theorem dX10_set_5 : decode cX10_set 5 = .ok (.ifCond .eq 35, 3) := by decide +kernel
theorem dX10_set_8 : decode cX10_set 8 = .ok (.iload_n 2, 1) := by decide +kernel
theorem dX10_set_9 : decode cX10_set 9 = .ok (.i2l, 1) := by decide +kernel
theorem dX10_set_10 : decode cX10_set 10 = .ok (.lconst 0, 1) := by decide +kernel
theorem dX10_set_11 : decode cX10_set 11 = .ok (.lconst 1, 1) := by decide +kernel
theorem dX10_set_12 : decode cX10_set 12 = .ok (.invokestatic 78, 3) := by decide +kernel
theorem dX10_set_15 : decode cX10_set 15 = .ok (.ifCond .eq 25, 3) := by decide +kernel
theorem dX10_set_18 : decode cX10_set 18 = .ok (.iload_n 3, 1) := by decide +kernel
theorem dX10_set_19 : decode cX10_set 19 = .ok (.i2l, 1) := by decide +kernel
theorem dX10_set_20 : decode cX10_set 20 = .ok (.lconst 0, 1) := by decide +kernel
theorem dX10_set_21 : decode cX10_set 21 = .ok (.iload_n 2, 1) := by decide +kernel
theorem dX10_set_22 : decode cX10_set 22 = .ok (.ifCond .ne 9, 3) := by decide +kernel
theorem dX10_set_25 : decode cX10_set 25 = .ok (.ldc2_w 100, 3) := by decide +kernel
theorem dX10_set_28 : decode cX10_set 28 = .ok (.goto 6, 3) := by decide +kernel
theorem dX10_set_31 : decode cX10_set 31 = .ok (.ldc2_w 102, 3) := by decide +kernel
theorem dX10_set_34 : decode cX10_set 34 = .ok (.invokestatic 78, 3) := by decide +kernel
theorem dX10_set_37 : decode cX10_set 37 = .ok (.ifCond .ne 6, 3) := by decide +kernel
theorem dX10_set_40 : decode cX10_set 40 = .ok (.bipush (-2), 2) := by decide +kernel
theorem dX10_set_42 : decode cX10_set 42 = .ok (.ireturn, 1) := by decide +kernel
theorem dX10_set_43 : decode cX10_set 43 = .ok (.iload_n 2, 1) := by decide +kernel
theorem dX10_set_44 : decode cX10_set 44 = .ok (.ifCond .ne 12, 3) := by decide +kernel
theorem dX10_set_47 : decode cX10_set 47 = .ok (.aload_n 0, 1) := by decide +kernel
theorem dX10_set_48 : decode cX10_set 48 = .ok (.getfield 16, 3) := by decide +kernel
theorem dX10_set_51 : decode cX10_set 51 = .ok (.iload_n 1, 1) := by decide +kernel
theorem dX10_set_52 : decode cX10_set 52 = .ok (.iaload, 1) := by decide +kernel
theorem dX10_set_53 : decode cX10_set 53 = .ok (.goto 9, 3) := by decide +kernel
theorem dX10_set_56 : decode cX10_set 56 = .ok (.aload_n 0, 1) := by decide +kernel
theorem dX10_set_57 : decode cX10_set 57 = .ok (.getfield 20, 3) := by decide +kernel
theorem dX10_set_60 : decode cX10_set 60 = .ok (.iload_n 1, 1) := by decide +kernel
theorem dX10_set_61 : decode cX10_set 61 = .ok (.iaload, 1) := by decide +kernel
theorem dX10_set_62 : decode cX10_set 62 = .ok (.istore 4, 2) := by decide +kernel
theorem dX10_set_64 : decode cX10_set 64 = .ok (.iload_n 2, 1) := by decide +kernel
theorem dX10_set_65 : decode cX10_set 65 = .ok (.ifCond .ne 13, 3) := by decide +kernel
theorem dX10_set_68 : decode cX10_set 68 = .ok (.aload_n 0, 1) := by decide +kernel
theorem dX10_set_69 : decode cX10_set 69 = .ok (.getfield 16, 3) := by decide +kernel
theorem dX10_set_72 : decode cX10_set 72 = .ok (.iload_n 1, 1) := by decide +kernel
theorem dX10_set_73 : decode cX10_set 73 = .ok (.iload_n 3, 1) := by decide +kernel
theorem dX10_set_74 : decode cX10_set 74 = .ok (.iastore, 1) := by decide +kernel
theorem dX10_set_75 : decode cX10_set 75 = .ok (.goto 10, 3) := by decide +kernel
theorem dX10_set_78 : decode cX10_set 78 = .ok (.aload_n 0, 1) := by decide +kernel
theorem dX10_set_79 : decode cX10_set 79 = .ok (.getfield 20, 3) := by decide +kernel
theorem dX10_set_82 : decode cX10_set 82 = .ok (.iload_n 1, 1) := by decide +kernel
theorem dX10_set_83 : decode cX10_set 83 = .ok (.iload_n 3, 1) := by decide +kernel
theorem dX10_set_84 : decode cX10_set 84 = .ok (.iastore, 1) := by decide +kernel
theorem dX10_set_85 : decode cX10_set 85 = .ok (.iload 4, 2) := by decide +kernel
theorem dX10_set_87 : decode cX10_set 87 = .ok (.ireturn, 1) := by decide +kernel
theorem dX10_ahead_0 : decode cX10_ahead 0 = .ok (.iconst 0, 1) := by decide +kernel
theorem dX10_ahead_1 : decode cX10_ahead 1 = .ok (.istore_n 2, 1) := by decide +kernel
theorem dX10_ahead_2 : decode cX10_ahead 2 = .ok (.iconst 0, 1) := by decide +kernel
theorem dX10_ahead_3 : decode cX10_ahead 3 = .ok (.istore_n 3, 1) := by decide +kernel
theorem dX10_ahead_4 : decode cX10_ahead 4 = .ok (.iload_n 3, 1) := by decide +kernel
theorem dX10_ahead_5 : decode cX10_ahead 5 = .ok (.aload_n 0, 1) := by decide +kernel
theorem dX10_ahead_6 : decode cX10_ahead 6 = .ok (.getfield 75, 3) := by decide +kernel
theorem dX10_ahead_9 : decode cX10_ahead 9 = .ok (.if_icmp .ge 94, 3) := by decide +kernel
theorem dX10_ahead_12 : decode cX10_ahead 12 = .ok (.aload_n 0, 1) := by decide +kernel
theorem dX10_ahead_13 : decode cX10_ahead 13 = .ok (.getfield 20, 3) := by decide +kernel
theorem dX10_ahead_16 : decode cX10_ahead 16 = .ok (.iload_n 3, 1) := by decide +kernel
theorem dX10_ahead_17 : decode cX10_ahead 17 = .ok (.iaload, 1) := by decide +kernel
theorem dX10_ahead_18 : decode cX10_ahead 18 = .ok (.aload_n 0, 1) := by decide +kernel
theorem dX10_ahead_19 : decode cX10_ahead 19 = .ok (.getfield 20, 3) := by decide +kernel
theorem dX10_ahead_22 : decode cX10_ahead 22 = .ok (.iload_n 1, 1) := by decide +kernel
theorem dX10_ahead_23 : decode cX10_ahead 23 = .ok (.iaload, 1) := by decide +kernel
theorem dX10_ahead_24 : decode cX10_ahead 24 = .ok (.if_icmp .gt 53, 3) := by decide +kernel
theorem dX10_ahead_27 : decode cX10_ahead 27 = .ok (.aload_n 0, 1) := by decide +kernel
theorem dX10_ahead_28 : decode cX10_ahead 28 = .ok (.getfield 20, 3) := by decide +kernel
theorem dX10_ahead_31 : decode cX10_ahead 31 = .ok (.iload_n 3, 1) := by decide +kernel
theorem dX10_ahead_32 : decode cX10_ahead 32 = .ok (.iaload, 1) := by decide +kernel
theorem dX10_ahead_33 : decode cX10_ahead 33 = .ok (.aload_n 0, 1) := by decide +kernel
theorem dX10_ahead_34 : decode cX10_ahead 34 = .ok (.getfield 20, 3) := by decide +kernel
theorem dX10_ahead_37 : decode cX10_ahead 37 = .ok (.iload_n 1, 1) := by decide +kernel
theorem dX10_ahead_38 : decode cX10_ahead 38 = .ok (.iaload, 1) := by decide +kernel
theorem dX10_ahead_39 : decode cX10_ahead 39 = .ok (.if_icmp .ne 42, 3) := by decide +kernel
theorem dX10_ahead_42 : decode cX10_ahead 42 = .ok (.aload_n 0, 1) := by decide +kernel
theorem dX10_ahead_43 : decode cX10_ahead 43 = .ok (.getfield 16, 3) := by decide +kernel
theorem dX10_ahead_46 : decode cX10_ahead 46 = .ok (.iload_n 3, 1) := by decide +kernel
theorem dX10_ahead_47 : decode cX10_ahead 47 = .ok (.iaload, 1) := by decide +kernel
theorem dX10_ahead_48 : decode cX10_ahead 48 = .ok (.aload_n 0, 1) := by decide +kernel
theorem dX10_ahead_49 : decode cX10_ahead 49 = .ok (.getfield 16, 3) := by decide +kernel
theorem dX10_ahead_52 : decode cX10_ahead 52 = .ok (.iload_n 1, 1) := by decide +kernel
theorem dX10_ahead_53 : decode cX10_ahead 53 = .ok (.iaload, 1) := by decide +kernel
theorem dX10_ahead_54 : decode cX10_ahead 54 = .ok (.if_icmp .lt 23, 3) := by decide +kernel
theorem dX10_ahead_57 : decode cX10_ahead 57 = .ok (.aload_n 0, 1) := by decide +kernel
theorem dX10_ahead_58 : decode cX10_ahead 58 = .ok (.getfield 16, 3) := by decide +kernel
theorem dX10_ahead_61 : decode cX10_ahead 61 = .ok (.iload_n 3, 1) := by decide +kernel
theorem dX10_ahead_62 : decode cX10_ahead 62 = .ok (.iaload, 1) := by decide +kernel
theorem dX10_ahead_63 : decode cX10_ahead 63 = .ok (.aload_n 0, 1) := by decide +kernel
theorem dX10_ahead_64 : decode cX10_ahead 64 = .ok (.getfield 16, 3) := by decide +kernel
theorem dX10_ahead_67 : decode cX10_ahead 67 = .ok (.iload_n 1, 1) := by decide +kernel
theorem dX10_ahead_68 : decode cX10_ahead 68 = .ok (.iaload, 1) := by decide +kernel
theorem dX10_ahead_69 : decode cX10_ahead 69 = .ok (.if_icmp .ne 12, 3) := by decide +kernel
theorem dX10_ahead_72 : decode cX10_ahead 72 = .ok (.iload_n 3, 1) := by decide +kernel
theorem dX10_ahead_73 : decode cX10_ahead 73 = .ok (.iload_n 1, 1) := by decide +kernel
theorem dX10_ahead_74 : decode cX10_ahead 74 = .ok (.if_icmp .ge 7, 3) := by decide +kernel
theorem dX10_ahead_77 : decode cX10_ahead 77 = .ok (.iconst 1, 1) := by decide +kernel
theorem dX10_ahead_78 : decode cX10_ahead 78 = .ok (.goto 4, 3) := by decide +kernel
theorem dX10_ahead_81 : decode cX10_ahead 81 = .ok (.iconst 0, 1) := by decide +kernel
theorem dX10_ahead_82 : decode cX10_ahead 82 = .ok (.istore 4, 2) := by decide +kernel
theorem dX10_ahead_84 : decode cX10_ahead 84 = .ok (.iload_n 2, 1) := by decide +kernel
theorem dX10_ahead_85 : decode cX10_ahead 85 = .ok (.iload 4, 2) := by decide +kernel
theorem dX10_ahead_87 : decode cX10_ahead 87 = .ok (.ifCond .eq 7, 3) := by decide +kernel
theorem dX10_ahead_90 : decode cX10_ahead 90 = .ok (.iconst 1, 1) := by decide +kernel
theorem dX10_ahead_91 : decode cX10_ahead 91 = .ok (.goto 4, 3) := by decide +kernel
theorem dX10_ahead_94 : decode cX10_ahead 94 = .ok (.iconst 0, 1) := by decide +kernel
theorem dX10_ahead_95 : decode cX10_ahead 95 = .ok (.iadd, 1) := by decide +kernel
theorem dX10_ahead_96 : decode cX10_ahead 96 = .ok (.istore_n 2, 1) := by decide +kernel
theorem dX10_ahead_97 : decode cX10_ahead 97 = .ok (.iinc 3 1, 3) := by decide +kernel
theorem dX10_ahead_100 : decode cX10_ahead 100 = .ok (.goto (-96), 3) := by decide +kernel
theorem dX10_ahead_103 : decode cX10_ahead 103 = .ok (.iload_n 2, 1) := by decide +kernel
theorem dX10_ahead_104 : decode cX10_ahead 104 = .ok (.ireturn, 1) := by decide +kernel
theorem dX10_namePlace_0 : decode cX10_namePlace 0 = .ok (.iconst 0, 1) := by decide +kernel
theorem dX10_namePlace_1 : decode cX10_namePlace 1 = .ok (.istore_n 2, 1) := by decide +kernel
theorem dX10_namePlace_2 : decode cX10_namePlace 2 = .ok (.iconst 0, 1) := by decide +kernel
theorem dX10_namePlace_3 : decode cX10_namePlace 3 = .ok (.istore_n 3, 1) := by decide +kernel
theorem dX10_namePlace_4 : decode cX10_namePlace 4 = .ok (.iload_n 3, 1) := by decide +kernel
theorem dX10_namePlace_5 : decode cX10_namePlace 5 = .ok (.aload_n 0, 1) := by decide +kernel
theorem dX10_namePlace_6 : decode cX10_namePlace 6 = .ok (.getfield 75, 3) := by decide +kernel
theorem dX10_namePlace_9 : decode cX10_namePlace 9 = .ok (.if_icmp .ge 44, 3) := by decide +kernel
theorem dX10_namePlace_12 : decode cX10_namePlace 12 = .ok (.iload_n 2, 1) := by decide +kernel
theorem dX10_namePlace_13 : decode cX10_namePlace 13 = .ok (.aload_n 0, 1) := by decide +kernel
theorem dX10_namePlace_14 : decode cX10_namePlace 14 = .ok (.getfield 23, 3) := by decide +kernel
theorem dX10_namePlace_17 : decode cX10_namePlace 17 = .ok (.iload_n 3, 1) := by decide +kernel
theorem dX10_namePlace_18 : decode cX10_namePlace 18 = .ok (.laload, 1) := by decide +kernel
theorem dX10_namePlace_19 : decode cX10_namePlace 19 = .ok (.lconst 0, 1) := by decide +kernel
theorem dX10_namePlace_20 : decode cX10_namePlace 20 = .ok (.lcmp, 1) := by decide +kernel
theorem dX10_namePlace_21 : decode cX10_namePlace 21 = .ok (.ifCond .eq 23, 3) := by decide +kernel
theorem dX10_namePlace_24 : decode cX10_namePlace 24 = .ok (.aload_n 0, 1) := by decide +kernel
theorem dX10_namePlace_25 : decode cX10_namePlace 25 = .ok (.getfield 23, 3) := by decide +kernel
theorem dX10_namePlace_28 : decode cX10_namePlace 28 = .ok (.iload_n 3, 1) := by decide +kernel
theorem dX10_namePlace_29 : decode cX10_namePlace 29 = .ok (.laload, 1) := by decide +kernel
theorem dX10_namePlace_30 : decode cX10_namePlace 30 = .ok (.aload_n 0, 1) := by decide +kernel
theorem dX10_namePlace_31 : decode cX10_namePlace 31 = .ok (.getfield 23, 3) := by decide +kernel
theorem dX10_namePlace_34 : decode cX10_namePlace 34 = .ok (.iload_n 1, 1) := by decide +kernel
theorem dX10_namePlace_35 : decode cX10_namePlace 35 = .ok (.laload, 1) := by decide +kernel
theorem dX10_namePlace_36 : decode cX10_namePlace 36 = .ok (.lcmp, 1) := by decide +kernel
theorem dX10_namePlace_37 : decode cX10_namePlace 37 = .ok (.ifCond .ge 7, 3) := by decide +kernel
theorem dX10_namePlace_40 : decode cX10_namePlace 40 = .ok (.iconst 1, 1) := by decide +kernel
theorem dX10_namePlace_41 : decode cX10_namePlace 41 = .ok (.goto 4, 3) := by decide +kernel
theorem dX10_namePlace_44 : decode cX10_namePlace 44 = .ok (.iconst 0, 1) := by decide +kernel
theorem dX10_namePlace_45 : decode cX10_namePlace 45 = .ok (.iadd, 1) := by decide +kernel
theorem dX10_namePlace_46 : decode cX10_namePlace 46 = .ok (.istore_n 2, 1) := by decide +kernel
theorem dX10_namePlace_47 : decode cX10_namePlace 47 = .ok (.iinc 3 1, 3) := by decide +kernel
theorem dX10_namePlace_50 : decode cX10_namePlace 50 = .ok (.goto (-46), 3) := by decide +kernel
theorem dX10_namePlace_53 : decode cX10_namePlace 53 = .ok (.aload_n 0, 1) := by decide +kernel
theorem dX10_namePlace_54 : decode cX10_namePlace 54 = .ok (.getfield 23, 3) := by decide +kernel
theorem dX10_namePlace_57 : decode cX10_namePlace 57 = .ok (.iload_n 1, 1) := by decide +kernel
theorem dX10_namePlace_58 : decode cX10_namePlace 58 = .ok (.laload, 1) := by decide +kernel
theorem dX10_namePlace_59 : decode cX10_namePlace 59 = .ok (.lconst 0, 1) := by decide +kernel
theorem dX10_namePlace_60 : decode cX10_namePlace 60 = .ok (.lcmp, 1) := by decide +kernel
theorem dX10_namePlace_61 : decode cX10_namePlace 61 = .ok (.ifCond .ne 7, 3) := by decide +kernel
theorem dX10_namePlace_64 : decode cX10_namePlace 64 = .ok (.iconst (-1), 1) := by decide +kernel
theorem dX10_namePlace_65 : decode cX10_namePlace 65 = .ok (.goto 4, 3) := by decide +kernel
theorem dX10_namePlace_68 : decode cX10_namePlace 68 = .ok (.iload_n 2, 1) := by decide +kernel
theorem dX10_namePlace_69 : decode cX10_namePlace 69 = .ok (.ireturn, 1) := by decide +kernel
theorem dX10_told_0 : decode cX10_told 0 = .ok (.aload_n 0, 1) := by decide +kernel
theorem dX10_told_1 : decode cX10_told 1 = .ok (.iload_n 1, 1) := by decide +kernel
theorem dX10_told_2 : decode cX10_told 2 = .ok (.invokevirtual 104, 3) := by decide +kernel
theorem dX10_told_5 : decode cX10_told 5 = .ok (.ifCond .ne 6, 3) := by decide +kernel
theorem dX10_told_8 : decode cX10_told 8 = .ok (.bipush (-2), 2) := by decide +kernel
theorem dX10_told_10 : decode cX10_told 10 = .ok (.ireturn, 1) := by decide +kernel
theorem dX10_told_11 : decode cX10_told 11 = .ok (.iload_n 2, 1) := by decide +kernel
theorem dX10_told_12 : decode cX10_told 12 = .ok (.tableswitch 71 0 4 #[36, 43, 50, 56, 62], 36) := by decide +kernel
theorem dX10_told_48 : decode cX10_told 48 = .ok (.aload_n 0, 1) := by decide +kernel
theorem dX10_told_49 : decode cX10_told 49 = .ok (.getfield 16, 3) := by decide +kernel
theorem dX10_told_52 : decode cX10_told 52 = .ok (.iload_n 1, 1) := by decide +kernel
theorem dX10_told_53 : decode cX10_told 53 = .ok (.iaload, 1) := by decide +kernel
theorem dX10_told_54 : decode cX10_told 54 = .ok (.ireturn, 1) := by decide +kernel
theorem dX10_told_55 : decode cX10_told 55 = .ok (.aload_n 0, 1) := by decide +kernel
theorem dX10_told_56 : decode cX10_told 56 = .ok (.getfield 20, 3) := by decide +kernel
theorem dX10_told_59 : decode cX10_told 59 = .ok (.iload_n 1, 1) := by decide +kernel
theorem dX10_told_60 : decode cX10_told 60 = .ok (.iaload, 1) := by decide +kernel
theorem dX10_told_61 : decode cX10_told 61 = .ok (.ireturn, 1) := by decide +kernel
theorem dX10_told_62 : decode cX10_told 62 = .ok (.aload_n 0, 1) := by decide +kernel
theorem dX10_told_63 : decode cX10_told 63 = .ok (.iload_n 1, 1) := by decide +kernel
theorem dX10_told_64 : decode cX10_told 64 = .ok (.invokevirtual 111, 3) := by decide +kernel
theorem dX10_told_67 : decode cX10_told 67 = .ok (.ireturn, 1) := by decide +kernel
theorem dX10_told_68 : decode cX10_told 68 = .ok (.aload_n 0, 1) := by decide +kernel
theorem dX10_told_69 : decode cX10_told 69 = .ok (.iload_n 1, 1) := by decide +kernel
theorem dX10_told_70 : decode cX10_told 70 = .ok (.invokevirtual 115, 3) := by decide +kernel
theorem dX10_told_73 : decode cX10_told 73 = .ok (.ireturn, 1) := by decide +kernel
theorem dX10_told_74 : decode cX10_told 74 = .ok (.aload_n 0, 1) := by decide +kernel
theorem dX10_told_75 : decode cX10_told 75 = .ok (.iconst 1, 1) := by decide +kernel
theorem dX10_told_76 : decode cX10_told 76 = .ok (.iload_n 1, 1) := by decide +kernel
theorem dX10_told_77 : decode cX10_told 77 = .ok (.ishl, 1) := by decide +kernel
theorem dX10_told_78 : decode cX10_told 78 = .ok (.iconst 0, 1) := by decide +kernel
theorem dX10_told_79 : decode cX10_told 79 = .ok (.invokevirtual 118, 3) := by decide +kernel
theorem dX10_told_82 : decode cX10_told 82 = .ok (.ireturn, 1) := by decide +kernel
theorem dX10_told_83 : decode cX10_told 83 = .ok (.bipush (-2), 2) := by decide +kernel
theorem dX10_told_85 : decode cX10_told 85 = .ok (.ireturn, 1) := by decide +kernel
theorem dX10_numberOf_0 : decode cX10_numberOf 0 = .ok (.aload_n 0, 1) := by decide +kernel
theorem dX10_numberOf_1 : decode cX10_numberOf 1 = .ok (.getfield 27, 3) := by decide +kernel
theorem dX10_numberOf_4 : decode cX10_numberOf 4 = .ok (.bipush 12, 2) := by decide +kernel
theorem dX10_numberOf_6 : decode cX10_numberOf 6 = .ok (.iload_n 1, 1) := by decide +kernel
theorem dX10_numberOf_7 : decode cX10_numberOf 7 = .ok (.imul, 1) := by decide +kernel
theorem dX10_numberOf_8 : decode cX10_numberOf 8 = .ok (.iload_n 3, 1) := by decide +kernel
theorem dX10_numberOf_9 : decode cX10_numberOf 9 = .ok (.iadd, 1) := by decide +kernel
theorem dX10_numberOf_10 : decode cX10_numberOf 10 = .ok (.iaload, 1) := by decide +kernel
theorem dX10_numberOf_11 : decode cX10_numberOf 11 = .ok (.istore 4, 2) := by decide +kernel
theorem dX10_numberOf_13 : decode cX10_numberOf 13 = .ok (.aload_n 0, 1) := by decide +kernel
theorem dX10_numberOf_14 : decode cX10_numberOf 14 = .ok (.getfield 27, 3) := by decide +kernel
theorem dX10_numberOf_17 : decode cX10_numberOf 17 = .ok (.bipush 12, 2) := by decide +kernel
theorem dX10_numberOf_19 : decode cX10_numberOf 19 = .ok (.iload_n 1, 1) := by decide +kernel
theorem dX10_numberOf_20 : decode cX10_numberOf 20 = .ok (.imul, 1) := by decide +kernel
theorem dX10_numberOf_21 : decode cX10_numberOf 21 = .ok (.bipush 6, 2) := by decide +kernel
theorem dX10_numberOf_23 : decode cX10_numberOf 23 = .ok (.iadd, 1) := by decide +kernel
theorem dX10_numberOf_24 : decode cX10_numberOf 24 = .ok (.iload_n 3, 1) := by decide +kernel
theorem dX10_numberOf_25 : decode cX10_numberOf 25 = .ok (.iadd, 1) := by decide +kernel
theorem dX10_numberOf_26 : decode cX10_numberOf 26 = .ok (.iaload, 1) := by decide +kernel
theorem dX10_numberOf_27 : decode cX10_numberOf 27 = .ok (.istore 5, 2) := by decide +kernel
theorem dX10_numberOf_29 : decode cX10_numberOf 29 = .ok (.aload_n 0, 1) := by decide +kernel
theorem dX10_numberOf_30 : decode cX10_numberOf 30 = .ok (.getfield 16, 3) := by decide +kernel
theorem dX10_numberOf_33 : decode cX10_numberOf 33 = .ok (.iload_n 1, 1) := by decide +kernel
theorem dX10_numberOf_34 : decode cX10_numberOf 34 = .ok (.iaload, 1) := by decide +kernel
theorem dX10_numberOf_35 : decode cX10_numberOf 35 = .ok (.tableswitch 131 1 5 #[33, 54, 72, 96, 123], 33) := by decide +kernel
theorem dX10_numberOf_68 : decode cX10_numberOf 68 = .ok (.aload_n 0, 1) := by decide +kernel
theorem dX10_numberOf_69 : decode cX10_numberOf 69 = .ok (.iload_n 2, 1) := by decide +kernel
theorem dX10_numberOf_70 : decode cX10_numberOf 70 = .ok (.ifCond .ne 9, 3) := by decide +kernel
theorem dX10_numberOf_73 : decode cX10_numberOf 73 = .ok (.iload 4, 2) := by decide +kernel
theorem dX10_numberOf_75 : decode cX10_numberOf 75 = .ok (.i2l, 1) := by decide +kernel
theorem dX10_numberOf_76 : decode cX10_numberOf 76 = .ok (.goto 9, 3) := by decide +kernel
theorem dX10_numberOf_79 : decode cX10_numberOf 79 = .ok (.iload 4, 2) := by decide +kernel
theorem dX10_numberOf_81 : decode cX10_numberOf 81 = .ok (.iload 5, 2) := by decide +kernel
theorem dX10_numberOf_83 : decode cX10_numberOf 83 = .ok (.iadd, 1) := by decide +kernel
theorem dX10_numberOf_84 : decode cX10_numberOf 84 = .ok (.i2l, 1) := by decide +kernel
theorem dX10_numberOf_85 : decode cX10_numberOf 85 = .ok (.invokevirtual 82, 3) := by decide +kernel
theorem dX10_numberOf_88 : decode cX10_numberOf 88 = .ok (.ireturn, 1) := by decide +kernel
theorem dX10_numberOf_89 : decode cX10_numberOf 89 = .ok (.aload_n 0, 1) := by decide +kernel
theorem dX10_numberOf_90 : decode cX10_numberOf 90 = .ok (.iload_n 2, 1) := by decide +kernel
theorem dX10_numberOf_91 : decode cX10_numberOf 91 = .ok (.ifCond .ne 9, 3) := by decide +kernel
theorem dX10_numberOf_94 : decode cX10_numberOf 94 = .ok (.iload 5, 2) := by decide +kernel
theorem dX10_numberOf_96 : decode cX10_numberOf 96 = .ok (.i2l, 1) := by decide +kernel
theorem dX10_numberOf_97 : decode cX10_numberOf 97 = .ok (.goto 6, 3) := by decide +kernel
theorem dX10_numberOf_100 : decode cX10_numberOf 100 = .ok (.iload 4, 2) := by decide +kernel
theorem dX10_numberOf_102 : decode cX10_numberOf 102 = .ok (.i2l, 1) := by decide +kernel
theorem dX10_numberOf_103 : decode cX10_numberOf 103 = .ok (.invokevirtual 82, 3) := by decide +kernel
theorem dX10_numberOf_106 : decode cX10_numberOf 106 = .ok (.ireturn, 1) := by decide +kernel
theorem dX10_numberOf_107 : decode cX10_numberOf 107 = .ok (.aload_n 0, 1) := by decide +kernel
theorem dX10_numberOf_108 : decode cX10_numberOf 108 = .ok (.iload_n 2, 1) := by decide +kernel
theorem dX10_numberOf_109 : decode cX10_numberOf 109 = .ok (.ifCond .ne 9, 3) := by decide +kernel
theorem dX10_numberOf_112 : decode cX10_numberOf 112 = .ok (.iload 4, 2) := by decide +kernel
theorem dX10_numberOf_114 : decode cX10_numberOf 114 = .ok (.i2l, 1) := by decide +kernel
theorem dX10_numberOf_115 : decode cX10_numberOf 115 = .ok (.goto 12, 3) := by decide +kernel
theorem dX10_numberOf_118 : decode cX10_numberOf 118 = .ok (.iload 4, 2) := by decide +kernel
theorem dX10_numberOf_120 : decode cX10_numberOf 120 = .ok (.iload 5, 2) := by decide +kernel
theorem dX10_numberOf_122 : decode cX10_numberOf 122 = .ok (.iadd, 1) := by decide +kernel
theorem dX10_numberOf_123 : decode cX10_numberOf 123 = .ok (.iload 4, 2) := by decide +kernel
theorem dX10_numberOf_125 : decode cX10_numberOf 125 = .ok (.iadd, 1) := by decide +kernel
theorem dX10_numberOf_126 : decode cX10_numberOf 126 = .ok (.i2l, 1) := by decide +kernel
theorem dX10_numberOf_127 : decode cX10_numberOf 127 = .ok (.invokevirtual 82, 3) := by decide +kernel
theorem dX10_numberOf_130 : decode cX10_numberOf 130 = .ok (.ireturn, 1) := by decide +kernel
theorem dX10_numberOf_131 : decode cX10_numberOf 131 = .ok (.aload_n 0, 1) := by decide +kernel
theorem dX10_numberOf_132 : decode cX10_numberOf 132 = .ok (.iload_n 2, 1) := by decide +kernel
theorem dX10_numberOf_133 : decode cX10_numberOf 133 = .ok (.iconst 1, 1) := by decide +kernel
theorem dX10_numberOf_134 : decode cX10_numberOf 134 = .ok (.if_icmp .ne 9, 3) := by decide +kernel
theorem dX10_numberOf_137 : decode cX10_numberOf 137 = .ok (.iload 4, 2) := by decide +kernel
theorem dX10_numberOf_139 : decode cX10_numberOf 139 = .ok (.i2l, 1) := by decide +kernel
theorem dX10_numberOf_140 : decode cX10_numberOf 140 = .ok (.goto 14, 3) := by decide +kernel
theorem dX10_numberOf_143 : decode cX10_numberOf 143 = .ok (.iload_n 3, 1) := by decide +kernel
theorem dX10_numberOf_144 : decode cX10_numberOf 144 = .ok (.ifCond .ne 7, 3) := by decide +kernel
theorem dX10_numberOf_147 : decode cX10_numberOf 147 = .ok (.lconst 0, 1) := by decide +kernel
theorem dX10_numberOf_148 : decode cX10_numberOf 148 = .ok (.goto 6, 3) := by decide +kernel
theorem dX10_numberOf_151 : decode cX10_numberOf 151 = .ok (.iload 5, 2) := by decide +kernel
theorem dX10_numberOf_153 : decode cX10_numberOf 153 = .ok (.i2l, 1) := by decide +kernel
theorem dX10_numberOf_154 : decode cX10_numberOf 154 = .ok (.invokevirtual 82, 3) := by decide +kernel
theorem dX10_numberOf_157 : decode cX10_numberOf 157 = .ok (.ireturn, 1) := by decide +kernel
theorem dX10_numberOf_158 : decode cX10_numberOf 158 = .ok (.aload_n 0, 1) := by decide +kernel
theorem dX10_numberOf_159 : decode cX10_numberOf 159 = .ok (.iload 4, 2) := by decide +kernel
theorem dX10_numberOf_161 : decode cX10_numberOf 161 = .ok (.i2l, 1) := by decide +kernel
theorem dX10_numberOf_162 : decode cX10_numberOf 162 = .ok (.invokevirtual 82, 3) := by decide +kernel
theorem dX10_numberOf_165 : decode cX10_numberOf 165 = .ok (.ireturn, 1) := by decide +kernel
theorem dX10_numberOf_166 : decode cX10_numberOf 166 = .ok (.aload_n 0, 1) := by decide +kernel
theorem dX10_numberOf_167 : decode cX10_numberOf 167 = .ok (.iload_n 2, 1) := by decide +kernel
theorem dX10_numberOf_168 : decode cX10_numberOf 168 = .ok (.ifCond .ne 9, 3) := by decide +kernel
theorem dX10_numberOf_171 : decode cX10_numberOf 171 = .ok (.iload 4, 2) := by decide +kernel
theorem dX10_numberOf_173 : decode cX10_numberOf 173 = .ok (.i2l, 1) := by decide +kernel
theorem dX10_numberOf_174 : decode cX10_numberOf 174 = .ok (.goto 6, 3) := by decide +kernel
theorem dX10_numberOf_177 : decode cX10_numberOf 177 = .ok (.iload 5, 2) := by decide +kernel
theorem dX10_numberOf_179 : decode cX10_numberOf 179 = .ok (.i2l, 1) := by decide +kernel
theorem dX10_numberOf_180 : decode cX10_numberOf 180 = .ok (.invokevirtual 82, 3) := by decide +kernel
theorem dX10_numberOf_183 : decode cX10_numberOf 183 = .ok (.ireturn, 1) := by decide +kernel
theorem dX10_number_0 : decode cX10_number 0 = .ok (.aload_n 0, 1) := by decide +kernel
theorem dX10_number_1 : decode cX10_number 1 = .ok (.iload_n 1, 1) := by decide +kernel
theorem dX10_number_2 : decode cX10_number 2 = .ok (.invokevirtual 104, 3) := by decide +kernel
theorem dX10_number_5 : decode cX10_number 5 = .ok (.ifCond .eq 39, 3) := by decide +kernel
theorem dX10_number_8 : decode cX10_number 8 = .ok (.iload_n 2, 1) := by decide +kernel
theorem dX10_number_9 : decode cX10_number 9 = .ok (.i2l, 1) := by decide +kernel
theorem dX10_number_10 : decode cX10_number 10 = .ok (.lconst 0, 1) := by decide +kernel
theorem dX10_number_11 : decode cX10_number 11 = .ok (.lconst 1, 1) := by decide +kernel
theorem dX10_number_12 : decode cX10_number 12 = .ok (.invokestatic 78, 3) := by decide +kernel
theorem dX10_number_15 : decode cX10_number 15 = .ok (.ifCond .eq 29, 3) := by decide +kernel
theorem dX10_number_18 : decode cX10_number 18 = .ok (.iload_n 3, 1) := by decide +kernel
theorem dX10_number_19 : decode cX10_number 19 = .ok (.i2l, 1) := by decide +kernel
theorem dX10_number_20 : decode cX10_number 20 = .ok (.lconst 0, 1) := by decide +kernel
theorem dX10_number_21 : decode cX10_number 21 = .ok (.aload_n 0, 1) := by decide +kernel
theorem dX10_number_22 : decode cX10_number 22 = .ok (.getfield 13, 3) := by decide +kernel
theorem dX10_number_25 : decode cX10_number 25 = .ok (.iconst 1, 1) := by decide +kernel
theorem dX10_number_26 : decode cX10_number 26 = .ok (.isub, 1) := by decide +kernel
theorem dX10_number_27 : decode cX10_number 27 = .ok (.i2l, 1) := by decide +kernel
theorem dX10_number_28 : decode cX10_number 28 = .ok (.invokestatic 78, 3) := by decide +kernel
theorem dX10_number_31 : decode cX10_number 31 = .ok (.ifCond .eq 13, 3) := by decide +kernel
theorem dX10_number_34 : decode cX10_number 34 = .ok (.aload_n 0, 1) := by decide +kernel
theorem dX10_number_35 : decode cX10_number 35 = .ok (.iload_n 1, 1) := by decide +kernel
theorem dX10_number_36 : decode cX10_number 36 = .ok (.iload_n 2, 1) := by decide +kernel
theorem dX10_number_37 : decode cX10_number 37 = .ok (.iload_n 3, 1) := by decide +kernel
theorem dX10_number_38 : decode cX10_number 38 = .ok (.invokevirtual 121, 3) := by decide +kernel
theorem dX10_number_41 : decode cX10_number 41 = .ok (.goto 5, 3) := by decide +kernel
theorem dX10_number_44 : decode cX10_number 44 = .ok (.bipush (-2), 2) := by decide +kernel
theorem dX10_number_46 : decode cX10_number 46 = .ok (.ireturn, 1) := by decide +kernel
theorem dX10_drop_0 : decode cX10_drop 0 = .ok (.aload_n 0, 1) := by decide +kernel
theorem dX10_drop_1 : decode cX10_drop 1 = .ok (.getfield 75, 3) := by decide +kernel
theorem dX10_drop_4 : decode cX10_drop 4 = .ok (.ifCond .ne 6, 3) := by decide +kernel
theorem dX10_drop_7 : decode cX10_drop 7 = .ok (.bipush (-3), 2) := by decide +kernel
theorem dX10_drop_9 : decode cX10_drop 9 = .ok (.ireturn, 1) := by decide +kernel
theorem dX10_drop_10 : decode cX10_drop 10 = .ok (.aload_n 0, 1) := by decide +kernel
theorem dX10_drop_11 : decode cX10_drop 11 = .ok (.dup, 1) := by decide +kernel
theorem dX10_drop_12 : decode cX10_drop 12 = .ok (.getfield 75, 3) := by decide +kernel
theorem dX10_drop_15 : decode cX10_drop 15 = .ok (.iconst 1, 1) := by decide +kernel
theorem dX10_drop_16 : decode cX10_drop 16 = .ok (.isub, 1) := by decide +kernel
theorem dX10_drop_17 : decode cX10_drop 17 = .ok (.putfield 75, 3) := by decide +kernel
theorem dX10_drop_20 : decode cX10_drop 20 = .ok (.aload_n 0, 1) := by decide +kernel
theorem dX10_drop_21 : decode cX10_drop 21 = .ok (.getfield 75, 3) := by decide +kernel
theorem dX10_drop_24 : decode cX10_drop 24 = .ok (.ireturn, 1) := by decide +kernel
theorem dX10_isName_0 : decode cX10_isName 0 = .ok (.iconst 0, 1) := by decide +kernel
theorem dX10_isName_1 : decode cX10_isName 1 = .ok (.istore_n 2, 1) := by decide +kernel
theorem dX10_isName_2 : decode cX10_isName 2 = .ok (.iconst 0, 1) := by decide +kernel
theorem dX10_isName_3 : decode cX10_isName 3 = .ok (.istore_n 3, 1) := by decide +kernel
theorem dX10_isName_4 : decode cX10_isName 4 = .ok (.iload_n 3, 1) := by decide +kernel
theorem dX10_isName_5 : decode cX10_isName 5 = .ok (.bipush 8, 2) := by decide +kernel
theorem dX10_isName_7 : decode cX10_isName 7 = .ok (.if_icmp .ge 66, 3) := by decide +kernel
theorem dX10_isName_10 : decode cX10_isName 10 = .ok (.lload_n 0, 1) := by decide +kernel
theorem dX10_isName_11 : decode cX10_isName 11 = .ok (.bipush 56, 2) := by decide +kernel
theorem dX10_isName_13 : decode cX10_isName 13 = .ok (.bipush 8, 2) := by decide +kernel
theorem dX10_isName_15 : decode cX10_isName 15 = .ok (.iload_n 3, 1) := by decide +kernel
theorem dX10_isName_16 : decode cX10_isName 16 = .ok (.imul, 1) := by decide +kernel
theorem dX10_isName_17 : decode cX10_isName 17 = .ok (.isub, 1) := by decide +kernel
theorem dX10_isName_18 : decode cX10_isName 18 = .ok (.lushr, 1) := by decide +kernel
theorem dX10_isName_19 : decode cX10_isName 19 = .ok (.ldc2_w 125, 3) := by decide +kernel
theorem dX10_isName_22 : decode cX10_isName 22 = .ok (.land, 1) := by decide +kernel
theorem dX10_isName_23 : decode cX10_isName 23 = .ok (.lstore 4, 2) := by decide +kernel
theorem dX10_isName_25 : decode cX10_isName 25 = .ok (.lload 4, 2) := by decide +kernel
theorem dX10_isName_27 : decode cX10_isName 27 = .ok (.lconst 0, 1) := by decide +kernel
theorem dX10_isName_28 : decode cX10_isName 28 = .ok (.lcmp, 1) := by decide +kernel
theorem dX10_isName_29 : decode cX10_isName 29 = .ok (.ifCond .eq 23, 3) := by decide +kernel
theorem dX10_isName_32 : decode cX10_isName 32 = .ok (.iload_n 2, 1) := by decide +kernel
theorem dX10_isName_33 : decode cX10_isName 33 = .ok (.ifCond .ne 17, 3) := by decide +kernel
theorem dX10_isName_36 : decode cX10_isName 36 = .ok (.lload 4, 2) := by decide +kernel
theorem dX10_isName_38 : decode cX10_isName 38 = .ok (.ldc2_w 88, 3) := by decide +kernel
theorem dX10_isName_41 : decode cX10_isName 41 = .ok (.ldc2_w 127, 3) := by decide +kernel
theorem dX10_isName_44 : decode cX10_isName 44 = .ok (.invokestatic 78, 3) := by decide +kernel
theorem dX10_isName_47 : decode cX10_isName 47 = .ok (.ifCond .ne 5, 3) := by decide +kernel
theorem dX10_isName_50 : decode cX10_isName 50 = .ok (.iconst 0, 1) := by decide +kernel
theorem dX10_isName_51 : decode cX10_isName 51 = .ok (.ireturn, 1) := by decide +kernel
theorem dX10_isName_52 : decode cX10_isName 52 = .ok (.iload_n 2, 1) := by decide +kernel
theorem dX10_isName_53 : decode cX10_isName 53 = .ok (.lload 4, 2) := by decide +kernel
theorem dX10_isName_55 : decode cX10_isName 55 = .ok (.lconst 0, 1) := by decide +kernel
theorem dX10_isName_56 : decode cX10_isName 56 = .ok (.lcmp, 1) := by decide +kernel
theorem dX10_isName_57 : decode cX10_isName 57 = .ok (.ifCond .ne 7, 3) := by decide +kernel
theorem dX10_isName_60 : decode cX10_isName 60 = .ok (.iconst 1, 1) := by decide +kernel
theorem dX10_isName_61 : decode cX10_isName 61 = .ok (.goto 4, 3) := by decide +kernel
theorem dX10_isName_64 : decode cX10_isName 64 = .ok (.iconst 0, 1) := by decide +kernel
theorem dX10_isName_65 : decode cX10_isName 65 = .ok (.ior, 1) := by decide +kernel
theorem dX10_isName_66 : decode cX10_isName 66 = .ok (.istore_n 2, 1) := by decide +kernel
theorem dX10_isName_67 : decode cX10_isName 67 = .ok (.iinc 3 1, 3) := by decide +kernel
theorem dX10_isName_70 : decode cX10_isName 70 = .ok (.goto (-66), 3) := by decide +kernel
theorem dX10_isName_73 : decode cX10_isName 73 = .ok (.iload_n 2, 1) := by decide +kernel
theorem dX10_isName_74 : decode cX10_isName 74 = .ok (.ifCond .eq 13, 3) := by decide +kernel
theorem dX10_isName_77 : decode cX10_isName 77 = .ok (.lload_n 0, 1) := by decide +kernel
theorem dX10_isName_78 : decode cX10_isName 78 = .ok (.lconst 0, 1) := by decide +kernel
theorem dX10_isName_79 : decode cX10_isName 79 = .ok (.lcmp, 1) := by decide +kernel
theorem dX10_isName_80 : decode cX10_isName 80 = .ok (.ifCond .eq 7, 3) := by decide +kernel
theorem dX10_isName_83 : decode cX10_isName 83 = .ok (.iconst 1, 1) := by decide +kernel
theorem dX10_isName_84 : decode cX10_isName 84 = .ok (.goto 4, 3) := by decide +kernel
theorem dX10_isName_87 : decode cX10_isName 87 = .ok (.iconst 0, 1) := by decide +kernel
theorem dX10_isName_88 : decode cX10_isName 88 = .ok (.ireturn, 1) := by decide +kernel
theorem dX10_whoIs_0 : decode cX10_whoIs 0 = .ok (.iconst 0, 1) := by decide +kernel
theorem dX10_whoIs_1 : decode cX10_whoIs 1 = .ok (.istore_n 3, 1) := by decide +kernel
theorem dX10_whoIs_2 : decode cX10_whoIs 2 = .ok (.iload_n 3, 1) := by decide +kernel
theorem dX10_whoIs_3 : decode cX10_whoIs 3 = .ok (.aload_n 0, 1) := by decide +kernel
theorem dX10_whoIs_4 : decode cX10_whoIs 4 = .ok (.getfield 75, 3) := by decide +kernel
theorem dX10_whoIs_7 : decode cX10_whoIs 7 = .ok (.if_icmp .ge 22, 3) := by decide +kernel
theorem dX10_whoIs_10 : decode cX10_whoIs 10 = .ok (.aload_n 0, 1) := by decide +kernel
theorem dX10_whoIs_11 : decode cX10_whoIs 11 = .ok (.getfield 23, 3) := by decide +kernel
theorem dX10_whoIs_14 : decode cX10_whoIs 14 = .ok (.iload_n 3, 1) := by decide +kernel
theorem dX10_whoIs_15 : decode cX10_whoIs 15 = .ok (.laload, 1) := by decide +kernel
theorem dX10_whoIs_16 : decode cX10_whoIs 16 = .ok (.lload_n 1, 1) := by decide +kernel
theorem dX10_whoIs_17 : decode cX10_whoIs 17 = .ok (.lcmp, 1) := by decide +kernel
theorem dX10_whoIs_18 : decode cX10_whoIs 18 = .ok (.ifCond .ne 5, 3) := by decide +kernel
theorem dX10_whoIs_21 : decode cX10_whoIs 21 = .ok (.iload_n 3, 1) := by decide +kernel
theorem dX10_whoIs_22 : decode cX10_whoIs 22 = .ok (.ireturn, 1) := by decide +kernel
theorem dX10_whoIs_23 : decode cX10_whoIs 23 = .ok (.iinc 3 1, 3) := by decide +kernel
theorem dX10_whoIs_26 : decode cX10_whoIs 26 = .ok (.goto (-24), 3) := by decide +kernel
theorem dX10_whoIs_29 : decode cX10_whoIs 29 = .ok (.iconst (-1), 1) := by decide +kernel
theorem dX10_whoIs_30 : decode cX10_whoIs 30 = .ok (.ireturn, 1) := by decide +kernel
theorem dX10_name_0 : decode cX10_name 0 = .ok (.aload_n 0, 1) := by decide +kernel
theorem dX10_name_1 : decode cX10_name 1 = .ok (.iload_n 1, 1) := by decide +kernel
theorem dX10_name_2 : decode cX10_name 2 = .ok (.invokevirtual 104, 3) := by decide +kernel
theorem dX10_name_5 : decode cX10_name 5 = .ok (.ifCond .eq 10, 3) := by decide +kernel
theorem dX10_name_8 : decode cX10_name 8 = .ok (.lload_n 2, 1) := by decide +kernel
theorem dX10_name_9 : decode cX10_name 9 = .ok (.invokestatic 129, 3) := by decide +kernel
theorem dX10_name_12 : decode cX10_name 12 = .ok (.ifCond .ne 6, 3) := by decide +kernel
theorem dX10_name_15 : decode cX10_name 15 = .ok (.bipush (-2), 2) := by decide +kernel
theorem dX10_name_17 : decode cX10_name 17 = .ok (.ireturn, 1) := by decide +kernel
theorem dX10_name_18 : decode cX10_name 18 = .ok (.aload_n 0, 1) := by decide +kernel
theorem dX10_name_19 : decode cX10_name 19 = .ok (.lload_n 2, 1) := by decide +kernel
theorem dX10_name_20 : decode cX10_name 20 = .ok (.invokevirtual 133, 3) := by decide +kernel
theorem dX10_name_23 : decode cX10_name 23 = .ok (.istore 4, 2) := by decide +kernel
theorem dX10_name_25 : decode cX10_name 25 = .ok (.iload 4, 2) := by decide +kernel
theorem dX10_name_27 : decode cX10_name 27 = .ok (.iconst (-1), 1) := by decide +kernel
theorem dX10_name_28 : decode cX10_name 28 = .ok (.if_icmp .eq 12, 3) := by decide +kernel
theorem dX10_name_31 : decode cX10_name 31 = .ok (.iload 4, 2) := by decide +kernel
theorem dX10_name_33 : decode cX10_name 33 = .ok (.iload_n 1, 1) := by decide +kernel
theorem dX10_name_34 : decode cX10_name 34 = .ok (.if_icmp .eq 6, 3) := by decide +kernel
theorem dX10_name_37 : decode cX10_name 37 = .ok (.bipush (-3), 2) := by decide +kernel
theorem dX10_name_39 : decode cX10_name 39 = .ok (.ireturn, 1) := by decide +kernel
theorem dX10_name_40 : decode cX10_name 40 = .ok (.aload_n 0, 1) := by decide +kernel
theorem dX10_name_41 : decode cX10_name 41 = .ok (.getfield 23, 3) := by decide +kernel
theorem dX10_name_44 : decode cX10_name 44 = .ok (.iload_n 1, 1) := by decide +kernel
theorem dX10_name_45 : decode cX10_name 45 = .ok (.lload_n 2, 1) := by decide +kernel
theorem dX10_name_46 : decode cX10_name 46 = .ok (.lastore, 1) := by decide +kernel
theorem dX10_name_47 : decode cX10_name 47 = .ok (.iconst 1, 1) := by decide +kernel
theorem dX10_name_48 : decode cX10_name 48 = .ok (.ireturn, 1) := by decide +kernel
theorem dX10_named_0 : decode cX10_named 0 = .ok (.lload_n 1, 1) := by decide +kernel
theorem dX10_named_1 : decode cX10_named 1 = .ok (.invokestatic 129, 3) := by decide +kernel
theorem dX10_named_4 : decode cX10_named 4 = .ok (.ifCond .eq 11, 3) := by decide +kernel
theorem dX10_named_7 : decode cX10_named 7 = .ok (.aload_n 0, 1) := by decide +kernel
theorem dX10_named_8 : decode cX10_named 8 = .ok (.lload_n 1, 1) := by decide +kernel
theorem dX10_named_9 : decode cX10_named 9 = .ok (.invokevirtual 133, 3) := by decide +kernel
theorem dX10_named_12 : decode cX10_named 12 = .ok (.goto 5, 3) := by decide +kernel
theorem dX10_named_15 : decode cX10_named 15 = .ok (.bipush (-2), 2) := by decide +kernel
theorem dX10_named_17 : decode cX10_named 17 = .ok (.ireturn, 1) := by decide +kernel
theorem dX10_unname_0 : decode cX10_unname 0 = .ok (.aload_n 0, 1) := by decide +kernel
theorem dX10_unname_1 : decode cX10_unname 1 = .ok (.iload_n 1, 1) := by decide +kernel
theorem dX10_unname_2 : decode cX10_unname 2 = .ok (.invokevirtual 104, 3) := by decide +kernel
theorem dX10_unname_5 : decode cX10_unname 5 = .ok (.ifCond .ne 6, 3) := by decide +kernel
theorem dX10_unname_8 : decode cX10_unname 8 = .ok (.bipush (-2), 2) := by decide +kernel
theorem dX10_unname_10 : decode cX10_unname 10 = .ok (.ireturn, 1) := by decide +kernel
theorem dX10_unname_11 : decode cX10_unname 11 = .ok (.aload_n 0, 1) := by decide +kernel
theorem dX10_unname_12 : decode cX10_unname 12 = .ok (.getfield 23, 3) := by decide +kernel
theorem dX10_unname_15 : decode cX10_unname 15 = .ok (.iload_n 1, 1) := by decide +kernel
theorem dX10_unname_16 : decode cX10_unname 16 = .ok (.laload, 1) := by decide +kernel
theorem dX10_unname_17 : decode cX10_unname 17 = .ok (.lconst 0, 1) := by decide +kernel
theorem dX10_unname_18 : decode cX10_unname 18 = .ok (.lcmp, 1) := by decide +kernel
theorem dX10_unname_19 : decode cX10_unname 19 = .ok (.ifCond .ne 7, 3) := by decide +kernel
theorem dX10_unname_22 : decode cX10_unname 22 = .ok (.iconst 0, 1) := by decide +kernel
theorem dX10_unname_23 : decode cX10_unname 23 = .ok (.goto 4, 3) := by decide +kernel
theorem dX10_unname_26 : decode cX10_unname 26 = .ok (.iconst 1, 1) := by decide +kernel
theorem dX10_unname_27 : decode cX10_unname 27 = .ok (.istore_n 2, 1) := by decide +kernel
theorem dX10_unname_28 : decode cX10_unname 28 = .ok (.aload_n 0, 1) := by decide +kernel
theorem dX10_unname_29 : decode cX10_unname 29 = .ok (.getfield 23, 3) := by decide +kernel
theorem dX10_unname_32 : decode cX10_unname 32 = .ok (.iload_n 1, 1) := by decide +kernel
theorem dX10_unname_33 : decode cX10_unname 33 = .ok (.lconst 0, 1) := by decide +kernel
theorem dX10_unname_34 : decode cX10_unname 34 = .ok (.lastore, 1) := by decide +kernel
theorem dX10_unname_35 : decode cX10_unname 35 = .ok (.iload_n 2, 1) := by decide +kernel
theorem dX10_unname_36 : decode cX10_unname 36 = .ok (.ireturn, 1) := by decide +kernel
theorem dX10_nameAt_0 : decode cX10_nameAt 0 = .ok (.iconst 0, 1) := by decide +kernel
theorem dX10_nameAt_1 : decode cX10_nameAt 1 = .ok (.istore_n 2, 1) := by decide +kernel
theorem dX10_nameAt_2 : decode cX10_nameAt 2 = .ok (.iload_n 2, 1) := by decide +kernel
theorem dX10_nameAt_3 : decode cX10_nameAt 3 = .ok (.aload_n 0, 1) := by decide +kernel
theorem dX10_nameAt_4 : decode cX10_nameAt 4 = .ok (.getfield 75, 3) := by decide +kernel
theorem dX10_nameAt_7 : decode cX10_nameAt 7 = .ok (.if_icmp .ge 36, 3) := by decide +kernel
theorem dX10_nameAt_10 : decode cX10_nameAt 10 = .ok (.aload_n 0, 1) := by decide +kernel
theorem dX10_nameAt_11 : decode cX10_nameAt 11 = .ok (.getfield 23, 3) := by decide +kernel
theorem dX10_nameAt_14 : decode cX10_nameAt 14 = .ok (.iload_n 2, 1) := by decide +kernel
theorem dX10_nameAt_15 : decode cX10_nameAt 15 = .ok (.laload, 1) := by decide +kernel
theorem dX10_nameAt_16 : decode cX10_nameAt 16 = .ok (.lconst 0, 1) := by decide +kernel
theorem dX10_nameAt_17 : decode cX10_nameAt 17 = .ok (.lcmp, 1) := by decide +kernel
theorem dX10_nameAt_18 : decode cX10_nameAt 18 = .ok (.ifCond .eq 19, 3) := by decide +kernel
theorem dX10_nameAt_21 : decode cX10_nameAt 21 = .ok (.aload_n 0, 1) := by decide +kernel
theorem dX10_nameAt_22 : decode cX10_nameAt 22 = .ok (.iload_n 2, 1) := by decide +kernel
theorem dX10_nameAt_23 : decode cX10_nameAt 23 = .ok (.invokevirtual 115, 3) := by decide +kernel
theorem dX10_nameAt_26 : decode cX10_nameAt 26 = .ok (.iload_n 1, 1) := by decide +kernel
theorem dX10_nameAt_27 : decode cX10_nameAt 27 = .ok (.if_icmp .ne 10, 3) := by decide +kernel
theorem dX10_nameAt_30 : decode cX10_nameAt 30 = .ok (.aload_n 0, 1) := by decide +kernel
theorem dX10_nameAt_31 : decode cX10_nameAt 31 = .ok (.getfield 23, 3) := by decide +kernel
theorem dX10_nameAt_34 : decode cX10_nameAt 34 = .ok (.iload_n 2, 1) := by decide +kernel
theorem dX10_nameAt_35 : decode cX10_nameAt 35 = .ok (.laload, 1) := by decide +kernel
theorem dX10_nameAt_36 : decode cX10_nameAt 36 = .ok (.lreturn, 1) := by decide +kernel
theorem dX10_nameAt_37 : decode cX10_nameAt 37 = .ok (.iinc 2 1, 3) := by decide +kernel
theorem dX10_nameAt_40 : decode cX10_nameAt 40 = .ok (.goto (-38), 3) := by decide +kernel
theorem dX10_nameAt_43 : decode cX10_nameAt 43 = .ok (.ldc2_w 136, 3) := by decide +kernel
theorem dX10_nameAt_46 : decode cX10_nameAt 46 = .ok (.lreturn, 1) := by decide +kernel
theorem dX10_laysRow_0 : decode cX10_laysRow 0 = .ok (.iconst 0, 1) := by decide +kernel
theorem dX10_laysRow_1 : decode cX10_laysRow 1 = .ok (.istore_n 3, 1) := by decide +kernel
theorem dX10_laysRow_2 : decode cX10_laysRow 2 = .ok (.iload_n 3, 1) := by decide +kernel
theorem dX10_laysRow_3 : decode cX10_laysRow 3 = .ok (.aload_n 0, 1) := by decide +kernel
theorem dX10_laysRow_4 : decode cX10_laysRow 4 = .ok (.getfield 13, 3) := by decide +kernel
theorem dX10_laysRow_7 : decode cX10_laysRow 7 = .ok (.if_icmp .ge 30, 3) := by decide +kernel
theorem dX10_laysRow_10 : decode cX10_laysRow 10 = .ok (.aload_n 0, 1) := by decide +kernel
theorem dX10_laysRow_11 : decode cX10_laysRow 11 = .ok (.getfield 33, 3) := by decide +kernel
theorem dX10_laysRow_14 : decode cX10_laysRow 14 = .ok (.bipush 6, 2) := by decide +kernel
theorem dX10_laysRow_16 : decode cX10_laysRow 16 = .ok (.aload_n 0, 1) := by decide +kernel
theorem dX10_laysRow_17 : decode cX10_laysRow 17 = .ok (.getfield 138, 3) := by decide +kernel
theorem dX10_laysRow_20 : decode cX10_laysRow 20 = .ok (.imul, 1) := by decide +kernel
theorem dX10_laysRow_21 : decode cX10_laysRow 21 = .ok (.iload_n 3, 1) := by decide +kernel
theorem dX10_laysRow_22 : decode cX10_laysRow 22 = .ok (.iadd, 1) := by decide +kernel
theorem dX10_laysRow_23 : decode cX10_laysRow 23 = .ok (.aload_n 0, 1) := by decide +kernel
theorem dX10_laysRow_24 : decode cX10_laysRow 24 = .ok (.iload_n 1, 1) := by decide +kernel
theorem dX10_laysRow_25 : decode cX10_laysRow 25 = .ok (.iload_n 2, 1) := by decide +kernel
theorem dX10_laysRow_26 : decode cX10_laysRow 26 = .ok (.iload_n 3, 1) := by decide +kernel
theorem dX10_laysRow_27 : decode cX10_laysRow 27 = .ok (.invokevirtual 121, 3) := by decide +kernel
theorem dX10_laysRow_30 : decode cX10_laysRow 30 = .ok (.iastore, 1) := by decide +kernel
theorem dX10_laysRow_31 : decode cX10_laysRow 31 = .ok (.iinc 3 1, 3) := by decide +kernel
theorem dX10_laysRow_34 : decode cX10_laysRow 34 = .ok (.goto (-32), 3) := by decide +kernel
theorem dX10_laysRow_37 : decode cX10_laysRow 37 = .ok (.aload_n 0, 1) := by decide +kernel
theorem dX10_laysRow_38 : decode cX10_laysRow 38 = .ok (.dup, 1) := by decide +kernel
theorem dX10_laysRow_39 : decode cX10_laysRow 39 = .ok (.getfield 138, 3) := by decide +kernel
theorem dX10_laysRow_42 : decode cX10_laysRow 42 = .ok (.iconst 1, 1) := by decide +kernel
theorem dX10_laysRow_43 : decode cX10_laysRow 43 = .ok (.iadd, 1) := by decide +kernel
theorem dX10_laysRow_44 : decode cX10_laysRow 44 = .ok (.putfield 138, 3) := by decide +kernel
theorem dX10_laysRow_47 : decode cX10_laysRow 47 = .ok (.return_, 1) := by decide +kernel
theorem dX10_laysAxis_0 : decode cX10_laysAxis 0 = .ok (.iconst 0, 1) := by decide +kernel
theorem dX10_laysAxis_1 : decode cX10_laysAxis 1 = .ok (.istore_n 2, 1) := by decide +kernel
theorem dX10_laysAxis_2 : decode cX10_laysAxis 2 = .ok (.iload_n 2, 1) := by decide +kernel
theorem dX10_laysAxis_3 : decode cX10_laysAxis 3 = .ok (.aload_n 0, 1) := by decide +kernel
theorem dX10_laysAxis_4 : decode cX10_laysAxis 4 = .ok (.getfield 13, 3) := by decide +kernel
theorem dX10_laysAxis_7 : decode cX10_laysAxis 7 = .ok (.if_icmp .ge 33, 3) := by decide +kernel
theorem dX10_laysAxis_10 : decode cX10_laysAxis 10 = .ok (.aload_n 0, 1) := by decide +kernel
theorem dX10_laysAxis_11 : decode cX10_laysAxis 11 = .ok (.getfield 33, 3) := by decide +kernel
theorem dX10_laysAxis_14 : decode cX10_laysAxis 14 = .ok (.bipush 6, 2) := by decide +kernel
theorem dX10_laysAxis_16 : decode cX10_laysAxis 16 = .ok (.aload_n 0, 1) := by decide +kernel
theorem dX10_laysAxis_17 : decode cX10_laysAxis 17 = .ok (.getfield 138, 3) := by decide +kernel
theorem dX10_laysAxis_20 : decode cX10_laysAxis 20 = .ok (.imul, 1) := by decide +kernel
theorem dX10_laysAxis_21 : decode cX10_laysAxis 21 = .ok (.iload_n 2, 1) := by decide +kernel
theorem dX10_laysAxis_22 : decode cX10_laysAxis 22 = .ok (.iadd, 1) := by decide +kernel
theorem dX10_laysAxis_23 : decode cX10_laysAxis 23 = .ok (.iload_n 2, 1) := by decide +kernel
theorem dX10_laysAxis_24 : decode cX10_laysAxis 24 = .ok (.iload_n 1, 1) := by decide +kernel
theorem dX10_laysAxis_25 : decode cX10_laysAxis 25 = .ok (.if_icmp .ne 7, 3) := by decide +kernel
theorem dX10_laysAxis_28 : decode cX10_laysAxis 28 = .ok (.iconst 1, 1) := by decide +kernel
theorem dX10_laysAxis_29 : decode cX10_laysAxis 29 = .ok (.goto 4, 3) := by decide +kernel
theorem dX10_laysAxis_32 : decode cX10_laysAxis 32 = .ok (.iconst 0, 1) := by decide +kernel
theorem dX10_laysAxis_33 : decode cX10_laysAxis 33 = .ok (.iastore, 1) := by decide +kernel
theorem dX10_laysAxis_34 : decode cX10_laysAxis 34 = .ok (.iinc 2 1, 3) := by decide +kernel
theorem dX10_laysAxis_37 : decode cX10_laysAxis 37 = .ok (.goto (-35), 3) := by decide +kernel
theorem dX10_laysAxis_40 : decode cX10_laysAxis 40 = .ok (.aload_n 0, 1) := by decide +kernel
theorem dX10_laysAxis_41 : decode cX10_laysAxis 41 = .ok (.dup, 1) := by decide +kernel
theorem dX10_laysAxis_42 : decode cX10_laysAxis 42 = .ok (.getfield 138, 3) := by decide +kernel
theorem dX10_laysAxis_45 : decode cX10_laysAxis 45 = .ok (.iconst 1, 1) := by decide +kernel
theorem dX10_laysAxis_46 : decode cX10_laysAxis 46 = .ok (.iadd, 1) := by decide +kernel
theorem dX10_laysAxis_47 : decode cX10_laysAxis 47 = .ok (.putfield 138, 3) := by decide +kernel
theorem dX10_laysAxis_50 : decode cX10_laysAxis 50 = .ok (.return_, 1) := by decide +kernel
theorem dX10_adds_0 : decode cX10_adds 0 = .ok (.iconst 0, 1) := by decide +kernel
theorem dX10_adds_1 : decode cX10_adds 1 = .ok (.istore 4, 2) := by decide +kernel
theorem dX10_adds_3 : decode cX10_adds 3 = .ok (.iload 4, 2) := by decide +kernel
theorem dX10_adds_5 : decode cX10_adds 5 = .ok (.aload_n 0, 1) := by decide +kernel
theorem dX10_adds_6 : decode cX10_adds 6 = .ok (.getfield 13, 3) := by decide +kernel
theorem dX10_adds_9 : decode cX10_adds 9 = .ok (.if_icmp .ge 55, 3) := by decide +kernel
theorem dX10_adds_12 : decode cX10_adds 12 = .ok (.aload_n 0, 1) := by decide +kernel
theorem dX10_adds_13 : decode cX10_adds 13 = .ok (.getfield 33, 3) := by decide +kernel
theorem dX10_adds_16 : decode cX10_adds 16 = .ok (.bipush 6, 2) := by decide +kernel
theorem dX10_adds_18 : decode cX10_adds 18 = .ok (.iload_n 1, 1) := by decide +kernel
theorem dX10_adds_19 : decode cX10_adds 19 = .ok (.imul, 1) := by decide +kernel
theorem dX10_adds_20 : decode cX10_adds 20 = .ok (.iload 4, 2) := by decide +kernel
theorem dX10_adds_22 : decode cX10_adds 22 = .ok (.iadd, 1) := by decide +kernel
theorem dX10_adds_23 : decode cX10_adds 23 = .ok (.aload_n 0, 1) := by decide +kernel
theorem dX10_adds_24 : decode cX10_adds 24 = .ok (.aload_n 0, 1) := by decide +kernel
theorem dX10_adds_25 : decode cX10_adds 25 = .ok (.getfield 33, 3) := by decide +kernel
theorem dX10_adds_28 : decode cX10_adds 28 = .ok (.bipush 6, 2) := by decide +kernel
theorem dX10_adds_30 : decode cX10_adds 30 = .ok (.iload_n 1, 1) := by decide +kernel
theorem dX10_adds_31 : decode cX10_adds 31 = .ok (.imul, 1) := by decide +kernel
theorem dX10_adds_32 : decode cX10_adds 32 = .ok (.iload 4, 2) := by decide +kernel
theorem dX10_adds_34 : decode cX10_adds 34 = .ok (.iadd, 1) := by decide +kernel
theorem dX10_adds_35 : decode cX10_adds 35 = .ok (.iaload, 1) := by decide +kernel
theorem dX10_adds_36 : decode cX10_adds 36 = .ok (.i2l, 1) := by decide +kernel
theorem dX10_adds_37 : decode cX10_adds 37 = .ok (.iload_n 3, 1) := by decide +kernel
theorem dX10_adds_38 : decode cX10_adds 38 = .ok (.i2l, 1) := by decide +kernel
theorem dX10_adds_39 : decode cX10_adds 39 = .ok (.aload_n 0, 1) := by decide +kernel
theorem dX10_adds_40 : decode cX10_adds 40 = .ok (.getfield 33, 3) := by decide +kernel
theorem dX10_adds_43 : decode cX10_adds 43 = .ok (.bipush 6, 2) := by decide +kernel
theorem dX10_adds_45 : decode cX10_adds 45 = .ok (.iload_n 2, 1) := by decide +kernel
theorem dX10_adds_46 : decode cX10_adds 46 = .ok (.imul, 1) := by decide +kernel
theorem dX10_adds_47 : decode cX10_adds 47 = .ok (.iload 4, 2) := by decide +kernel
theorem dX10_adds_49 : decode cX10_adds 49 = .ok (.iadd, 1) := by decide +kernel
theorem dX10_adds_50 : decode cX10_adds 50 = .ok (.iaload, 1) := by decide +kernel
theorem dX10_adds_51 : decode cX10_adds 51 = .ok (.i2l, 1) := by decide +kernel
theorem dX10_adds_52 : decode cX10_adds 52 = .ok (.lmul, 1) := by decide +kernel
theorem dX10_adds_53 : decode cX10_adds 53 = .ok (.ladd, 1) := by decide +kernel
theorem dX10_adds_54 : decode cX10_adds 54 = .ok (.invokevirtual 82, 3) := by decide +kernel
theorem dX10_adds_57 : decode cX10_adds 57 = .ok (.iastore, 1) := by decide +kernel
theorem dX10_adds_58 : decode cX10_adds 58 = .ok (.iinc 4 1, 3) := by decide +kernel
theorem dX10_adds_61 : decode cX10_adds 61 = .ok (.goto (-58), 3) := by decide +kernel
theorem dX10_adds_64 : decode cX10_adds 64 = .ok (.return_, 1) := by decide +kernel
theorem dX10_changes_0 : decode cX10_changes 0 = .ok (.iconst 0, 1) := by decide +kernel
theorem dX10_changes_1 : decode cX10_changes 1 = .ok (.istore_n 3, 1) := by decide +kernel
theorem dX10_changes_2 : decode cX10_changes 2 = .ok (.iload_n 3, 1) := by decide +kernel
theorem dX10_changes_3 : decode cX10_changes 3 = .ok (.aload_n 0, 1) := by decide +kernel
theorem dX10_changes_4 : decode cX10_changes 4 = .ok (.getfield 13, 3) := by decide +kernel
theorem dX10_changes_7 : decode cX10_changes 7 = .ok (.if_icmp .ge 57, 3) := by decide +kernel
theorem dX10_changes_10 : decode cX10_changes 10 = .ok (.aload_n 0, 1) := by decide +kernel
theorem dX10_changes_11 : decode cX10_changes 11 = .ok (.getfield 33, 3) := by decide +kernel
theorem dX10_changes_14 : decode cX10_changes 14 = .ok (.bipush 6, 2) := by decide +kernel
theorem dX10_changes_16 : decode cX10_changes 16 = .ok (.iload_n 1, 1) := by decide +kernel
theorem dX10_changes_17 : decode cX10_changes 17 = .ok (.imul, 1) := by decide +kernel
theorem dX10_changes_18 : decode cX10_changes 18 = .ok (.iload_n 3, 1) := by decide +kernel
theorem dX10_changes_19 : decode cX10_changes 19 = .ok (.iadd, 1) := by decide +kernel
theorem dX10_changes_20 : decode cX10_changes 20 = .ok (.iaload, 1) := by decide +kernel
theorem dX10_changes_21 : decode cX10_changes 21 = .ok (.istore 4, 2) := by decide +kernel
theorem dX10_changes_23 : decode cX10_changes 23 = .ok (.aload_n 0, 1) := by decide +kernel
theorem dX10_changes_24 : decode cX10_changes 24 = .ok (.getfield 33, 3) := by decide +kernel
theorem dX10_changes_27 : decode cX10_changes 27 = .ok (.bipush 6, 2) := by decide +kernel
theorem dX10_changes_29 : decode cX10_changes 29 = .ok (.iload_n 1, 1) := by decide +kernel
theorem dX10_changes_30 : decode cX10_changes 30 = .ok (.imul, 1) := by decide +kernel
theorem dX10_changes_31 : decode cX10_changes 31 = .ok (.iload_n 3, 1) := by decide +kernel
theorem dX10_changes_32 : decode cX10_changes 32 = .ok (.iadd, 1) := by decide +kernel
theorem dX10_changes_33 : decode cX10_changes 33 = .ok (.aload_n 0, 1) := by decide +kernel
theorem dX10_changes_34 : decode cX10_changes 34 = .ok (.getfield 33, 3) := by decide +kernel
theorem dX10_changes_37 : decode cX10_changes 37 = .ok (.bipush 6, 2) := by decide +kernel
theorem dX10_changes_39 : decode cX10_changes 39 = .ok (.iload_n 2, 1) := by decide +kernel
theorem dX10_changes_40 : decode cX10_changes 40 = .ok (.imul, 1) := by decide +kernel
theorem dX10_changes_41 : decode cX10_changes 41 = .ok (.iload_n 3, 1) := by decide +kernel
theorem dX10_changes_42 : decode cX10_changes 42 = .ok (.iadd, 1) := by decide +kernel
theorem dX10_changes_43 : decode cX10_changes 43 = .ok (.iaload, 1) := by decide +kernel
theorem dX10_changes_44 : decode cX10_changes 44 = .ok (.iastore, 1) := by decide +kernel
theorem dX10_changes_45 : decode cX10_changes 45 = .ok (.aload_n 0, 1) := by decide +kernel
theorem dX10_changes_46 : decode cX10_changes 46 = .ok (.getfield 33, 3) := by decide +kernel
theorem dX10_changes_49 : decode cX10_changes 49 = .ok (.bipush 6, 2) := by decide +kernel
theorem dX10_changes_51 : decode cX10_changes 51 = .ok (.iload_n 2, 1) := by decide +kernel
theorem dX10_changes_52 : decode cX10_changes 52 = .ok (.imul, 1) := by decide +kernel
theorem dX10_changes_53 : decode cX10_changes 53 = .ok (.iload_n 3, 1) := by decide +kernel
theorem dX10_changes_54 : decode cX10_changes 54 = .ok (.iadd, 1) := by decide +kernel
theorem dX10_changes_55 : decode cX10_changes 55 = .ok (.iload 4, 2) := by decide +kernel
theorem dX10_changes_57 : decode cX10_changes 57 = .ok (.iastore, 1) := by decide +kernel
theorem dX10_changes_58 : decode cX10_changes 58 = .ok (.iinc 3 1, 3) := by decide +kernel
theorem dX10_changes_61 : decode cX10_changes 61 = .ok (.goto (-59), 3) := by decide +kernel
theorem dX10_changes_64 : decode cX10_changes 64 = .ok (.return_, 1) := by decide +kernel
theorem dX10_ranks_0 : decode cX10_ranks 0 = .ok (.iconst 0, 1) := by decide +kernel
theorem dX10_ranks_1 : decode cX10_ranks 1 = .ok (.istore_n 1, 1) := by decide +kernel
theorem dX10_ranks_2 : decode cX10_ranks 2 = .ok (.iconst 0, 1) := by decide +kernel
theorem dX10_ranks_3 : decode cX10_ranks 3 = .ok (.istore_n 2, 1) := by decide +kernel
theorem dX10_ranks_4 : decode cX10_ranks 4 = .ok (.iload_n 2, 1) := by decide +kernel
theorem dX10_ranks_5 : decode cX10_ranks 5 = .ok (.aload_n 0, 1) := by decide +kernel
theorem dX10_ranks_6 : decode cX10_ranks 6 = .ok (.getfield 13, 3) := by decide +kernel
theorem dX10_ranks_9 : decode cX10_ranks 9 = .ok (.if_icmp .ge 141, 3) := by decide +kernel
theorem dX10_ranks_12 : decode cX10_ranks 12 = .ok (.iload_n 1, 1) := by decide +kernel
theorem dX10_ranks_13 : decode cX10_ranks 13 = .ok (.aload_n 0, 1) := by decide +kernel
theorem dX10_ranks_14 : decode cX10_ranks 14 = .ok (.getfield 138, 3) := by decide +kernel
theorem dX10_ranks_17 : decode cX10_ranks 17 = .ok (.if_icmp .ge 133, 3) := by decide +kernel
theorem dX10_ranks_20 : decode cX10_ranks 20 = .ok (.iload_n 1, 1) := by decide +kernel
theorem dX10_ranks_21 : decode cX10_ranks 21 = .ok (.istore_n 3, 1) := by decide +kernel
theorem dX10_ranks_22 : decode cX10_ranks 22 = .ok (.iload_n 3, 1) := by decide +kernel
theorem dX10_ranks_23 : decode cX10_ranks 23 = .ok (.aload_n 0, 1) := by decide +kernel
theorem dX10_ranks_24 : decode cX10_ranks 24 = .ok (.getfield 138, 3) := by decide +kernel
theorem dX10_ranks_27 : decode cX10_ranks 27 = .ok (.if_icmp .ge 23, 3) := by decide +kernel
theorem dX10_ranks_30 : decode cX10_ranks 30 = .ok (.aload_n 0, 1) := by decide +kernel
theorem dX10_ranks_31 : decode cX10_ranks 31 = .ok (.getfield 33, 3) := by decide +kernel
theorem dX10_ranks_34 : decode cX10_ranks 34 = .ok (.bipush 6, 2) := by decide +kernel
theorem dX10_ranks_36 : decode cX10_ranks 36 = .ok (.iload_n 3, 1) := by decide +kernel
theorem dX10_ranks_37 : decode cX10_ranks 37 = .ok (.imul, 1) := by decide +kernel
theorem dX10_ranks_38 : decode cX10_ranks 38 = .ok (.iload_n 2, 1) := by decide +kernel
theorem dX10_ranks_39 : decode cX10_ranks 39 = .ok (.iadd, 1) := by decide +kernel
theorem dX10_ranks_40 : decode cX10_ranks 40 = .ok (.iaload, 1) := by decide +kernel
theorem dX10_ranks_41 : decode cX10_ranks 41 = .ok (.ifCond .ne 9, 3) := by decide +kernel
theorem dX10_ranks_44 : decode cX10_ranks 44 = .ok (.iinc 3 1, 3) := by decide +kernel
theorem dX10_ranks_47 : decode cX10_ranks 47 = .ok (.goto (-25), 3) := by decide +kernel
theorem dX10_ranks_50 : decode cX10_ranks 50 = .ok (.iload_n 3, 1) := by decide +kernel
theorem dX10_ranks_51 : decode cX10_ranks 51 = .ok (.aload_n 0, 1) := by decide +kernel
theorem dX10_ranks_52 : decode cX10_ranks 52 = .ok (.getfield 138, 3) := by decide +kernel
theorem dX10_ranks_55 : decode cX10_ranks 55 = .ok (.if_icmp .ne 6, 3) := by decide +kernel
theorem dX10_ranks_58 : decode cX10_ranks 58 = .ok (.goto 86, 3) := by decide +kernel
theorem dX10_ranks_61 : decode cX10_ranks 61 = .ok (.aload_n 0, 1) := by decide +kernel
theorem dX10_ranks_62 : decode cX10_ranks 62 = .ok (.iload_n 1, 1) := by decide +kernel
theorem dX10_ranks_63 : decode cX10_ranks 63 = .ok (.iload_n 3, 1) := by decide +kernel
theorem dX10_ranks_64 : decode cX10_ranks 64 = .ok (.invokevirtual 141, 3) := by decide +kernel
theorem dX10_ranks_67 : decode cX10_ranks 67 = .ok (.iload_n 1, 1) := by decide +kernel
theorem dX10_ranks_68 : decode cX10_ranks 68 = .ok (.iconst 1, 1) := by decide +kernel
theorem dX10_ranks_69 : decode cX10_ranks 69 = .ok (.iadd, 1) := by decide +kernel
theorem dX10_ranks_70 : decode cX10_ranks 70 = .ok (.istore 4, 2) := by decide +kernel
theorem dX10_ranks_72 : decode cX10_ranks 72 = .ok (.iload 4, 2) := by decide +kernel
theorem dX10_ranks_74 : decode cX10_ranks 74 = .ok (.aload_n 0, 1) := by decide +kernel
theorem dX10_ranks_75 : decode cX10_ranks 75 = .ok (.getfield 138, 3) := by decide +kernel
theorem dX10_ranks_78 : decode cX10_ranks 78 = .ok (.if_icmp .ge 63, 3) := by decide +kernel
theorem dX10_ranks_81 : decode cX10_ranks 81 = .ok (.aload_n 0, 1) := by decide +kernel
theorem dX10_ranks_82 : decode cX10_ranks 82 = .ok (.getfield 33, 3) := by decide +kernel
theorem dX10_ranks_85 : decode cX10_ranks 85 = .ok (.bipush 6, 2) := by decide +kernel
theorem dX10_ranks_87 : decode cX10_ranks 87 = .ok (.iload 4, 2) := by decide +kernel
theorem dX10_ranks_89 : decode cX10_ranks 89 = .ok (.imul, 1) := by decide +kernel
theorem dX10_ranks_90 : decode cX10_ranks 90 = .ok (.iload_n 2, 1) := by decide +kernel
theorem dX10_ranks_91 : decode cX10_ranks 91 = .ok (.iadd, 1) := by decide +kernel
theorem dX10_ranks_92 : decode cX10_ranks 92 = .ok (.iaload, 1) := by decide +kernel
theorem dX10_ranks_93 : decode cX10_ranks 93 = .ok (.ifCond .eq 42, 3) := by decide +kernel
theorem dX10_ranks_96 : decode cX10_ranks 96 = .ok (.aload_n 0, 1) := by decide +kernel
theorem dX10_ranks_97 : decode cX10_ranks 97 = .ok (.iload 4, 2) := by decide +kernel
theorem dX10_ranks_99 : decode cX10_ranks 99 = .ok (.iload_n 1, 1) := by decide +kernel
theorem dX10_ranks_100 : decode cX10_ranks 100 = .ok (.aload_n 0, 1) := by decide +kernel
theorem dX10_ranks_101 : decode cX10_ranks 101 = .ok (.getfield 7, 3) := by decide +kernel
theorem dX10_ranks_104 : decode cX10_ranks 104 = .ok (.aload_n 0, 1) := by decide +kernel
theorem dX10_ranks_105 : decode cX10_ranks 105 = .ok (.aload_n 0, 1) := by decide +kernel
theorem dX10_ranks_106 : decode cX10_ranks 106 = .ok (.getfield 33, 3) := by decide +kernel
theorem dX10_ranks_109 : decode cX10_ranks 109 = .ok (.bipush 6, 2) := by decide +kernel
theorem dX10_ranks_111 : decode cX10_ranks 111 = .ok (.iload 4, 2) := by decide +kernel
theorem dX10_ranks_113 : decode cX10_ranks 113 = .ok (.imul, 1) := by decide +kernel
theorem dX10_ranks_114 : decode cX10_ranks 114 = .ok (.iload_n 2, 1) := by decide +kernel
theorem dX10_ranks_115 : decode cX10_ranks 115 = .ok (.iadd, 1) := by decide +kernel
theorem dX10_ranks_116 : decode cX10_ranks 116 = .ok (.iaload, 1) := by decide +kernel
theorem dX10_ranks_117 : decode cX10_ranks 117 = .ok (.aload_n 0, 1) := by decide +kernel
theorem dX10_ranks_118 : decode cX10_ranks 118 = .ok (.getfield 33, 3) := by decide +kernel
theorem dX10_ranks_121 : decode cX10_ranks 121 = .ok (.bipush 6, 2) := by decide +kernel
theorem dX10_ranks_123 : decode cX10_ranks 123 = .ok (.iload_n 1, 1) := by decide +kernel
theorem dX10_ranks_124 : decode cX10_ranks 124 = .ok (.imul, 1) := by decide +kernel
theorem dX10_ranks_125 : decode cX10_ranks 125 = .ok (.iload_n 2, 1) := by decide +kernel
theorem dX10_ranks_126 : decode cX10_ranks 126 = .ok (.iadd, 1) := by decide +kernel
theorem dX10_ranks_127 : decode cX10_ranks 127 = .ok (.iaload, 1) := by decide +kernel
theorem dX10_ranks_128 : decode cX10_ranks 128 = .ok (.invokevirtual 96, 3) := by decide +kernel
theorem dX10_ranks_131 : decode cX10_ranks 131 = .ok (.isub, 1) := by decide +kernel
theorem dX10_ranks_132 : decode cX10_ranks 132 = .ok (.invokevirtual 145, 3) := by decide +kernel
theorem dX10_ranks_135 : decode cX10_ranks 135 = .ok (.iinc 4 1, 3) := by decide +kernel
theorem dX10_ranks_138 : decode cX10_ranks 138 = .ok (.goto (-66), 3) := by decide +kernel
theorem dX10_ranks_141 : decode cX10_ranks 141 = .ok (.iinc 1 1, 3) := by decide +kernel
theorem dX10_ranks_144 : decode cX10_ranks 144 = .ok (.iinc 2 1, 3) := by decide +kernel
theorem dX10_ranks_147 : decode cX10_ranks 147 = .ok (.goto (-143), 3) := by decide +kernel
theorem dX10_ranks_150 : decode cX10_ranks 150 = .ok (.iload_n 1, 1) := by decide +kernel
theorem dX10_ranks_151 : decode cX10_ranks 151 = .ok (.ireturn, 1) := by decide +kernel
theorem dX10_rankOf_0 : decode cX10_rankOf 0 = .ok (.aload_n 0, 1) := by decide +kernel
theorem dX10_rankOf_1 : decode cX10_rankOf 1 = .ok (.iconst 0, 1) := by decide +kernel
theorem dX10_rankOf_2 : decode cX10_rankOf 2 = .ok (.putfield 138, 3) := by decide +kernel
theorem dX10_rankOf_5 : decode cX10_rankOf 5 = .ok (.iconst 0, 1) := by decide +kernel
theorem dX10_rankOf_6 : decode cX10_rankOf 6 = .ok (.istore_n 3, 1) := by decide +kernel
theorem dX10_rankOf_7 : decode cX10_rankOf 7 = .ok (.iload_n 3, 1) := by decide +kernel
theorem dX10_rankOf_8 : decode cX10_rankOf 8 = .ok (.aload_n 0, 1) := by decide +kernel
theorem dX10_rankOf_9 : decode cX10_rankOf 9 = .ok (.getfield 13, 3) := by decide +kernel
theorem dX10_rankOf_12 : decode cX10_rankOf 12 = .ok (.if_icmp .ge 22, 3) := by decide +kernel
theorem dX10_rankOf_15 : decode cX10_rankOf 15 = .ok (.iload_n 2, 1) := by decide +kernel
theorem dX10_rankOf_16 : decode cX10_rankOf 16 = .ok (.iload_n 3, 1) := by decide +kernel
theorem dX10_rankOf_17 : decode cX10_rankOf 17 = .ok (.invokestatic 149, 3) := by decide +kernel
theorem dX10_rankOf_20 : decode cX10_rankOf 20 = .ok (.ifCond .eq 8, 3) := by decide +kernel
theorem dX10_rankOf_23 : decode cX10_rankOf 23 = .ok (.aload_n 0, 1) := by decide +kernel
theorem dX10_rankOf_24 : decode cX10_rankOf 24 = .ok (.iload_n 3, 1) := by decide +kernel
theorem dX10_rankOf_25 : decode cX10_rankOf 25 = .ok (.invokevirtual 153, 3) := by decide +kernel
theorem dX10_rankOf_28 : decode cX10_rankOf 28 = .ok (.iinc 3 1, 3) := by decide +kernel
theorem dX10_rankOf_31 : decode cX10_rankOf 31 = .ok (.goto (-24), 3) := by decide +kernel
theorem dX10_rankOf_34 : decode cX10_rankOf 34 = .ok (.iconst 0, 1) := by decide +kernel
theorem dX10_rankOf_35 : decode cX10_rankOf 35 = .ok (.istore_n 3, 1) := by decide +kernel
theorem dX10_rankOf_36 : decode cX10_rankOf 36 = .ok (.iload_n 3, 1) := by decide +kernel
theorem dX10_rankOf_37 : decode cX10_rankOf 37 = .ok (.aload_n 0, 1) := by decide +kernel
theorem dX10_rankOf_38 : decode cX10_rankOf 38 = .ok (.getfield 75, 3) := by decide +kernel
theorem dX10_rankOf_41 : decode cX10_rankOf 41 = .ok (.if_icmp .ge 29, 3) := by decide +kernel
theorem dX10_rankOf_44 : decode cX10_rankOf 44 = .ok (.iload_n 1, 1) := by decide +kernel
theorem dX10_rankOf_45 : decode cX10_rankOf 45 = .ok (.iload_n 3, 1) := by decide +kernel
theorem dX10_rankOf_46 : decode cX10_rankOf 46 = .ok (.invokestatic 149, 3) := by decide +kernel
theorem dX10_rankOf_49 : decode cX10_rankOf 49 = .ok (.ifCond .eq 15, 3) := by decide +kernel
theorem dX10_rankOf_52 : decode cX10_rankOf 52 = .ok (.aload_n 0, 1) := by decide +kernel
theorem dX10_rankOf_53 : decode cX10_rankOf 53 = .ok (.iload_n 3, 1) := by decide +kernel
theorem dX10_rankOf_54 : decode cX10_rankOf 54 = .ok (.iconst 0, 1) := by decide +kernel
theorem dX10_rankOf_55 : decode cX10_rankOf 55 = .ok (.invokevirtual 157, 3) := by decide +kernel
theorem dX10_rankOf_58 : decode cX10_rankOf 58 = .ok (.aload_n 0, 1) := by decide +kernel
theorem dX10_rankOf_59 : decode cX10_rankOf 59 = .ok (.iload_n 3, 1) := by decide +kernel
theorem dX10_rankOf_60 : decode cX10_rankOf 60 = .ok (.iconst 1, 1) := by decide +kernel
theorem dX10_rankOf_61 : decode cX10_rankOf 61 = .ok (.invokevirtual 157, 3) := by decide +kernel
theorem dX10_rankOf_64 : decode cX10_rankOf 64 = .ok (.iinc 3 1, 3) := by decide +kernel
theorem dX10_rankOf_67 : decode cX10_rankOf 67 = .ok (.goto (-31), 3) := by decide +kernel
theorem dX10_rankOf_70 : decode cX10_rankOf 70 = .ok (.aload_n 0, 1) := by decide +kernel
theorem dX10_rankOf_71 : decode cX10_rankOf 71 = .ok (.invokevirtual 160, 3) := by decide +kernel
theorem dX10_rankOf_74 : decode cX10_rankOf 74 = .ok (.ireturn, 1) := by decide +kernel
theorem dX10_isStanding_0 : decode cX10_isStanding 0 = .ok (.iconst 2, 1) := by decide +kernel
theorem dX10_isStanding_1 : decode cX10_isStanding 1 = .ok (.iload_n 1, 1) := by decide +kernel
theorem dX10_isStanding_2 : decode cX10_isStanding 2 = .ok (.invokestatic 164, 3) := by decide +kernel
theorem dX10_isStanding_5 : decode cX10_isStanding 5 = .ok (.imul, 1) := by decide +kernel
theorem dX10_isStanding_6 : decode cX10_isStanding 6 = .ok (.aload_n 0, 1) := by decide +kernel
theorem dX10_isStanding_7 : decode cX10_isStanding 7 = .ok (.getfield 13, 3) := by decide +kernel
theorem dX10_isStanding_10 : decode cX10_isStanding 10 = .ok (.if_icmp .gt 22, 3) := by decide +kernel
theorem dX10_isStanding_13 : decode cX10_isStanding 13 = .ok (.aload_n 0, 1) := by decide +kernel
theorem dX10_isStanding_14 : decode cX10_isStanding 14 = .ok (.iload_n 1, 1) := by decide +kernel
theorem dX10_isStanding_15 : decode cX10_isStanding 15 = .ok (.iconst 0, 1) := by decide +kernel
theorem dX10_isStanding_16 : decode cX10_isStanding 16 = .ok (.invokevirtual 118, 3) := by decide +kernel
theorem dX10_isStanding_19 : decode cX10_isStanding 19 = .ok (.iconst 2, 1) := by decide +kernel
theorem dX10_isStanding_20 : decode cX10_isStanding 20 = .ok (.iload_n 1, 1) := by decide +kernel
theorem dX10_isStanding_21 : decode cX10_isStanding 21 = .ok (.invokestatic 164, 3) := by decide +kernel
theorem dX10_isStanding_24 : decode cX10_isStanding 24 = .ok (.imul, 1) := by decide +kernel
