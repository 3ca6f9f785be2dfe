theorem dX8_in_0 : decode cX8_in 0 = .ok (.lload_n 0, 1) := by decide +kernel
theorem dX8_in_1 : decode cX8_in 1 = .ok (.lload_n 2, 1) := by decide +kernel
theorem dX8_in_2 : decode cX8_in 2 = .ok (.lcmp, 1) := by decide +kernel
theorem dX8_in_3 : decode cX8_in 3 = .ok (.ifCond .lt 14, 3) := by decide +kernel
theorem dX8_in_6 : decode cX8_in 6 = .ok (.lload_n 0, 1) := by decide +kernel
theorem dX8_in_7 : decode cX8_in 7 = .ok (.lload 4, 2) := by decide +kernel
theorem dX8_in_9 : decode cX8_in 9 = .ok (.lcmp, 1) := by decide +kernel
theorem dX8_in_10 : decode cX8_in 10 = .ok (.ifCond .gt 7, 3) := by decide +kernel
theorem dX8_in_13 : decode cX8_in 13 = .ok (.iconst 1, 1) := by decide +kernel
theorem dX8_in_14 : decode cX8_in 14 = .ok (.goto 4, 3) := by decide +kernel
theorem dX8_in_17 : decode cX8_in 17 = .ok (.iconst 0, 1) := by decide +kernel
theorem dX8_in_18 : decode cX8_in 18 = .ok (.ireturn, 1) := by decide +kernel
theorem dX8_bit_0 : decode cX8_bit 0 = .ok (.iload_n 0, 1) := by decide +kernel
theorem dX8_bit_1 : decode cX8_bit 1 = .ok (.iload_n 1, 1) := by decide +kernel
theorem dX8_bit_2 : decode cX8_bit 2 = .ok (.ishr, 1) := by decide +kernel
theorem dX8_bit_3 : decode cX8_bit 3 = .ok (.iconst 1, 1) := by decide +kernel
theorem dX8_bit_4 : decode cX8_bit 4 = .ok (.iand, 1) := by decide +kernel
theorem dX8_bit_5 : decode cX8_bit 5 = .ok (.iconst 1, 1) := by decide +kernel
theorem dX8_bit_6 : decode cX8_bit 6 = .ok (.if_icmp .ne 7, 3) := by decide +kernel
theorem dX8_bit_9 : decode cX8_bit 9 = .ok (.iconst 1, 1) := by decide +kernel
theorem dX8_bit_10 : decode cX8_bit 10 = .ok (.goto 4, 3) := by decide +kernel
theorem dX8_bit_13 : decode cX8_bit 13 = .ok (.iconst 0, 1) := by decide +kernel
theorem dX8_bit_14 : decode cX8_bit 14 = .ok (.ireturn, 1) := by decide +kernel
theorem dX8_copies_0 : decode cX8_copies 0 = .ok (.iconst 0, 1) := by decide +kernel
theorem dX8_copies_1 : decode cX8_copies 1 = .ok (.istore_n 2, 1) := by decide +kernel
theorem dX8_copies_2 : decode cX8_copies 2 = .ok (.iload_n 2, 1) := by decide +kernel
theorem dX8_copies_3 : decode cX8_copies 3 = .ok (.sipush 346, 3) := by decide +kernel
theorem dX8_copies_6 : decode cX8_copies 6 = .ok (.if_icmp .ge 15, 3) := by decide +kernel
theorem dX8_copies_9 : decode cX8_copies 9 = .ok (.aload_n 1, 1) := by decide +kernel
theorem dX8_copies_10 : decode cX8_copies 10 = .ok (.iload_n 2, 1) := by decide +kernel
theorem dX8_copies_11 : decode cX8_copies 11 = .ok (.aload_n 0, 1) := by decide +kernel
theorem dX8_copies_12 : decode cX8_copies 12 = .ok (.iload_n 2, 1) := by decide +kernel
theorem dX8_copies_13 : decode cX8_copies 13 = .ok (.iaload, 1) := by decide +kernel
theorem dX8_copies_14 : decode cX8_copies 14 = .ok (.iastore, 1) := by decide +kernel
theorem dX8_copies_15 : decode cX8_copies 15 = .ok (.iinc 2 1, 3) := by decide +kernel
theorem dX8_copies_18 : decode cX8_copies 18 = .ok (.goto (-16), 3) := by decide +kernel
theorem dX8_copies_21 : decode cX8_copies 21 = .ok (.return_, 1) := by decide +kernel
theorem dX8_init_0 : decode cX8_init 0 = .ok (.aload_n 0, 1) := by decide +kernel
theorem dX8_init_1 : decode cX8_init 1 = .ok (.invokespecial 5, 3) := by decide +kernel
theorem dX8_init_4 : decode cX8_init 4 = .ok (.aload_n 0, 1) := by decide +kernel
theorem dX8_init_5 : decode cX8_init 5 = .ok (.sipush 346, 3) := by decide +kernel
theorem dX8_init_8 : decode cX8_init 8 = .ok (.newarray .int, 2) := by decide +kernel
theorem dX8_init_10 : decode cX8_init 10 = .ok (.putfield 11, 3) := by decide +kernel
theorem dX8_init_13 : decode cX8_init 13 = .ok (.aload_n 0, 1) := by decide +kernel
theorem dX8_init_14 : decode cX8_init 14 = .ok (.sipush 346, 3) := by decide +kernel
theorem dX8_init_17 : decode cX8_init 17 = .ok (.newarray .int, 2) := by decide +kernel
theorem dX8_init_19 : decode cX8_init 19 = .ok (.putfield 15, 3) := by decide +kernel
theorem dX8_init_22 : decode cX8_init 22 = .ok (.aload_n 0, 1) := by decide +kernel
theorem dX8_init_23 : decode cX8_init 23 = .ok (.sipush 346, 3) := by decide +kernel
theorem dX8_init_26 : decode cX8_init 26 = .ok (.newarray .int, 2) := by decide +kernel
theorem dX8_init_28 : decode cX8_init 28 = .ok (.putfield 18, 3) := by decide +kernel
theorem dX8_init_31 : decode cX8_init 31 = .ok (.aload_n 0, 1) := by decide +kernel
theorem dX8_init_32 : decode cX8_init 32 = .ok (.bipush 100, 2) := by decide +kernel
theorem dX8_init_34 : decode cX8_init 34 = .ok (.newarray .int, 2) := by decide +kernel
theorem dX8_init_36 : decode cX8_init 36 = .ok (.putfield 21, 3) := by decide +kernel
theorem dX8_init_39 : decode cX8_init 39 = .ok (.aload_n 0, 1) := by decide +kernel
theorem dX8_init_40 : decode cX8_init 40 = .ok (.bipush 8, 2) := by decide +kernel
theorem dX8_init_42 : decode cX8_init 42 = .ok (.newarray .int, 2) := by decide +kernel
theorem dX8_init_44 : decode cX8_init 44 = .ok (.putfield 24, 3) := by decide +kernel
theorem dX8_init_47 : decode cX8_init 47 = .ok (.aload_n 0, 1) := by decide +kernel
theorem dX8_init_48 : decode cX8_init 48 = .ok (.bipush 8, 2) := by decide +kernel
theorem dX8_init_50 : decode cX8_init 50 = .ok (.newarray .int, 2) := by decide +kernel
theorem dX8_init_52 : decode cX8_init 52 = .ok (.putfield 27, 3) := by decide +kernel
theorem dX8_init_55 : decode cX8_init 55 = .ok (.aload_n 0, 1) := by decide +kernel
theorem dX8_init_56 : decode cX8_init 56 = .ok (.bipush 8, 2) := by decide +kernel
theorem dX8_init_58 : decode cX8_init 58 = .ok (.newarray .int, 2) := by decide +kernel
theorem dX8_init_60 : decode cX8_init 60 = .ok (.putfield 30, 3) := by decide +kernel
theorem dX8_init_63 : decode cX8_init 63 = .ok (.aload_n 0, 1) := by decide +kernel
theorem dX8_init_64 : decode cX8_init 64 = .ok (.bipush 101, 2) := by decide +kernel
theorem dX8_init_66 : decode cX8_init 66 = .ok (.newarray .int, 2) := by decide +kernel
theorem dX8_init_68 : decode cX8_init 68 = .ok (.putfield 33, 3) := by decide +kernel
theorem dX8_init_71 : decode cX8_init 71 = .ok (.aload_n 0, 1) := by decide +kernel
theorem dX8_init_72 : decode cX8_init 72 = .ok (.bipush 101, 2) := by decide +kernel
theorem dX8_init_74 : decode cX8_init 74 = .ok (.newarray .int, 2) := by decide +kernel
theorem dX8_init_76 : decode cX8_init 76 = .ok (.putfield 36, 3) := by decide +kernel
theorem dX8_init_79 : decode cX8_init 79 = .ok (.aload_n 0, 1) := by decide +kernel
theorem dX8_init_80 : decode cX8_init 80 = .ok (.bipush 101, 2) := by decide +kernel
theorem dX8_init_82 : decode cX8_init 82 = .ok (.newarray .int, 2) := by decide +kernel
theorem dX8_init_84 : decode cX8_init 84 = .ok (.putfield 39, 3) := by decide +kernel
theorem dX8_init_87 : decode cX8_init 87 = .ok (.aload_n 0, 1) := by decide +kernel
theorem dX8_init_88 : decode cX8_init 88 = .ok (.sipush 606, 3) := by decide +kernel
theorem dX8_init_91 : decode cX8_init 91 = .ok (.newarray .int, 2) := by decide +kernel
theorem dX8_init_93 : decode cX8_init 93 = .ok (.putfield 42, 3) := by decide +kernel
theorem dX8_init_96 : decode cX8_init 96 = .ok (.aload_n 0, 1) := by decide +kernel
theorem dX8_init_97 : decode cX8_init 97 = .ok (.bipush 6, 2) := by decide +kernel
theorem dX8_init_99 : decode cX8_init 99 = .ok (.newarray .int, 2) := by decide +kernel
theorem dX8_init_101 : decode cX8_init 101 = .ok (.dup, 1) := by decide +kernel
theorem dX8_init_102 : decode cX8_init 102 = .ok (.iconst 0, 1) := by decide +kernel
theorem dX8_init_103 : decode cX8_init 103 = .ok (.iconst (-1), 1) := by decide +kernel
theorem dX8_init_104 : decode cX8_init 104 = .ok (.iastore, 1) := by decide +kernel
theorem dX8_init_105 : decode cX8_init 105 = .ok (.dup, 1) := by decide +kernel
theorem dX8_init_106 : decode cX8_init 106 = .ok (.iconst 1, 1) := by decide +kernel
theorem dX8_init_107 : decode cX8_init 107 = .ok (.iconst (-1), 1) := by decide +kernel
theorem dX8_init_108 : decode cX8_init 108 = .ok (.iastore, 1) := by decide +kernel
theorem dX8_init_109 : decode cX8_init 109 = .ok (.dup, 1) := by decide +kernel
theorem dX8_init_110 : decode cX8_init 110 = .ok (.iconst 2, 1) := by decide +kernel
theorem dX8_init_111 : decode cX8_init 111 = .ok (.iconst (-1), 1) := by decide +kernel
theorem dX8_init_112 : decode cX8_init 112 = .ok (.iastore, 1) := by decide +kernel
theorem dX8_init_113 : decode cX8_init 113 = .ok (.dup, 1) := by decide +kernel
theorem dX8_init_114 : decode cX8_init 114 = .ok (.iconst 3, 1) := by decide +kernel
theorem dX8_init_115 : decode cX8_init 115 = .ok (.iconst (-1), 1) := by decide +kernel
theorem dX8_init_116 : decode cX8_init 116 = .ok (.iastore, 1) := by decide +kernel
theorem dX8_init_117 : decode cX8_init 117 = .ok (.dup, 1) := by decide +kernel
theorem dX8_init_118 : decode cX8_init 118 = .ok (.iconst 4, 1) := by decide +kernel
theorem dX8_init_119 : decode cX8_init 119 = .ok (.iconst (-1), 1) := by decide +kernel
theorem dX8_init_120 : decode cX8_init 120 = .ok (.iastore, 1) := by decide +kernel
theorem dX8_init_121 : decode cX8_init 121 = .ok (.dup, 1) := by decide +kernel
theorem dX8_init_122 : decode cX8_init 122 = .ok (.iconst 5, 1) := by decide +kernel
theorem dX8_init_123 : decode cX8_init 123 = .ok (.iconst (-1), 1) := by decide +kernel
theorem dX8_init_124 : decode cX8_init 124 = .ok (.iastore, 1) := by decide +kernel
theorem dX8_init_125 : decode cX8_init 125 = .ok (.putfield 45, 3) := by decide +kernel
theorem dX8_init_128 : decode cX8_init 128 = .ok (.aload_n 0, 1) := by decide +kernel
theorem dX8_init_129 : decode cX8_init 129 = .ok (.bipush 6, 2) := by decide +kernel
theorem dX8_init_131 : decode cX8_init 131 = .ok (.newarray .int, 2) := by decide +kernel
theorem dX8_init_133 : decode cX8_init 133 = .ok (.putfield 48, 3) := by decide +kernel
theorem dX8_init_136 : decode cX8_init 136 = .ok (.aload_n 0, 1) := by decide +kernel
theorem dX8_init_137 : decode cX8_init 137 = .ok (.sipush 360, 3) := by decide +kernel
theorem dX8_init_140 : decode cX8_init 140 = .ok (.newarray .long, 2) := by decide +kernel
theorem dX8_init_142 : decode cX8_init 142 = .ok (.putfield 51, 3) := by decide +kernel
theorem dX8_init_145 : decode cX8_init 145 = .ok (.iconst 0, 1) := by decide +kernel
theorem dX8_init_146 : decode cX8_init 146 = .ok (.istore_n 1, 1) := by decide +kernel
theorem dX8_init_147 : decode cX8_init 147 = .ok (.iload_n 1, 1) := by decide +kernel
theorem dX8_init_148 : decode cX8_init 148 = .ok (.iconst 4, 1) := by decide +kernel
theorem dX8_init_149 : decode cX8_init 149 = .ok (.if_icmp .ge 20, 3) := by decide +kernel
theorem dX8_init_152 : decode cX8_init 152 = .ok (.aload_n 0, 1) := by decide +kernel
theorem dX8_init_153 : decode cX8_init 153 = .ok (.getfield 11, 3) := by decide +kernel
theorem dX8_init_156 : decode cX8_init 156 = .ok (.bipush 16, 2) := by decide +kernel
theorem dX8_init_158 : decode cX8_init 158 = .ok (.iload_n 1, 1) := by decide +kernel
theorem dX8_init_159 : decode cX8_init 159 = .ok (.iadd, 1) := by decide +kernel
theorem dX8_init_160 : decode cX8_init 160 = .ok (.bipush (-5), 2) := by decide +kernel
theorem dX8_init_162 : decode cX8_init 162 = .ok (.iastore, 1) := by decide +kernel
theorem dX8_init_163 : decode cX8_init 163 = .ok (.iinc 1 1, 3) := by decide +kernel
theorem dX8_init_166 : decode cX8_init 166 = .ok (.goto (-19), 3) := by decide +kernel
theorem dX8_init_169 : decode cX8_init 169 = .ok (.aload_n 0, 1) := by decide +kernel
theorem dX8_init_170 : decode cX8_init 170 = .ok (.getfield 11, 3) := by decide +kernel
theorem dX8_init_173 : decode cX8_init 173 = .ok (.iconst 4, 1) := by decide +kernel
theorem dX8_init_174 : decode cX8_init 174 = .ok (.bipush (-5), 2) := by decide +kernel
theorem dX8_init_176 : decode cX8_init 176 = .ok (.iastore, 1) := by decide +kernel
theorem dX8_init_177 : decode cX8_init 177 = .ok (.return_, 1) := by decide +kernel
theorem dX8_isThere_0 : decode cX8_isThere 0 = .ok (.iload_n 1, 1) := by decide +kernel
theorem dX8_isThere_1 : decode cX8_isThere 1 = .ok (.i2l, 1) := by decide +kernel
theorem dX8_isThere_2 : decode cX8_isThere 2 = .ok (.lconst 0, 1) := by decide +kernel
theorem dX8_isThere_3 : decode cX8_isThere 3 = .ok (.ldc2_w 55, 3) := by decide +kernel
theorem dX8_isThere_6 : decode cX8_isThere 6 = .ok (.invokestatic 57, 3) := by decide +kernel
theorem dX8_isThere_9 : decode cX8_isThere 9 = .ok (.ifCond .eq 20, 3) := by decide +kernel
theorem dX8_isThere_12 : decode cX8_isThere 12 = .ok (.aload_n 0, 1) := by decide +kernel
theorem dX8_isThere_13 : decode cX8_isThere 13 = .ok (.getfield 11, 3) := by decide +kernel
theorem dX8_isThere_16 : decode cX8_isThere 16 = .ok (.iconst 1, 1) := by decide +kernel
theorem dX8_isThere_17 : decode cX8_isThere 17 = .ok (.iaload, 1) := by decide +kernel
theorem dX8_isThere_18 : decode cX8_isThere 18 = .ok (.iload_n 1, 1) := by decide +kernel
theorem dX8_isThere_19 : decode cX8_isThere 19 = .ok (.invokestatic 61, 3) := by decide +kernel
theorem dX8_isThere_22 : decode cX8_isThere 22 = .ok (.ifCond .eq 7, 3) := by decide +kernel
theorem dX8_isThere_25 : decode cX8_isThere 25 = .ok (.iconst 1, 1) := by decide +kernel
theorem dX8_isThere_26 : decode cX8_isThere 26 = .ok (.goto 4, 3) := by decide +kernel
theorem dX8_isThere_29 : decode cX8_isThere 29 = .ok (.iconst 0, 1) := by decide +kernel
theorem dX8_isThere_30 : decode cX8_isThere 30 = .ok (.ireturn, 1) := by decide +kernel
theorem dX8_isField_0 : decode cX8_isField 0 = .ok (.aload_n 0, 1) := by decide +kernel
theorem dX8_isField_1 : decode cX8_isField 1 = .ok (.iload_n 1, 1) := by decide +kernel
theorem dX8_isField_2 : decode cX8_isField 2 = .ok (.invokevirtual 65, 3) := by decide +kernel
theorem dX8_isField_5 : decode cX8_isField 5 = .ok (.ifCond .eq 28, 3) := by decide +kernel
theorem dX8_isField_8 : decode cX8_isField 8 = .ok (.iload_n 2, 1) := by decide +kernel
theorem dX8_isField_9 : decode cX8_isField 9 = .ok (.i2l, 1) := by decide +kernel
theorem dX8_isField_10 : decode cX8_isField 10 = .ok (.lconst 0, 1) := by decide +kernel
theorem dX8_isField_11 : decode cX8_isField 11 = .ok (.aload_n 0, 1) := by decide +kernel
theorem dX8_isField_12 : decode cX8_isField 12 = .ok (.getfield 11, 3) := by decide +kernel
theorem dX8_isField_15 : decode cX8_isField 15 = .ok (.bipush 68, 2) := by decide +kernel
theorem dX8_isField_17 : decode cX8_isField 17 = .ok (.iload_n 1, 1) := by decide +kernel
theorem dX8_isField_18 : decode cX8_isField 18 = .ok (.iadd, 1) := by decide +kernel
theorem dX8_isField_19 : decode cX8_isField 19 = .ok (.iaload, 1) := by decide +kernel
theorem dX8_isField_20 : decode cX8_isField 20 = .ok (.iconst 1, 1) := by decide +kernel
theorem dX8_isField_21 : decode cX8_isField 21 = .ok (.isub, 1) := by decide +kernel
theorem dX8_isField_22 : decode cX8_isField 22 = .ok (.i2l, 1) := by decide +kernel
theorem dX8_isField_23 : decode cX8_isField 23 = .ok (.invokestatic 57, 3) := by decide +kernel
theorem dX8_isField_26 : decode cX8_isField 26 = .ok (.ifCond .eq 7, 3) := by decide +kernel
theorem dX8_isField_29 : decode cX8_isField 29 = .ok (.iconst 1, 1) := by decide +kernel
theorem dX8_isField_30 : decode cX8_isField 30 = .ok (.goto 4, 3) := by decide +kernel
theorem dX8_isField_33 : decode cX8_isField 33 = .ok (.iconst 0, 1) := by decide +kernel
theorem dX8_isField_34 : decode cX8_isField 34 = .ok (.ireturn, 1) := by decide +kernel
theorem dX8_comes_0 : decode cX8_comes 0 = .ok (.aload_n 0, 1) := by decide +kernel
theorem dX8_comes_1 : decode cX8_comes 1 = .ok (.iconst 0, 1) := by decide +kernel
theorem dX8_comes_2 : decode cX8_comes 2 = .ok (.iaload, 1) := by decide +kernel
theorem dX8_comes_3 : decode cX8_comes 3 = .ok (.istore 4, 2) := by decide +kernel
theorem dX8_comes_5 : decode cX8_comes 5 = .ok (.aload_n 0, 1) := by decide +kernel
theorem dX8_comes_6 : decode cX8_comes 6 = .ok (.bipush 20, 2) := by decide +kernel
theorem dX8_comes_8 : decode cX8_comes 8 = .ok (.iload 4, 2) := by decide +kernel
theorem dX8_comes_10 : decode cX8_comes 10 = .ok (.iadd, 1) := by decide +kernel
theorem dX8_comes_11 : decode cX8_comes 11 = .ok (.iload_n 1, 1) := by decide +kernel
theorem dX8_comes_12 : decode cX8_comes 12 = .ok (.iastore, 1) := by decide +kernel
theorem dX8_comes_13 : decode cX8_comes 13 = .ok (.aload_n 0, 1) := by decide +kernel
theorem dX8_comes_14 : decode cX8_comes 14 = .ok (.bipush 44, 2) := by decide +kernel
theorem dX8_comes_16 : decode cX8_comes 16 = .ok (.iload 4, 2) := by decide +kernel
theorem dX8_comes_18 : decode cX8_comes 18 = .ok (.iadd, 1) := by decide +kernel
theorem dX8_comes_19 : decode cX8_comes 19 = .ok (.iload_n 2, 1) := by decide +kernel
theorem dX8_comes_20 : decode cX8_comes 20 = .ok (.iastore, 1) := by decide +kernel
theorem dX8_comes_21 : decode cX8_comes 21 = .ok (.aload_n 0, 1) := by decide +kernel
theorem dX8_comes_22 : decode cX8_comes 22 = .ok (.bipush 68, 2) := by decide +kernel
theorem dX8_comes_24 : decode cX8_comes 24 = .ok (.iload 4, 2) := by decide +kernel
theorem dX8_comes_26 : decode cX8_comes 26 = .ok (.iadd, 1) := by decide +kernel
theorem dX8_comes_27 : decode cX8_comes 27 = .ok (.iload_n 3, 1) := by decide +kernel
theorem dX8_comes_28 : decode cX8_comes 28 = .ok (.iastore, 1) := by decide +kernel
theorem dX8_comes_29 : decode cX8_comes 29 = .ok (.aload_n 0, 1) := by decide +kernel
theorem dX8_comes_30 : decode cX8_comes 30 = .ok (.bipush 92, 2) := by decide +kernel
theorem dX8_comes_32 : decode cX8_comes 32 = .ok (.iload 4, 2) := by decide +kernel
theorem dX8_comes_34 : decode cX8_comes 34 = .ok (.iadd, 1) := by decide +kernel
theorem dX8_comes_35 : decode cX8_comes 35 = .ok (.iconst 0, 1) := by decide +kernel
theorem dX8_comes_36 : decode cX8_comes 36 = .ok (.iastore, 1) := by decide +kernel
theorem dX8_comes_37 : decode cX8_comes 37 = .ok (.iconst 0, 1) := by decide +kernel
theorem dX8_comes_38 : decode cX8_comes 38 = .ok (.istore 5, 2) := by decide +kernel
theorem dX8_comes_40 : decode cX8_comes 40 = .ok (.iload 5, 2) := by decide +kernel
theorem dX8_comes_42 : decode cX8_comes 42 = .ok (.bipush 6, 2) := by decide +kernel
theorem dX8_comes_44 : decode cX8_comes 44 = .ok (.if_icmp .ge 25, 3) := by decide +kernel
theorem dX8_comes_47 : decode cX8_comes 47 = .ok (.aload_n 0, 1) := by decide +kernel
theorem dX8_comes_48 : decode cX8_comes 48 = .ok (.sipush 140, 3) := by decide +kernel
theorem dX8_comes_51 : decode cX8_comes 51 = .ok (.bipush 6, 2) := by decide +kernel
theorem dX8_comes_53 : decode cX8_comes 53 = .ok (.iload 4, 2) := by decide +kernel
theorem dX8_comes_55 : decode cX8_comes 55 = .ok (.imul, 1) := by decide +kernel
theorem dX8_comes_56 : decode cX8_comes 56 = .ok (.iadd, 1) := by decide +kernel
theorem dX8_comes_57 : decode cX8_comes 57 = .ok (.iload 5, 2) := by decide +kernel
theorem dX8_comes_59 : decode cX8_comes 59 = .ok (.iadd, 1) := by decide +kernel
theorem dX8_comes_60 : decode cX8_comes 60 = .ok (.bipush (-5), 2) := by decide +kernel
theorem dX8_comes_62 : decode cX8_comes 62 = .ok (.iastore, 1) := by decide +kernel
theorem dX8_comes_63 : decode cX8_comes 63 = .ok (.iinc 5 1, 3) := by decide +kernel
theorem dX8_comes_66 : decode cX8_comes 66 = .ok (.goto (-26), 3) := by decide +kernel
theorem dX8_comes_69 : decode cX8_comes 69 = .ok (.aload_n 0, 1) := by decide +kernel
theorem dX8_comes_70 : decode cX8_comes 70 = .ok (.iconst 1, 1) := by decide +kernel
theorem dX8_comes_71 : decode cX8_comes 71 = .ok (.dup2, 1) := by decide +kernel
theorem dX8_comes_72 : decode cX8_comes 72 = .ok (.iaload, 1) := by decide +kernel
theorem dX8_comes_73 : decode cX8_comes 73 = .ok (.iconst 1, 1) := by decide +kernel
theorem dX8_comes_74 : decode cX8_comes 74 = .ok (.iload 4, 2) := by decide +kernel
theorem dX8_comes_76 : decode cX8_comes 76 = .ok (.ishl, 1) := by decide +kernel
theorem dX8_comes_77 : decode cX8_comes 77 = .ok (.ior, 1) := by decide +kernel
theorem dX8_comes_78 : decode cX8_comes 78 = .ok (.iastore, 1) := by decide +kernel
theorem dX8_comes_79 : decode cX8_comes 79 = .ok (.aload_n 0, 1) := by decide +kernel
theorem dX8_comes_80 : decode cX8_comes 80 = .ok (.bipush 12, 2) := by decide +kernel
theorem dX8_comes_82 : decode cX8_comes 82 = .ok (.dup2, 1) := by decide +kernel
theorem dX8_comes_83 : decode cX8_comes 83 = .ok (.iaload, 1) := by decide +kernel
theorem dX8_comes_84 : decode cX8_comes 84 = .ok (.iconst 1, 1) := by decide +kernel
theorem dX8_comes_85 : decode cX8_comes 85 = .ok (.iload 4, 2) := by decide +kernel
theorem dX8_comes_87 : decode cX8_comes 87 = .ok (.ishl, 1) := by decide +kernel
theorem dX8_comes_88 : decode cX8_comes 88 = .ok (.iconst (-1), 1) := by decide +kernel
theorem dX8_comes_89 : decode cX8_comes 89 = .ok (.ixor, 1) := by decide +kernel
theorem dX8_comes_90 : decode cX8_comes 90 = .ok (.iand, 1) := by decide +kernel
theorem dX8_comes_91 : decode cX8_comes 91 = .ok (.iastore, 1) := by decide +kernel
theorem dX8_comes_92 : decode cX8_comes 92 = .ok (.aload_n 0, 1) := by decide +kernel
theorem dX8_comes_93 : decode cX8_comes 93 = .ok (.bipush 13, 2) := by decide +kernel
theorem dX8_comes_95 : decode cX8_comes 95 = .ok (.dup2, 1) := by decide +kernel
theorem dX8_comes_96 : decode cX8_comes 96 = .ok (.iaload, 1) := by decide +kernel
theorem dX8_comes_97 : decode cX8_comes 97 = .ok (.iconst 1, 1) := by decide +kernel
theorem dX8_comes_98 : decode cX8_comes 98 = .ok (.iload 4, 2) := by decide +kernel
theorem dX8_comes_100 : decode cX8_comes 100 = .ok (.ishl, 1) := by decide +kernel
theorem dX8_comes_101 : decode cX8_comes 101 = .ok (.iconst (-1), 1) := by decide +kernel
theorem dX8_comes_102 : decode cX8_comes 102 = .ok (.ixor, 1) := by decide +kernel
theorem dX8_comes_103 : decode cX8_comes 103 = .ok (.iand, 1) := by decide +kernel
theorem dX8_comes_104 : decode cX8_comes 104 = .ok (.iastore, 1) := by decide +kernel
theorem dX8_comes_105 : decode cX8_comes 105 = .ok (.aload_n 0, 1) := by decide +kernel
theorem dX8_comes_106 : decode cX8_comes 106 = .ok (.bipush 14, 2) := by decide +kernel
theorem dX8_comes_108 : decode cX8_comes 108 = .ok (.dup2, 1) := by decide +kernel
theorem dX8_comes_109 : decode cX8_comes 109 = .ok (.iaload, 1) := by decide +kernel
theorem dX8_comes_110 : decode cX8_comes 110 = .ok (.iconst 1, 1) := by decide +kernel
theorem dX8_comes_111 : decode cX8_comes 111 = .ok (.iload 4, 2) := by decide +kernel
theorem dX8_comes_113 : decode cX8_comes 113 = .ok (.ishl, 1) := by decide +kernel
theorem dX8_comes_114 : decode cX8_comes 114 = .ok (.iconst (-1), 1) := by decide +kernel
theorem dX8_comes_115 : decode cX8_comes 115 = .ok (.ixor, 1) := by decide +kernel
theorem dX8_comes_116 : decode cX8_comes 116 = .ok (.iand, 1) := by decide +kernel
theorem dX8_comes_117 : decode cX8_comes 117 = .ok (.iastore, 1) := by decide +kernel
theorem dX8_comes_118 : decode cX8_comes 118 = .ok (.aload_n 0, 1) := by decide +kernel
theorem dX8_comes_119 : decode cX8_comes 119 = .ok (.iconst 0, 1) := by decide +kernel
theorem dX8_comes_120 : decode cX8_comes 120 = .ok (.iload 4, 2) := by decide +kernel
theorem dX8_comes_122 : decode cX8_comes 122 = .ok (.iconst 1, 1) := by decide +kernel
theorem dX8_comes_123 : decode cX8_comes 123 = .ok (.iadd, 1) := by decide +kernel
theorem dX8_comes_124 : decode cX8_comes 124 = .ok (.iastore, 1) := by decide +kernel
theorem dX8_comes_125 : decode cX8_comes 125 = .ok (.aload_n 0, 1) := by decide +kernel
theorem dX8_comes_126 : decode cX8_comes 126 = .ok (.bipush 15, 2) := by decide +kernel
theorem dX8_comes_128 : decode cX8_comes 128 = .ok (.iconst 0, 1) := by decide +kernel
theorem dX8_comes_129 : decode cX8_comes 129 = .ok (.iastore, 1) := by decide +kernel
theorem dX8_comes_130 : decode cX8_comes 130 = .ok (.iload 4, 2) := by decide +kernel
theorem dX8_comes_132 : decode cX8_comes 132 = .ok (.ireturn, 1) := by decide +kernel
theorem dX8_manyOf_0 : decode cX8_manyOf 0 = .ok (.iload_n 0, 1) := by decide +kernel
theorem dX8_manyOf_1 : decode cX8_manyOf 1 = .ok (.ifCond .ne 7, 3) := by decide +kernel
theorem dX8_manyOf_4 : decode cX8_manyOf 4 = .ok (.iconst 0, 1) := by decide +kernel
theorem dX8_manyOf_5 : decode cX8_manyOf 5 = .ok (.goto 33, 3) := by decide +kernel
theorem dX8_manyOf_8 : decode cX8_manyOf 8 = .ok (.iload_n 0, 1) := by decide +kernel
theorem dX8_manyOf_9 : decode cX8_manyOf 9 = .ok (.iconst 1, 1) := by decide +kernel
theorem dX8_manyOf_10 : decode cX8_manyOf 10 = .ok (.if_icmp .eq 9, 3) := by decide +kernel
theorem dX8_manyOf_13 : decode cX8_manyOf 13 = .ok (.iload_n 0, 1) := by decide +kernel
theorem dX8_manyOf_14 : decode cX8_manyOf 14 = .ok (.bipush 6, 2) := by decide +kernel
theorem dX8_manyOf_16 : decode cX8_manyOf 16 = .ok (.if_icmp .ne 7, 3) := by decide +kernel
theorem dX8_manyOf_19 : decode cX8_manyOf 19 = .ok (.iconst 2, 1) := by decide +kernel
theorem dX8_manyOf_20 : decode cX8_manyOf 20 = .ok (.goto 18, 3) := by decide +kernel
theorem dX8_manyOf_23 : decode cX8_manyOf 23 = .ok (.iload_n 0, 1) := by decide +kernel
theorem dX8_manyOf_24 : decode cX8_manyOf 24 = .ok (.iconst 2, 1) := by decide +kernel
theorem dX8_manyOf_25 : decode cX8_manyOf 25 = .ok (.if_icmp .eq 8, 3) := by decide +kernel
theorem dX8_manyOf_28 : decode cX8_manyOf 28 = .ok (.iload_n 0, 1) := by decide +kernel
theorem dX8_manyOf_29 : decode cX8_manyOf 29 = .ok (.iconst 5, 1) := by decide +kernel
theorem dX8_manyOf_30 : decode cX8_manyOf 30 = .ok (.if_icmp .ne 7, 3) := by decide +kernel
theorem dX8_manyOf_33 : decode cX8_manyOf 33 = .ok (.iload_n 1, 1) := by decide +kernel
theorem dX8_manyOf_34 : decode cX8_manyOf 34 = .ok (.goto 4, 3) := by decide +kernel
theorem dX8_manyOf_37 : decode cX8_manyOf 37 = .ok (.iconst 1, 1) := by decide +kernel
theorem dX8_manyOf_38 : decode cX8_manyOf 38 = .ok (.ireturn, 1) := by decide +kernel
theorem dX8_cell_0 : decode cX8_cell 0 = .ok (.iload_n 1, 1) := by decide +kernel
theorem dX8_cell_1 : decode cX8_cell 1 = .ok (.i2l, 1) := by decide +kernel
theorem dX8_cell_2 : decode cX8_cell 2 = .ok (.lconst 0, 1) := by decide +kernel
theorem dX8_cell_3 : decode cX8_cell 3 = .ok (.ldc2_w 69, 3) := by decide +kernel
theorem dX8_cell_6 : decode cX8_cell 6 = .ok (.invokestatic 57, 3) := by decide +kernel
theorem dX8_cell_9 : decode cX8_cell 9 = .ok (.ifCond .ne 5, 3) := by decide +kernel
theorem dX8_cell_12 : decode cX8_cell 12 = .ok (.iconst (-1), 1) := by decide +kernel
theorem dX8_cell_13 : decode cX8_cell 13 = .ok (.ireturn, 1) := by decide +kernel
theorem dX8_cell_14 : decode cX8_cell 14 = .ok (.iload_n 2, 1) := by decide +kernel
theorem dX8_cell_15 : decode cX8_cell 15 = .ok (.i2l, 1) := by decide +kernel
theorem dX8_cell_16 : decode cX8_cell 16 = .ok (.lconst 0, 1) := by decide +kernel
theorem dX8_cell_17 : decode cX8_cell 17 = .ok (.ldc2_w 71, 3) := by decide +kernel
theorem dX8_cell_20 : decode cX8_cell 20 = .ok (.invokestatic 57, 3) := by decide +kernel
theorem dX8_cell_23 : decode cX8_cell 23 = .ok (.ifCond .eq 25, 3) := by decide +kernel
theorem dX8_cell_26 : decode cX8_cell 26 = .ok (.iload_n 1, 1) := by decide +kernel
theorem dX8_cell_27 : decode cX8_cell 27 = .ok (.iconst 2, 1) := by decide +kernel
theorem dX8_cell_28 : decode cX8_cell 28 = .ok (.if_icmp .eq 8, 3) := by decide +kernel
theorem dX8_cell_31 : decode cX8_cell 31 = .ok (.iload_n 1, 1) := by decide +kernel
theorem dX8_cell_32 : decode cX8_cell 32 = .ok (.iconst 5, 1) := by decide +kernel
theorem dX8_cell_33 : decode cX8_cell 33 = .ok (.if_icmp .ne 18, 3) := by decide +kernel
theorem dX8_cell_36 : decode cX8_cell 36 = .ok (.iload_n 3, 1) := by decide +kernel
theorem dX8_cell_37 : decode cX8_cell 37 = .ok (.i2l, 1) := by decide +kernel
theorem dX8_cell_38 : decode cX8_cell 38 = .ok (.lconst 0, 1) := by decide +kernel
theorem dX8_cell_39 : decode cX8_cell 39 = .ok (.ldc2_w 69, 3) := by decide +kernel
theorem dX8_cell_42 : decode cX8_cell 42 = .ok (.invokestatic 57, 3) := by decide +kernel
theorem dX8_cell_45 : decode cX8_cell 45 = .ok (.ifCond .ne 6, 3) := by decide +kernel
theorem dX8_cell_48 : decode cX8_cell 48 = .ok (.bipush (-2), 2) := by decide +kernel
theorem dX8_cell_50 : decode cX8_cell 50 = .ok (.ireturn, 1) := by decide +kernel
theorem dX8_cell_51 : decode cX8_cell 51 = .ok (.aload_n 0, 1) := by decide +kernel
theorem dX8_cell_52 : decode cX8_cell 52 = .ok (.getfield 11, 3) := by decide +kernel
theorem dX8_cell_55 : decode cX8_cell 55 = .ok (.iconst 2, 1) := by decide +kernel
theorem dX8_cell_56 : decode cX8_cell 56 = .ok (.iaload, 1) := by decide +kernel
theorem dX8_cell_57 : decode cX8_cell 57 = .ok (.iconst 1, 1) := by decide +kernel
theorem dX8_cell_58 : decode cX8_cell 58 = .ok (.if_icmp .ne 6, 3) := by decide +kernel
theorem dX8_cell_61 : decode cX8_cell 61 = .ok (.bipush (-3), 2) := by decide +kernel
theorem dX8_cell_63 : decode cX8_cell 63 = .ok (.ireturn, 1) := by decide +kernel
theorem dX8_cell_64 : decode cX8_cell 64 = .ok (.aload_n 0, 1) := by decide +kernel
theorem dX8_cell_65 : decode cX8_cell 65 = .ok (.getfield 11, 3) := by decide +kernel
theorem dX8_cell_68 : decode cX8_cell 68 = .ok (.iconst 0, 1) := by decide +kernel
theorem dX8_cell_69 : decode cX8_cell 69 = .ok (.iaload, 1) := by decide +kernel
theorem dX8_cell_70 : decode cX8_cell 70 = .ok (.bipush 24, 2) := by decide +kernel
theorem dX8_cell_72 : decode cX8_cell 72 = .ok (.if_icmp .ne 8, 3) := by decide +kernel
theorem dX8_cell_75 : decode cX8_cell 75 = .ok (.bipush (-4), 2) := by decide +kernel
theorem dX8_cell_77 : decode cX8_cell 77 = .ok (.goto 17, 3) := by decide +kernel
theorem dX8_cell_80 : decode cX8_cell 80 = .ok (.aload_n 0, 1) := by decide +kernel
theorem dX8_cell_81 : decode cX8_cell 81 = .ok (.getfield 11, 3) := by decide +kernel
theorem dX8_cell_84 : decode cX8_cell 84 = .ok (.iload_n 1, 1) := by decide +kernel
theorem dX8_cell_85 : decode cX8_cell 85 = .ok (.iload_n 2, 1) := by decide +kernel
theorem dX8_cell_86 : decode cX8_cell 86 = .ok (.iload_n 1, 1) := by decide +kernel
theorem dX8_cell_87 : decode cX8_cell 87 = .ok (.iload_n 3, 1) := by decide +kernel
theorem dX8_cell_88 : decode cX8_cell 88 = .ok (.invokestatic 73, 3) := by decide +kernel
theorem dX8_cell_91 : decode cX8_cell 91 = .ok (.invokestatic 77, 3) := by decide +kernel
theorem dX8_cell_94 : decode cX8_cell 94 = .ok (.ireturn, 1) := by decide +kernel
theorem dX8_isFollowed_0 : decode cX8_isFollowed 0 = .ok (.aload_n 0, 1) := by decide +kernel
theorem dX8_isFollowed_1 : decode cX8_isFollowed 1 = .ok (.bipush 20, 2) := by decide +kernel
theorem dX8_isFollowed_3 : decode cX8_isFollowed 3 = .ok (.iload_n 1, 1) := by decide +kernel
theorem dX8_isFollowed_4 : decode cX8_isFollowed 4 = .ok (.iadd, 1) := by decide +kernel
theorem dX8_isFollowed_5 : decode cX8_isFollowed 5 = .ok (.iaload, 1) := by decide +kernel
theorem dX8_isFollowed_6 : decode cX8_isFollowed 6 = .ok (.istore_n 3, 1) := by decide +kernel
theorem dX8_isFollowed_7 : decode cX8_isFollowed 7 = .ok (.iload_n 3, 1) := by decide +kernel
theorem dX8_isFollowed_8 : decode cX8_isFollowed 8 = .ok (.iconst 4, 1) := by decide +kernel
theorem dX8_isFollowed_9 : decode cX8_isFollowed 9 = .ok (.if_icmp .eq 41, 3) := by decide +kernel
theorem dX8_isFollowed_12 : decode cX8_isFollowed 12 = .ok (.iload_n 3, 1) := by decide +kernel
theorem dX8_isFollowed_13 : decode cX8_isFollowed 13 = .ok (.iconst 5, 1) := by decide +kernel
theorem dX8_isFollowed_14 : decode cX8_isFollowed 14 = .ok (.if_icmp .ne 10, 3) := by decide +kernel
theorem dX8_isFollowed_17 : decode cX8_isFollowed 17 = .ok (.iload_n 2, 1) := by decide +kernel
theorem dX8_isFollowed_18 : decode cX8_isFollowed 18 = .ok (.iconst 2, 1) := by decide +kernel
theorem dX8_isFollowed_19 : decode cX8_isFollowed 19 = .ok (.irem, 1) := by decide +kernel
theorem dX8_isFollowed_20 : decode cX8_isFollowed 20 = .ok (.iconst 1, 1) := by decide +kernel
theorem dX8_isFollowed_21 : decode cX8_isFollowed 21 = .ok (.if_icmp .ne 29, 3) := by decide +kernel
theorem dX8_isFollowed_24 : decode cX8_isFollowed 24 = .ok (.iload_n 3, 1) := by decide +kernel
theorem dX8_isFollowed_25 : decode cX8_isFollowed 25 = .ok (.bipush 6, 2) := by decide +kernel
theorem dX8_isFollowed_27 : decode cX8_isFollowed 27 = .ok (.if_icmp .ne 19, 3) := by decide +kernel
theorem dX8_isFollowed_30 : decode cX8_isFollowed 30 = .ok (.iload_n 2, 1) := by decide +kernel
theorem dX8_isFollowed_31 : decode cX8_isFollowed 31 = .ok (.ifCond .eq 15, 3) := by decide +kernel
theorem dX8_isFollowed_34 : decode cX8_isFollowed 34 = .ok (.aload_n 0, 1) := by decide +kernel
theorem dX8_isFollowed_35 : decode cX8_isFollowed 35 = .ok (.bipush 44, 2) := by decide +kernel
theorem dX8_isFollowed_37 : decode cX8_isFollowed 37 = .ok (.iload_n 1, 1) := by decide +kernel
theorem dX8_isFollowed_38 : decode cX8_isFollowed 38 = .ok (.iadd, 1) := by decide +kernel
theorem dX8_isFollowed_39 : decode cX8_isFollowed 39 = .ok (.iaload, 1) := by decide +kernel
theorem dX8_isFollowed_40 : decode cX8_isFollowed 40 = .ok (.iconst 2, 1) := by decide +kernel
theorem dX8_isFollowed_41 : decode cX8_isFollowed 41 = .ok (.irem, 1) := by decide +kernel
theorem dX8_isFollowed_42 : decode cX8_isFollowed 42 = .ok (.iconst 1, 1) := by decide +kernel
theorem dX8_isFollowed_43 : decode cX8_isFollowed 43 = .ok (.if_icmp .ne 7, 3) := by decide +kernel
theorem dX8_isFollowed_46 : decode cX8_isFollowed 46 = .ok (.iconst 1, 1) := by decide +kernel
theorem dX8_isFollowed_47 : decode cX8_isFollowed 47 = .ok (.goto 4, 3) := by decide +kernel
theorem dX8_isFollowed_50 : decode cX8_isFollowed 50 = .ok (.iconst 0, 1) := by decide +kernel
theorem dX8_isFollowed_51 : decode cX8_isFollowed 51 = .ok (.ireturn, 1) := by decide +kernel
theorem dX8_leads_0 : decode cX8_leads 0 = .ok (.aload_n 0, 1) := by decide +kernel
theorem dX8_leads_1 : decode cX8_leads 1 = .ok (.iload_n 1, 1) := by decide +kernel
theorem dX8_leads_2 : decode cX8_leads 2 = .ok (.iload_n 2, 1) := by decide +kernel
theorem dX8_leads_3 : decode cX8_leads 3 = .ok (.invokestatic 81, 3) := by decide +kernel
theorem dX8_leads_6 : decode cX8_leads 6 = .ok (.ifCond .eq 18, 3) := by decide +kernel
theorem dX8_leads_9 : decode cX8_leads 9 = .ok (.aload_n 0, 1) := by decide +kernel
theorem dX8_leads_10 : decode cX8_leads 10 = .ok (.sipush 140, 3) := by decide +kernel
theorem dX8_leads_13 : decode cX8_leads 13 = .ok (.bipush 6, 2) := by decide +kernel
theorem dX8_leads_15 : decode cX8_leads 15 = .ok (.iload_n 1, 1) := by decide +kernel
theorem dX8_leads_16 : decode cX8_leads 16 = .ok (.imul, 1) := by decide +kernel
theorem dX8_leads_17 : decode cX8_leads 17 = .ok (.iadd, 1) := by decide +kernel
theorem dX8_leads_18 : decode cX8_leads 18 = .ok (.iload_n 2, 1) := by decide +kernel
theorem dX8_leads_19 : decode cX8_leads 19 = .ok (.iadd, 1) := by decide +kernel
theorem dX8_leads_20 : decode cX8_leads 20 = .ok (.iaload, 1) := by decide +kernel
theorem dX8_leads_21 : decode cX8_leads 21 = .ok (.goto 5, 3) := by decide +kernel
theorem dX8_leads_24 : decode cX8_leads 24 = .ok (.bipush (-5), 2) := by decide +kernel
theorem dX8_leads_26 : decode cX8_leads 26 = .ok (.ireturn, 1) := by decide +kernel
theorem dX8_reach_0 : decode cX8_reach 0 = .ok (.iload_n 2, 1) := by decide +kernel
theorem dX8_reach_1 : decode cX8_reach 1 = .ok (.bipush 24, 2) := by decide +kernel
theorem dX8_reach_3 : decode cX8_reach 3 = .ok (.if_icmp .ge 13, 3) := by decide +kernel
theorem dX8_reach_6 : decode cX8_reach 6 = .ok (.iload_n 1, 1) := by decide +kernel
theorem dX8_reach_7 : decode cX8_reach 7 = .ok (.iconst 1, 1) := by decide +kernel
theorem dX8_reach_8 : decode cX8_reach 8 = .ok (.iload_n 2, 1) := by decide +kernel
theorem dX8_reach_9 : decode cX8_reach 9 = .ok (.ishl, 1) := by decide +kernel
theorem dX8_reach_10 : decode cX8_reach 10 = .ok (.iconst (-1), 1) := by decide +kernel
theorem dX8_reach_11 : decode cX8_reach 11 = .ok (.ixor, 1) := by decide +kernel
theorem dX8_reach_12 : decode cX8_reach 12 = .ok (.iand, 1) := by decide +kernel
theorem dX8_reach_13 : decode cX8_reach 13 = .ok (.goto 4, 3) := by decide +kernel
theorem dX8_reach_16 : decode cX8_reach 16 = .ok (.iload_n 1, 1) := by decide +kernel
theorem dX8_reach_17 : decode cX8_reach 17 = .ok (.istore_n 3, 1) := by decide +kernel
theorem dX8_reach_18 : decode cX8_reach 18 = .ok (.iconst 1, 1) := by decide +kernel
theorem dX8_reach_19 : decode cX8_reach 19 = .ok (.istore 4, 2) := by decide +kernel
theorem dX8_reach_21 : decode cX8_reach 21 = .ok (.iload 4, 2) := by decide +kernel
theorem dX8_reach_23 : decode cX8_reach 23 = .ok (.ifCond .eq 97, 3) := by decide +kernel
theorem dX8_reach_26 : decode cX8_reach 26 = .ok (.iload_n 3, 1) := by decide +kernel
theorem dX8_reach_27 : decode cX8_reach 27 = .ok (.istore 5, 2) := by decide +kernel
theorem dX8_reach_29 : decode cX8_reach 29 = .ok (.iconst 0, 1) := by decide +kernel
theorem dX8_reach_30 : decode cX8_reach 30 = .ok (.istore 6, 2) := by decide +kernel
theorem dX8_reach_32 : decode cX8_reach 32 = .ok (.iload 6, 2) := by decide +kernel
theorem dX8_reach_34 : decode cX8_reach 34 = .ok (.bipush 24, 2) := by decide +kernel
theorem dX8_reach_36 : decode cX8_reach 36 = .ok (.if_icmp .ge 68, 3) := by decide +kernel
theorem dX8_reach_39 : decode cX8_reach 39 = .ok (.iconst 0, 1) := by decide +kernel
theorem dX8_reach_40 : decode cX8_reach 40 = .ok (.istore 7, 2) := by decide +kernel
theorem dX8_reach_42 : decode cX8_reach 42 = .ok (.iload 5, 2) := by decide +kernel
theorem dX8_reach_44 : decode cX8_reach 44 = .ok (.iload 6, 2) := by decide +kernel
theorem dX8_reach_46 : decode cX8_reach 46 = .ok (.invokestatic 61, 3) := by decide +kernel
theorem dX8_reach_49 : decode cX8_reach 49 = .ok (.ifCond .eq 49, 3) := by decide +kernel
theorem dX8_reach_52 : decode cX8_reach 52 = .ok (.iload 7, 2) := by decide +kernel
theorem dX8_reach_54 : decode cX8_reach 54 = .ok (.aload_n 0, 1) := by decide +kernel
theorem dX8_reach_55 : decode cX8_reach 55 = .ok (.bipush 68, 2) := by decide +kernel
theorem dX8_reach_57 : decode cX8_reach 57 = .ok (.iload 6, 2) := by decide +kernel
theorem dX8_reach_59 : decode cX8_reach 59 = .ok (.iadd, 1) := by decide +kernel
theorem dX8_reach_60 : decode cX8_reach 60 = .ok (.iaload, 1) := by decide +kernel
theorem dX8_reach_61 : decode cX8_reach 61 = .ok (.if_icmp .ge 37, 3) := by decide +kernel
theorem dX8_reach_64 : decode cX8_reach 64 = .ok (.aload_n 0, 1) := by decide +kernel
theorem dX8_reach_65 : decode cX8_reach 65 = .ok (.iload 6, 2) := by decide +kernel
theorem dX8_reach_67 : decode cX8_reach 67 = .ok (.iload 7, 2) := by decide +kernel
theorem dX8_reach_69 : decode cX8_reach 69 = .ok (.invokestatic 85, 3) := by decide +kernel
theorem dX8_reach_72 : decode cX8_reach 72 = .ok (.istore 8, 2) := by decide +kernel
theorem dX8_reach_74 : decode cX8_reach 74 = .ok (.iload 8, 2) := by decide +kernel
theorem dX8_reach_76 : decode cX8_reach 76 = .ok (.ifCond .lt 16, 3) := by decide +kernel
theorem dX8_reach_79 : decode cX8_reach 79 = .ok (.iload 8, 2) := by decide +kernel
theorem dX8_reach_81 : decode cX8_reach 81 = .ok (.iload_n 2, 1) := by decide +kernel
theorem dX8_reach_82 : decode cX8_reach 82 = .ok (.if_icmp .eq 10, 3) := by decide +kernel
theorem dX8_reach_85 : decode cX8_reach 85 = .ok (.iload_n 3, 1) := by decide +kernel
theorem dX8_reach_86 : decode cX8_reach 86 = .ok (.iconst 1, 1) := by decide +kernel
theorem dX8_reach_87 : decode cX8_reach 87 = .ok (.iload 8, 2) := by decide +kernel
theorem dX8_reach_89 : decode cX8_reach 89 = .ok (.ishl, 1) := by decide +kernel
theorem dX8_reach_90 : decode cX8_reach 90 = .ok (.ior, 1) := by decide +kernel
theorem dX8_reach_91 : decode cX8_reach 91 = .ok (.istore_n 3, 1) := by decide +kernel
theorem dX8_reach_92 : decode cX8_reach 92 = .ok (.iinc 7 1, 3) := by decide +kernel
theorem dX8_reach_95 : decode cX8_reach 95 = .ok (.goto (-53), 3) := by decide +kernel
theorem dX8_reach_98 : decode cX8_reach 98 = .ok (.iinc 6 1, 3) := by decide +kernel
theorem dX8_reach_101 : decode cX8_reach 101 = .ok (.goto (-69), 3) := by decide +kernel
theorem dX8_reach_104 : decode cX8_reach 104 = .ok (.iload_n 3, 1) := by decide +kernel
theorem dX8_reach_105 : decode cX8_reach 105 = .ok (.iload 5, 2) := by decide +kernel
theorem dX8_reach_107 : decode cX8_reach 107 = .ok (.if_icmp .eq 7, 3) := by decide +kernel
theorem dX8_reach_110 : decode cX8_reach 110 = .ok (.iconst 1, 1) := by decide +kernel
theorem dX8_reach_111 : decode cX8_reach 111 = .ok (.goto 4, 3) := by decide +kernel
theorem dX8_reach_114 : decode cX8_reach 114 = .ok (.iconst 0, 1) := by decide +kernel
theorem dX8_reach_115 : decode cX8_reach 115 = .ok (.istore 4, 2) := by decide +kernel
theorem dX8_reach_117 : decode cX8_reach 117 = .ok (.goto (-96), 3) := by decide +kernel
theorem dX8_reach_120 : decode cX8_reach 120 = .ok (.iload_n 3, 1) := by decide +kernel
theorem dX8_reach_121 : decode cX8_reach 121 = .ok (.ireturn, 1) := by decide +kernel
theorem dX8_rooted_0 : decode cX8_rooted 0 = .ok (.iconst 0, 1) := by decide +kernel
theorem dX8_rooted_1 : decode cX8_rooted 1 = .ok (.istore_n 1, 1) := by decide +kernel
theorem dX8_rooted_2 : decode cX8_rooted 2 = .ok (.iconst 0, 1) := by decide +kernel
theorem dX8_rooted_3 : decode cX8_rooted 3 = .ok (.istore_n 2, 1) := by decide +kernel
theorem dX8_rooted_4 : decode cX8_rooted 4 = .ok (.iload_n 2, 1) := by decide +kernel
theorem dX8_rooted_5 : decode cX8_rooted 5 = .ok (.iconst 4, 1) := by decide +kernel
theorem dX8_rooted_6 : decode cX8_rooted 6 = .ok (.if_icmp .ge 33, 3) := by decide +kernel
theorem dX8_rooted_9 : decode cX8_rooted 9 = .ok (.iload_n 1, 1) := by decide +kernel
theorem dX8_rooted_10 : decode cX8_rooted 10 = .ok (.aload_n 0, 1) := by decide +kernel
theorem dX8_rooted_11 : decode cX8_rooted 11 = .ok (.bipush 16, 2) := by decide +kernel
theorem dX8_rooted_13 : decode cX8_rooted 13 = .ok (.iload_n 2, 1) := by decide +kernel
theorem dX8_rooted_14 : decode cX8_rooted 14 = .ok (.iadd, 1) := by decide +kernel
theorem dX8_rooted_15 : decode cX8_rooted 15 = .ok (.iaload, 1) := by decide +kernel
theorem dX8_rooted_16 : decode cX8_rooted 16 = .ok (.ifCond .lt 14, 3) := by decide +kernel
theorem dX8_rooted_19 : decode cX8_rooted 19 = .ok (.iconst 1, 1) := by decide +kernel
theorem dX8_rooted_20 : decode cX8_rooted 20 = .ok (.aload_n 0, 1) := by decide +kernel
theorem dX8_rooted_21 : decode cX8_rooted 21 = .ok (.bipush 16, 2) := by decide +kernel
theorem dX8_rooted_23 : decode cX8_rooted 23 = .ok (.iload_n 2, 1) := by decide +kernel
theorem dX8_rooted_24 : decode cX8_rooted 24 = .ok (.iadd, 1) := by decide +kernel
theorem dX8_rooted_25 : decode cX8_rooted 25 = .ok (.iaload, 1) := by decide +kernel
theorem dX8_rooted_26 : decode cX8_rooted 26 = .ok (.ishl, 1) := by decide +kernel
theorem dX8_rooted_27 : decode cX8_rooted 27 = .ok (.goto 4, 3) := by decide +kernel
theorem dX8_rooted_30 : decode cX8_rooted 30 = .ok (.iconst 0, 1) := by decide +kernel
theorem dX8_rooted_31 : decode cX8_rooted 31 = .ok (.ior, 1) := by decide +kernel
theorem dX8_rooted_32 : decode cX8_rooted 32 = .ok (.istore_n 1, 1) := by decide +kernel
theorem dX8_rooted_33 : decode cX8_rooted 33 = .ok (.iinc 2 1, 3) := by decide +kernel
theorem dX8_rooted_36 : decode cX8_rooted 36 = .ok (.goto (-32), 3) := by decide +kernel
theorem dX8_rooted_39 : decode cX8_rooted 39 = .ok (.iload_n 1, 1) := by decide +kernel
theorem dX8_rooted_40 : decode cX8_rooted 40 = .ok (.ireturn, 1) := by decide +kernel
theorem dX8_reached_0 : decode cX8_reached 0 = .ok (.aload_n 0, 1) := by decide +kernel
theorem dX8_reached_1 : decode cX8_reached 1 = .ok (.aload_n 0, 1) := by decide +kernel
theorem dX8_reached_2 : decode cX8_reached 2 = .ok (.invokestatic 89, 3) := by decide +kernel
theorem dX8_reached_5 : decode cX8_reached 5 = .ok (.bipush 24, 2) := by decide +kernel
theorem dX8_reached_7 : decode cX8_reached 7 = .ok (.invokestatic 93, 3) := by decide +kernel
theorem dX8_reached_10 : decode cX8_reached 10 = .ok (.ireturn, 1) := by decide +kernel
theorem dX8_far_0 : decode cX8_far 0 = .ok (.aload_n 0, 1) := by decide +kernel
theorem dX8_far_1 : decode cX8_far 1 = .ok (.invokestatic 89, 3) := by decide +kernel
theorem dX8_far_4 : decode cX8_far 4 = .ok (.istore_n 2, 1) := by decide +kernel
theorem dX8_far_5 : decode cX8_far 5 = .ok (.iconst 0, 1) := by decide +kernel
theorem dX8_far_6 : decode cX8_far 6 = .ok (.istore_n 3, 1) := by decide +kernel
theorem dX8_far_7 : decode cX8_far 7 = .ok (.iload_n 3, 1) := by decide +kernel
theorem dX8_far_8 : decode cX8_far 8 = .ok (.bipush 25, 2) := by decide +kernel
theorem dX8_far_10 : decode cX8_far 10 = .ok (.if_icmp .ge 95, 3) := by decide +kernel
theorem dX8_far_13 : decode cX8_far 13 = .ok (.iload_n 2, 1) := by decide +kernel
theorem dX8_far_14 : decode cX8_far 14 = .ok (.iload_n 1, 1) := by decide +kernel
theorem dX8_far_15 : decode cX8_far 15 = .ok (.invokestatic 61, 3) := by decide +kernel
theorem dX8_far_18 : decode cX8_far 18 = .ok (.ifCond .eq 5, 3) := by decide +kernel
theorem dX8_far_21 : decode cX8_far 21 = .ok (.iload_n 3, 1) := by decide +kernel
theorem dX8_far_22 : decode cX8_far 22 = .ok (.ireturn, 1) := by decide +kernel
theorem dX8_far_23 : decode cX8_far 23 = .ok (.iload_n 2, 1) := by decide +kernel
theorem dX8_far_24 : decode cX8_far 24 = .ok (.istore 4, 2) := by decide +kernel
theorem dX8_far_26 : decode cX8_far 26 = .ok (.iconst 0, 1) := by decide +kernel
theorem dX8_far_27 : decode cX8_far 27 = .ok (.istore 5, 2) := by decide +kernel
theorem dX8_far_29 : decode cX8_far 29 = .ok (.iload 5, 2) := by decide +kernel
theorem dX8_far_31 : decode cX8_far 31 = .ok (.bipush 24, 2) := by decide +kernel
theorem dX8_far_33 : decode cX8_far 33 = .ok (.if_icmp .ge 66, 3) := by decide +kernel
theorem dX8_far_36 : decode cX8_far 36 = .ok (.iconst 0, 1) := by decide +kernel
theorem dX8_far_37 : decode cX8_far 37 = .ok (.istore 6, 2) := by decide +kernel
theorem dX8_far_39 : decode cX8_far 39 = .ok (.iload 4, 2) := by decide +kernel
theorem dX8_far_41 : decode cX8_far 41 = .ok (.iload 5, 2) := by decide +kernel
theorem dX8_far_43 : decode cX8_far 43 = .ok (.invokestatic 61, 3) := by decide +kernel
theorem dX8_far_46 : decode cX8_far 46 = .ok (.ifCond .eq 47, 3) := by decide +kernel
theorem dX8_far_49 : decode cX8_far 49 = .ok (.iload 6, 2) := by decide +kernel
theorem dX8_far_51 : decode cX8_far 51 = .ok (.aload_n 0, 1) := by decide +kernel
theorem dX8_far_52 : decode cX8_far 52 = .ok (.bipush 68, 2) := by decide +kernel
theorem dX8_far_54 : decode cX8_far 54 = .ok (.iload 5, 2) := by decide +kernel
theorem dX8_far_56 : decode cX8_far 56 = .ok (.iadd, 1) := by decide +kernel
theorem dX8_far_57 : decode cX8_far 57 = .ok (.iaload, 1) := by decide +kernel
theorem dX8_far_58 : decode cX8_far 58 = .ok (.if_icmp .ge 35, 3) := by decide +kernel
theorem dX8_far_61 : decode cX8_far 61 = .ok (.aload_n 0, 1) := by decide +kernel
theorem dX8_far_62 : decode cX8_far 62 = .ok (.iload 5, 2) := by decide +kernel
theorem dX8_far_64 : decode cX8_far 64 = .ok (.iload 6, 2) := by decide +kernel
theorem dX8_far_66 : decode cX8_far 66 = .ok (.invokestatic 85, 3) := by decide +kernel
theorem dX8_far_69 : decode cX8_far 69 = .ok (.istore 7, 2) := by decide +kernel
theorem dX8_far_71 : decode cX8_far 71 = .ok (.iload_n 2, 1) := by decide +kernel
theorem dX8_far_72 : decode cX8_far 72 = .ok (.iload 7, 2) := by decide +kernel
theorem dX8_far_74 : decode cX8_far 74 = .ok (.ifCond .lt 10, 3) := by decide +kernel
theorem dX8_far_77 : decode cX8_far 77 = .ok (.iconst 1, 1) := by decide +kernel
theorem dX8_far_78 : decode cX8_far 78 = .ok (.iload 7, 2) := by decide +kernel
theorem dX8_far_80 : decode cX8_far 80 = .ok (.ishl, 1) := by decide +kernel
theorem dX8_far_81 : decode cX8_far 81 = .ok (.goto 4, 3) := by decide +kernel
theorem dX8_far_84 : decode cX8_far 84 = .ok (.iconst 0, 1) := by decide +kernel
theorem dX8_far_85 : decode cX8_far 85 = .ok (.ior, 1) := by decide +kernel
theorem dX8_far_86 : decode cX8_far 86 = .ok (.istore_n 2, 1) := by decide +kernel
theorem dX8_far_87 : decode cX8_far 87 = .ok (.iinc 6 1, 3) := by decide +kernel
theorem dX8_far_90 : decode cX8_far 90 = .ok (.goto (-51), 3) := by decide +kernel
theorem dX8_far_93 : decode cX8_far 93 = .ok (.iinc 5 1, 3) := by decide +kernel
theorem dX8_far_96 : decode cX8_far 96 = .ok (.goto (-67), 3) := by decide +kernel
theorem dX8_far_99 : decode cX8_far 99 = .ok (.iinc 3 1, 3) := by decide +kernel
theorem dX8_far_102 : decode cX8_far 102 = .ok (.goto (-95), 3) := by decide +kernel
theorem dX8_far_105 : decode cX8_far 105 = .ok (.bipush (-5), 2) := by decide +kernel
theorem dX8_far_107 : decode cX8_far 107 = .ok (.ireturn, 1) := by decide +kernel
theorem dX8_holders_0 : decode cX8_holders 0 = .ok (.iconst 0, 1) := by decide +kernel
theorem dX8_holders_1 : decode cX8_holders 1 = .ok (.istore_n 2, 1) := by decide +kernel
theorem dX8_holders_2 : decode cX8_holders 2 = .ok (.iconst 0, 1) := by decide +kernel
theorem dX8_holders_3 : decode cX8_holders 3 = .ok (.istore_n 3, 1) := by decide +kernel
theorem dX8_holders_4 : decode cX8_holders 4 = .ok (.iload_n 3, 1) := by decide +kernel
theorem dX8_holders_5 : decode cX8_holders 5 = .ok (.bipush 24, 2) := by decide +kernel
theorem dX8_holders_7 : decode cX8_holders 7 = .ok (.if_icmp .ge 56, 3) := by decide +kernel
theorem dX8_holders_10 : decode cX8_holders 10 = .ok (.iconst 0, 1) := by decide +kernel
theorem dX8_holders_11 : decode cX8_holders 11 = .ok (.istore 4, 2) := by decide +kernel
theorem dX8_holders_13 : decode cX8_holders 13 = .ok (.aload_n 0, 1) := by decide +kernel
theorem dX8_holders_14 : decode cX8_holders 14 = .ok (.iload_n 3, 1) := by decide +kernel
theorem dX8_holders_15 : decode cX8_holders 15 = .ok (.iload 4, 2) := by decide +kernel
theorem dX8_holders_17 : decode cX8_holders 17 = .ok (.invokevirtual 96, 3) := by decide +kernel
theorem dX8_holders_20 : decode cX8_holders 20 = .ok (.ifCond .eq 37, 3) := by decide +kernel
theorem dX8_holders_23 : decode cX8_holders 23 = .ok (.iload_n 2, 1) := by decide +kernel
theorem dX8_holders_24 : decode cX8_holders 24 = .ok (.aload_n 0, 1) := by decide +kernel
theorem dX8_holders_25 : decode cX8_holders 25 = .ok (.getfield 11, 3) := by decide +kernel
theorem dX8_holders_28 : decode cX8_holders 28 = .ok (.sipush 140, 3) := by decide +kernel
theorem dX8_holders_31 : decode cX8_holders 31 = .ok (.bipush 6, 2) := by decide +kernel
theorem dX8_holders_33 : decode cX8_holders 33 = .ok (.iload_n 3, 1) := by decide +kernel
theorem dX8_holders_34 : decode cX8_holders 34 = .ok (.imul, 1) := by decide +kernel
theorem dX8_holders_35 : decode cX8_holders 35 = .ok (.iadd, 1) := by decide +kernel
theorem dX8_holders_36 : decode cX8_holders 36 = .ok (.iload 4, 2) := by decide +kernel
theorem dX8_holders_38 : decode cX8_holders 38 = .ok (.iadd, 1) := by decide +kernel
theorem dX8_holders_39 : decode cX8_holders 39 = .ok (.iaload, 1) := by decide +kernel
theorem dX8_holders_40 : decode cX8_holders 40 = .ok (.iload_n 1, 1) := by decide +kernel
theorem dX8_holders_41 : decode cX8_holders 41 = .ok (.if_icmp .ne 7, 3) := by decide +kernel
theorem dX8_holders_44 : decode cX8_holders 44 = .ok (.iconst 1, 1) := by decide +kernel
theorem dX8_holders_45 : decode cX8_holders 45 = .ok (.goto 4, 3) := by decide +kernel
theorem dX8_holders_48 : decode cX8_holders 48 = .ok (.iconst 0, 1) := by decide +kernel
theorem dX8_holders_49 : decode cX8_holders 49 = .ok (.iadd, 1) := by decide +kernel
theorem dX8_holders_50 : decode cX8_holders 50 = .ok (.istore_n 2, 1) := by decide +kernel
theorem dX8_holders_51 : decode cX8_holders 51 = .ok (.iinc 4 1, 3) := by decide +kernel
theorem dX8_holders_54 : decode cX8_holders 54 = .ok (.goto (-41), 3) := by decide +kernel
theorem dX8_holders_57 : decode cX8_holders 57 = .ok (.iinc 3 1, 3) := by decide +kernel
theorem dX8_holders_60 : decode cX8_holders 60 = .ok (.goto (-56), 3) := by decide +kernel
theorem dX8_holders_63 : decode cX8_holders 63 = .ok (.iload_n 2, 1) := by decide +kernel
theorem dX8_holders_64 : decode cX8_holders 64 = .ok (.ireturn, 1) := by decide +kernel
theorem dX8_isReachedCut_0 : decode cX8_isReachedCut 0 = .ok (.aload_n 0, 1) := by decide +kernel
theorem dX8_isReachedCut_1 : decode cX8_isReachedCut 1 = .ok (.getfield 11, 3) := by decide +kernel
theorem dX8_isReachedCut_4 : decode cX8_isReachedCut 4 = .ok (.sipush 140, 3) := by decide +kernel
theorem dX8_isReachedCut_7 : decode cX8_isReachedCut 7 = .ok (.bipush 6, 2) := by decide +kernel
theorem dX8_isReachedCut_9 : decode cX8_isReachedCut 9 = .ok (.iload_n 1, 1) := by decide +kernel
theorem dX8_isReachedCut_10 : decode cX8_isReachedCut 10 = .ok (.imul, 1) := by decide +kernel
theorem dX8_isReachedCut_11 : decode cX8_isReachedCut 11 = .ok (.iadd, 1) := by decide +kernel
theorem dX8_isReachedCut_12 : decode cX8_isReachedCut 12 = .ok (.iload_n 2, 1) := by decide +kernel
theorem dX8_isReachedCut_13 : decode cX8_isReachedCut 13 = .ok (.iadd, 1) := by decide +kernel
theorem dX8_isReachedCut_14 : decode cX8_isReachedCut 14 = .ok (.iaload, 1) := by decide +kernel
theorem dX8_isReachedCut_15 : decode cX8_isReachedCut 15 = .ok (.istore 4, 2) := by decide +kernel
theorem dX8_isReachedCut_17 : decode cX8_isReachedCut 17 = .ok (.aload_n 0, 1) := by decide +kernel
theorem dX8_isReachedCut_18 : decode cX8_isReachedCut 18 = .ok (.getfield 11, 3) := by decide +kernel
theorem dX8_isReachedCut_21 : decode cX8_isReachedCut 21 = .ok (.sipush 140, 3) := by decide +kernel
theorem dX8_isReachedCut_24 : decode cX8_isReachedCut 24 = .ok (.bipush 6, 2) := by decide +kernel
theorem dX8_isReachedCut_26 : decode cX8_isReachedCut 26 = .ok (.iload_n 1, 1) := by decide +kernel
theorem dX8_isReachedCut_27 : decode cX8_isReachedCut 27 = .ok (.imul, 1) := by decide +kernel
theorem dX8_isReachedCut_28 : decode cX8_isReachedCut 28 = .ok (.iadd, 1) := by decide +kernel
theorem dX8_isReachedCut_29 : decode cX8_isReachedCut 29 = .ok (.iload_n 2, 1) := by decide +kernel
theorem dX8_isReachedCut_30 : decode cX8_isReachedCut 30 = .ok (.iadd, 1) := by decide +kernel
theorem dX8_isReachedCut_31 : decode cX8_isReachedCut 31 = .ok (.bipush (-5), 2) := by decide +kernel
theorem dX8_isReachedCut_33 : decode cX8_isReachedCut 33 = .ok (.iastore, 1) := by decide +kernel
theorem dX8_isReachedCut_34 : decode cX8_isReachedCut 34 = .ok (.aload_n 0, 1) := by decide +kernel
theorem dX8_isReachedCut_35 : decode cX8_isReachedCut 35 = .ok (.getfield 11, 3) := by decide +kernel
theorem dX8_isReachedCut_38 : decode cX8_isReachedCut 38 = .ok (.invokestatic 99, 3) := by decide +kernel
theorem dX8_isReachedCut_41 : decode cX8_isReachedCut 41 = .ok (.iload_n 3, 1) := by decide +kernel
theorem dX8_isReachedCut_42 : decode cX8_isReachedCut 42 = .ok (.invokestatic 61, 3) := by decide +kernel
theorem dX8_isReachedCut_45 : decode cX8_isReachedCut 45 = .ok (.istore 5, 2) := by decide +kernel
theorem dX8_isReachedCut_47 : decode cX8_isReachedCut 47 = .ok (.aload_n 0, 1) := by decide +kernel
theorem dX8_isReachedCut_48 : decode cX8_isReachedCut 48 = .ok (.getfield 11, 3) := by decide +kernel
theorem dX8_isReachedCut_51 : decode cX8_isReachedCut 51 = .ok (.sipush 140, 3) := by decide +kernel
theorem dX8_isReachedCut_54 : decode cX8_isReachedCut 54 = .ok (.bipush 6, 2) := by decide +kernel
theorem dX8_isReachedCut_56 : decode cX8_isReachedCut 56 = .ok (.iload_n 1, 1) := by decide +kernel
theorem dX8_isReachedCut_57 : decode cX8_isReachedCut 57 = .ok (.imul, 1) := by decide +kernel
theorem dX8_isReachedCut_58 : decode cX8_isReachedCut 58 = .ok (.iadd, 1) := by decide +kernel
theorem dX8_isReachedCut_59 : decode cX8_isReachedCut 59 = .ok (.iload_n 2, 1) := by decide +kernel
theorem dX8_isReachedCut_60 : decode cX8_isReachedCut 60 = .ok (.iadd, 1) := by decide +kernel
theorem dX8_isReachedCut_61 : decode cX8_isReachedCut 61 = .ok (.iload 4, 2) := by decide +kernel
theorem dX8_isReachedCut_63 : decode cX8_isReachedCut 63 = .ok (.iastore, 1) := by decide +kernel
theorem dX8_isReachedCut_64 : decode cX8_isReachedCut 64 = .ok (.iload 5, 2) := by decide +kernel
theorem dX8_isReachedCut_66 : decode cX8_isReachedCut 66 = .ok (.ireturn, 1) := by decide +kernel
theorem dX8_cut_0 : decode cX8_cut 0 = .ok (.aload_n 0, 1) := by decide +kernel
theorem dX8_cut_1 : decode cX8_cut 1 = .ok (.getfield 11, 3) := by decide +kernel
theorem dX8_cut_4 : decode cX8_cut 4 = .ok (.invokestatic 99, 3) := by decide +kernel
theorem dX8_cut_7 : decode cX8_cut 7 = .ok (.iload_n 1, 1) := by decide +kernel
theorem dX8_cut_8 : decode cX8_cut 8 = .ok (.invokestatic 61, 3) := by decide +kernel
theorem dX8_cut_11 : decode cX8_cut 11 = .ok (.ifCond .ne 6, 3) := by decide +kernel
theorem dX8_cut_14 : decode cX8_cut 14 = .ok (.bipush (-5), 2) := by decide +kernel
theorem dX8_cut_16 : decode cX8_cut 16 = .ok (.ireturn, 1) := by decide +kernel
theorem dX8_cut_17 : decode cX8_cut 17 = .ok (.iconst 0, 1) := by decide +kernel
theorem dX8_cut_18 : decode cX8_cut 18 = .ok (.istore_n 2, 1) := by decide +kernel
theorem dX8_cut_19 : decode cX8_cut 19 = .ok (.iload_n 2, 1) := by decide +kernel
theorem dX8_cut_20 : decode cX8_cut 20 = .ok (.bipush 24, 2) := by decide +kernel
theorem dX8_cut_22 : decode cX8_cut 22 = .ok (.if_icmp .ge 43, 3) := by decide +kernel
theorem dX8_cut_25 : decode cX8_cut 25 = .ok (.iconst 0, 1) := by decide +kernel
theorem dX8_cut_26 : decode cX8_cut 26 = .ok (.istore_n 3, 1) := by decide +kernel
theorem dX8_cut_27 : decode cX8_cut 27 = .ok (.aload_n 0, 1) := by decide +kernel
theorem dX8_cut_28 : decode cX8_cut 28 = .ok (.iload_n 2, 1) := by decide +kernel
theorem dX8_cut_29 : decode cX8_cut 29 = .ok (.iload_n 3, 1) := by decide +kernel
theorem dX8_cut_30 : decode cX8_cut 30 = .ok (.invokevirtual 96, 3) := by decide +kernel
theorem dX8_cut_33 : decode cX8_cut 33 = .ok (.ifCond .eq 26, 3) := by decide +kernel
theorem dX8_cut_36 : decode cX8_cut 36 = .ok (.aload_n 0, 1) := by decide +kernel
theorem dX8_cut_37 : decode cX8_cut 37 = .ok (.iload_n 2, 1) := by decide +kernel
theorem dX8_cut_38 : decode cX8_cut 38 = .ok (.iload_n 3, 1) := by decide +kernel
theorem dX8_cut_39 : decode cX8_cut 39 = .ok (.iload_n 1, 1) := by decide +kernel
theorem dX8_cut_40 : decode cX8_cut 40 = .ok (.invokevirtual 102, 3) := by decide +kernel
theorem dX8_cut_43 : decode cX8_cut 43 = .ok (.ifCond .ne 10, 3) := by decide +kernel
theorem dX8_cut_46 : decode cX8_cut 46 = .ok (.bipush 10, 2) := by decide +kernel
theorem dX8_cut_48 : decode cX8_cut 48 = .ok (.iload_n 2, 1) := by decide +kernel
theorem dX8_cut_49 : decode cX8_cut 49 = .ok (.imul, 1) := by decide +kernel
theorem dX8_cut_50 : decode cX8_cut 50 = .ok (.iload_n 3, 1) := by decide +kernel
theorem dX8_cut_51 : decode cX8_cut 51 = .ok (.iadd, 1) := by decide +kernel
theorem dX8_cut_52 : decode cX8_cut 52 = .ok (.ireturn, 1) := by decide +kernel
theorem dX8_cut_53 : decode cX8_cut 53 = .ok (.iinc 3 1, 3) := by decide +kernel
theorem dX8_cut_56 : decode cX8_cut 56 = .ok (.goto (-29), 3) := by decide +kernel
theorem dX8_cut_59 : decode cX8_cut 59 = .ok (.iinc 2 1, 3) := by decide +kernel
theorem dX8_cut_62 : decode cX8_cut 62 = .ok (.goto (-43), 3) := by decide +kernel
theorem dX8_cut_65 : decode cX8_cut 65 = .ok (.bipush (-5), 2) := by decide +kernel
theorem dX8_cut_67 : decode cX8_cut 67 = .ok (.ireturn, 1) := by decide +kernel
theorem dX8_bits_0 : decode cX8_bits 0 = .ok (.iconst 0, 1) := by decide +kernel
theorem dX8_bits_1 : decode cX8_bits 1 = .ok (.istore_n 1, 1) := by decide +kernel
theorem dX8_bits_2 : decode cX8_bits 2 = .ok (.iconst 1, 1) := by decide +kernel
theorem dX8_bits_3 : decode cX8_bits 3 = .ok (.iload_n 1, 1) := by decide +kernel
theorem dX8_bits_4 : decode cX8_bits 4 = .ok (.ishl, 1) := by decide +kernel
theorem dX8_bits_5 : decode cX8_bits 5 = .ok (.iload_n 0, 1) := by decide +kernel
theorem dX8_bits_6 : decode cX8_bits 6 = .ok (.if_icmp .ge 9, 3) := by decide +kernel
theorem dX8_bits_9 : decode cX8_bits 9 = .ok (.iinc 1 1, 3) := by decide +kernel
theorem dX8_bits_12 : decode cX8_bits 12 = .ok (.goto (-10), 3) := by decide +kernel
theorem dX8_bits_15 : decode cX8_bits 15 = .ok (.iconst 1, 1) := by decide +kernel
theorem dX8_bits_16 : decode cX8_bits 16 = .ok (.iload_n 1, 1) := by decide +kernel
theorem dX8_bits_17 : decode cX8_bits 17 = .ok (.iadd, 1) := by decide +kernel
theorem dX8_bits_18 : decode cX8_bits 18 = .ok (.ireturn, 1) := by decide +kernel
theorem dX8_flag_0 : decode cX8_flag 0 = .ok (.iload_n 0, 1) := by decide +kernel
theorem dX8_flag_1 : decode cX8_flag 1 = .ok (.ifCond .eq 7, 3) := by decide +kernel
theorem dX8_flag_4 : decode cX8_flag 4 = .ok (.iconst 1, 1) := by decide +kernel
theorem dX8_flag_5 : decode cX8_flag 5 = .ok (.goto 4, 3) := by decide +kernel
theorem dX8_flag_8 : decode cX8_flag 8 = .ok (.iconst 0, 1) := by decide +kernel
theorem dX8_flag_9 : decode cX8_flag 9 = .ok (.ireturn, 1) := by decide +kernel
theorem dX8_of_0 : decode cX8_of 0 = .ok (.aload_n 0, 1) := by decide +kernel
theorem dX8_of_1 : decode cX8_of 1 = .ok (.iload_n 1, 1) := by decide +kernel
theorem dX8_of_2 : decode cX8_of 2 = .ok (.invokevirtual 65, 3) := by decide +kernel
theorem dX8_of_5 : decode cX8_of 5 = .ok (.ifCond .ne 5, 3) := by decide +kernel
theorem dX8_of_8 : decode cX8_of 8 = .ok (.iconst (-1), 1) := by decide +kernel
theorem dX8_of_9 : decode cX8_of 9 = .ok (.ireturn, 1) := by decide +kernel
theorem dX8_of_10 : decode cX8_of 10 = .ok (.iload_n 2, 1) := by decide +kernel
theorem dX8_of_11 : decode cX8_of 11 = .ok (.tableswitch 241 0 12 #[65, 75, 85, 95, 110, 120, 135, 150, 156, 165, 178, 222, 228], 65) := by decide +kernel
theorem dX8_of_76 : decode cX8_of 76 = .ok (.aload_n 0, 1) := by decide +kernel
theorem dX8_of_77 : decode cX8_of 77 = .ok (.getfield 11, 3) := by decide +kernel
theorem dX8_of_80 : decode cX8_of 80 = .ok (.bipush 20, 2) := by decide +kernel
theorem dX8_of_82 : decode cX8_of 82 = .ok (.iload_n 1, 1) := by decide +kernel
theorem dX8_of_83 : decode cX8_of 83 = .ok (.iadd, 1) := by decide +kernel
theorem dX8_of_84 : decode cX8_of 84 = .ok (.iaload, 1) := by decide +kernel
theorem dX8_of_85 : decode cX8_of 85 = .ok (.ireturn, 1) := by decide +kernel
theorem dX8_of_86 : decode cX8_of 86 = .ok (.aload_n 0, 1) := by decide +kernel
theorem dX8_of_87 : decode cX8_of 87 = .ok (.getfield 11, 3) := by decide +kernel
theorem dX8_of_90 : decode cX8_of 90 = .ok (.bipush 44, 2) := by decide +kernel
theorem dX8_of_92 : decode cX8_of 92 = .ok (.iload_n 1, 1) := by decide +kernel
theorem dX8_of_93 : decode cX8_of 93 = .ok (.iadd, 1) := by decide +kernel
theorem dX8_of_94 : decode cX8_of 94 = .ok (.iaload, 1) := by decide +kernel
theorem dX8_of_95 : decode cX8_of 95 = .ok (.ireturn, 1) := by decide +kernel
theorem dX8_of_96 : decode cX8_of 96 = .ok (.aload_n 0, 1) := by decide +kernel
theorem dX8_of_97 : decode cX8_of 97 = .ok (.getfield 11, 3) := by decide +kernel
theorem dX8_of_100 : decode cX8_of 100 = .ok (.bipush 68, 2) := by decide +kernel
theorem dX8_of_102 : decode cX8_of 102 = .ok (.iload_n 1, 1) := by decide +kernel
theorem dX8_of_103 : decode cX8_of 103 = .ok (.iadd, 1) := by decide +kernel
theorem dX8_of_104 : decode cX8_of 104 = .ok (.iaload, 1) := by decide +kernel
theorem dX8_of_105 : decode cX8_of 105 = .ok (.ireturn, 1) := by decide +kernel
theorem dX8_of_106 : decode cX8_of 106 = .ok (.aload_n 0, 1) := by decide +kernel
theorem dX8_of_107 : decode cX8_of 107 = .ok (.getfield 11, 3) := by decide +kernel
theorem dX8_of_110 : decode cX8_of 110 = .ok (.bipush 12, 2) := by decide +kernel
theorem dX8_of_112 : decode cX8_of 112 = .ok (.iaload, 1) := by decide +kernel
theorem dX8_of_113 : decode cX8_of 113 = .ok (.iload_n 1, 1) := by decide +kernel
theorem dX8_of_114 : decode cX8_of 114 = .ok (.invokestatic 61, 3) := by decide +kernel
theorem dX8_of_117 : decode cX8_of 117 = .ok (.invokestatic 106, 3) := by decide +kernel
theorem dX8_of_120 : decode cX8_of 120 = .ok (.ireturn, 1) := by decide +kernel
theorem dX8_of_121 : decode cX8_of 121 = .ok (.aload_n 0, 1) := by decide +kernel
theorem dX8_of_122 : decode cX8_of 122 = .ok (.getfield 11, 3) := by decide +kernel
theorem dX8_of_125 : decode cX8_of 125 = .ok (.bipush 92, 2) := by decide +kernel
theorem dX8_of_127 : decode cX8_of 127 = .ok (.iload_n 1, 1) := by decide +kernel
theorem dX8_of_128 : decode cX8_of 128 = .ok (.iadd, 1) := by decide +kernel
theorem dX8_of_129 : decode cX8_of 129 = .ok (.iaload, 1) := by decide +kernel
theorem dX8_of_130 : decode cX8_of 130 = .ok (.ireturn, 1) := by decide +kernel
theorem dX8_of_131 : decode cX8_of 131 = .ok (.aload_n 0, 1) := by decide +kernel
theorem dX8_of_132 : decode cX8_of 132 = .ok (.getfield 11, 3) := by decide +kernel
theorem dX8_of_135 : decode cX8_of 135 = .ok (.bipush 13, 2) := by decide +kernel
theorem dX8_of_137 : decode cX8_of 137 = .ok (.iaload, 1) := by decide +kernel
theorem dX8_of_138 : decode cX8_of 138 = .ok (.iload_n 1, 1) := by decide +kernel
theorem dX8_of_139 : decode cX8_of 139 = .ok (.invokestatic 61, 3) := by decide +kernel
theorem dX8_of_142 : decode cX8_of 142 = .ok (.invokestatic 106, 3) := by decide +kernel
theorem dX8_of_145 : decode cX8_of 145 = .ok (.ireturn, 1) := by decide +kernel
theorem dX8_of_146 : decode cX8_of 146 = .ok (.aload_n 0, 1) := by decide +kernel
theorem dX8_of_147 : decode cX8_of 147 = .ok (.getfield 11, 3) := by decide +kernel
theorem dX8_of_150 : decode cX8_of 150 = .ok (.bipush 14, 2) := by decide +kernel
theorem dX8_of_152 : decode cX8_of 152 = .ok (.iaload, 1) := by decide +kernel
theorem dX8_of_153 : decode cX8_of 153 = .ok (.iload_n 1, 1) := by decide +kernel
theorem dX8_of_154 : decode cX8_of 154 = .ok (.invokestatic 61, 3) := by decide +kernel
theorem dX8_of_157 : decode cX8_of 157 = .ok (.invokestatic 106, 3) := by decide +kernel
theorem dX8_of_160 : decode cX8_of 160 = .ok (.ireturn, 1) := by decide +kernel
theorem dX8_of_161 : decode cX8_of 161 = .ok (.aload_n 0, 1) := by decide +kernel
theorem dX8_of_162 : decode cX8_of 162 = .ok (.iload_n 1, 1) := by decide +kernel
theorem dX8_of_163 : decode cX8_of 163 = .ok (.invokevirtual 110, 3) := by decide +kernel
theorem dX8_of_166 : decode cX8_of 166 = .ok (.ireturn, 1) := by decide +kernel
theorem dX8_of_167 : decode cX8_of 167 = .ok (.aload_n 0, 1) := by decide +kernel
theorem dX8_of_168 : decode cX8_of 168 = .ok (.getfield 11, 3) := by decide +kernel
theorem dX8_of_171 : decode cX8_of 171 = .ok (.iload_n 1, 1) := by decide +kernel
theorem dX8_of_172 : decode cX8_of 172 = .ok (.invokestatic 114, 3) := by decide +kernel
theorem dX8_of_175 : decode cX8_of 175 = .ok (.ireturn, 1) := by decide +kernel
theorem dX8_of_176 : decode cX8_of 176 = .ok (.aload_n 0, 1) := by decide +kernel
theorem dX8_of_177 : decode cX8_of 177 = .ok (.getfield 11, 3) := by decide +kernel
theorem dX8_of_180 : decode cX8_of 180 = .ok (.iconst 1, 1) := by decide +kernel
theorem dX8_of_181 : decode cX8_of 181 = .ok (.iload_n 1, 1) := by decide +kernel
theorem dX8_of_182 : decode cX8_of 182 = .ok (.ishl, 1) := by decide +kernel
theorem dX8_of_183 : decode cX8_of 183 = .ok (.bipush 24, 2) := by decide +kernel
theorem dX8_of_185 : decode cX8_of 185 = .ok (.invokestatic 93, 3) := by decide +kernel
theorem dX8_of_188 : decode cX8_of 188 = .ok (.ireturn, 1) := by decide +kernel
theorem dX8_of_189 : decode cX8_of 189 = .ok (.aload_n 0, 1) := by decide +kernel
theorem dX8_of_190 : decode cX8_of 190 = .ok (.getfield 11, 3) := by decide +kernel
theorem dX8_of_193 : decode cX8_of 193 = .ok (.invokestatic 99, 3) := by decide +kernel
theorem dX8_of_196 : decode cX8_of 196 = .ok (.iload_n 1, 1) := by decide +kernel
theorem dX8_of_197 : decode cX8_of 197 = .ok (.invokestatic 61, 3) := by decide +kernel
theorem dX8_of_200 : decode cX8_of 200 = .ok (.ifCond .eq 31, 3) := by decide +kernel
theorem dX8_of_203 : decode cX8_of 203 = .ok (.aload_n 0, 1) := by decide +kernel
theorem dX8_of_204 : decode cX8_of 204 = .ok (.getfield 11, 3) := by decide +kernel
theorem dX8_of_207 : decode cX8_of 207 = .ok (.invokestatic 99, 3) := by decide +kernel
theorem dX8_of_210 : decode cX8_of 210 = .ok (.aload_n 0, 1) := by decide +kernel
theorem dX8_of_211 : decode cX8_of 211 = .ok (.getfield 11, 3) := by decide +kernel
theorem dX8_of_214 : decode cX8_of 214 = .ok (.aload_n 0, 1) := by decide +kernel
theorem dX8_of_215 : decode cX8_of 215 = .ok (.getfield 11, 3) := by decide +kernel
theorem dX8_of_218 : decode cX8_of 218 = .ok (.invokestatic 89, 3) := by decide +kernel
theorem dX8_of_221 : decode cX8_of 221 = .ok (.iload_n 1, 1) := by decide +kernel
theorem dX8_of_222 : decode cX8_of 222 = .ok (.invokestatic 93, 3) := by decide +kernel
theorem dX8_of_225 : decode cX8_of 225 = .ok (.iconst (-1), 1) := by decide +kernel
theorem dX8_of_226 : decode cX8_of 226 = .ok (.ixor, 1) := by decide +kernel
theorem dX8_of_227 : decode cX8_of 227 = .ok (.iand, 1) := by decide +kernel
theorem dX8_of_228 : decode cX8_of 228 = .ok (.goto 4, 3) := by decide +kernel
theorem dX8_of_231 : decode cX8_of 231 = .ok (.iconst 0, 1) := by decide +kernel
theorem dX8_of_232 : decode cX8_of 232 = .ok (.ireturn, 1) := by decide +kernel
theorem dX8_of_233 : decode cX8_of 233 = .ok (.aload_n 0, 1) := by decide +kernel
theorem dX8_of_234 : decode cX8_of 234 = .ok (.iload_n 1, 1) := by decide +kernel
theorem dX8_of_235 : decode cX8_of 235 = .ok (.invokevirtual 118, 3) := by decide +kernel
theorem dX8_of_238 : decode cX8_of 238 = .ok (.ireturn, 1) := by decide +kernel
theorem dX8_of_239 : decode cX8_of 239 = .ok (.aload_n 0, 1) := by decide +kernel
theorem dX8_of_240 : decode cX8_of 240 = .ok (.getfield 11, 3) := by decide +kernel
theorem dX8_of_243 : decode cX8_of 243 = .ok (.bipush 68, 2) := by decide +kernel
theorem dX8_of_245 : decode cX8_of 245 = .ok (.iload_n 1, 1) := by decide +kernel
theorem dX8_of_246 : decode cX8_of 246 = .ok (.iadd, 1) := by decide +kernel
theorem dX8_of_247 : decode cX8_of 247 = .ok (.iaload, 1) := by decide +kernel
theorem dX8_of_248 : decode cX8_of 248 = .ok (.invokestatic 121, 3) := by decide +kernel
theorem dX8_of_251 : decode cX8_of 251 = .ok (.ireturn, 1) := by decide +kernel
theorem dX8_of_252 : decode cX8_of 252 = .ok (.iconst (-1), 1) := by decide +kernel
theorem dX8_of_253 : decode cX8_of 253 = .ok (.ireturn, 1) := by decide +kernel
theorem dX8_field_0 : decode cX8_field 0 = .ok (.aload_n 0, 1) := by decide +kernel
theorem dX8_field_1 : decode cX8_field 1 = .ok (.iload_n 1, 1) := by decide +kernel
theorem dX8_field_2 : decode cX8_field 2 = .ok (.iload_n 2, 1) := by decide +kernel
theorem dX8_field_3 : decode cX8_field 3 = .ok (.invokevirtual 96, 3) := by decide +kernel
theorem dX8_field_6 : decode cX8_field 6 = .ok (.ifCond .eq 21, 3) := by decide +kernel
theorem dX8_field_9 : decode cX8_field 9 = .ok (.aload_n 0, 1) := by decide +kernel
theorem dX8_field_10 : decode cX8_field 10 = .ok (.getfield 11, 3) := by decide +kernel
theorem dX8_field_13 : decode cX8_field 13 = .ok (.sipush 140, 3) := by decide +kernel
theorem dX8_field_16 : decode cX8_field 16 = .ok (.bipush 6, 2) := by decide +kernel
theorem dX8_field_18 : decode cX8_field 18 = .ok (.iload_n 1, 1) := by decide +kernel
theorem dX8_field_19 : decode cX8_field 19 = .ok (.imul, 1) := by decide +kernel
theorem dX8_field_20 : decode cX8_field 20 = .ok (.iadd, 1) := by decide +kernel
theorem dX8_field_21 : decode cX8_field 21 = .ok (.iload_n 2, 1) := by decide +kernel
theorem dX8_field_22 : decode cX8_field 22 = .ok (.iadd, 1) := by decide +kernel
theorem dX8_field_23 : decode cX8_field 23 = .ok (.iaload, 1) := by decide +kernel
theorem dX8_field_24 : decode cX8_field 24 = .ok (.goto 4, 3) := by decide +kernel
theorem dX8_field_27 : decode cX8_field 27 = .ok (.iconst (-1), 1) := by decide +kernel
theorem dX8_field_28 : decode cX8_field 28 = .ok (.ireturn, 1) := by decide +kernel
theorem dX8_turnedNow_0 : decode cX8_turnedNow 0 = .ok (.aload_n 0, 1) := by decide +kernel
theorem dX8_turnedNow_1 : decode cX8_turnedNow 1 = .ok (.iconst 2, 1) := by decide +kernel
theorem dX8_turnedNow_2 : decode cX8_turnedNow 2 = .ok (.iaload, 1) := by decide +kernel
theorem dX8_turnedNow_3 : decode cX8_turnedNow 3 = .ok (.ifCond .ne 7, 3) := by decide +kernel
theorem dX8_turnedNow_6 : decode cX8_turnedNow 6 = .ok (.iconst 0, 1) := by decide +kernel
theorem dX8_turnedNow_7 : decode cX8_turnedNow 7 = .ok (.goto 15, 3) := by decide +kernel
theorem dX8_turnedNow_10 : decode cX8_turnedNow 10 = .ok (.iconst 0, 1) := by decide +kernel
theorem dX8_turnedNow_11 : decode cX8_turnedNow 11 = .ok (.aload_n 0, 1) := by decide +kernel
theorem dX8_turnedNow_12 : decode cX8_turnedNow 12 = .ok (.bipush 6, 2) := by decide +kernel
theorem dX8_turnedNow_14 : decode cX8_turnedNow 14 = .ok (.iaload, 1) := by decide +kernel
theorem dX8_turnedNow_15 : decode cX8_turnedNow 15 = .ok (.aload_n 0, 1) := by decide +kernel
theorem dX8_turnedNow_16 : decode cX8_turnedNow 16 = .ok (.iconst 3, 1) := by decide +kernel
theorem dX8_turnedNow_17 : decode cX8_turnedNow 17 = .ok (.iaload, 1) := by decide +kernel
theorem dX8_turnedNow_18 : decode cX8_turnedNow 18 = .ok (.isub, 1) := by decide +kernel
theorem dX8_turnedNow_19 : decode cX8_turnedNow 19 = .ok (.invokestatic 124, 3) := by decide +kernel
theorem dX8_turnedNow_22 : decode cX8_turnedNow 22 = .ok (.ireturn, 1) := by decide +kernel
theorem dX8_back_0 : decode cX8_back 0 = .ok (.aload_n 0, 1) := by decide +kernel
theorem dX8_back_1 : decode cX8_back 1 = .ok (.invokestatic 129, 3) := by decide +kernel
theorem dX8_back_4 : decode cX8_back 4 = .ok (.ifCond .ne 8, 3) := by decide +kernel
theorem dX8_back_7 : decode cX8_back 7 = .ok (.bipush (-5), 2) := by decide +kernel
theorem dX8_back_9 : decode cX8_back 9 = .ok (.goto 14, 3) := by decide +kernel
theorem dX8_back_12 : decode cX8_back 12 = .ok (.aload_n 0, 1) := by decide +kernel
theorem dX8_back_13 : decode cX8_back 13 = .ok (.bipush 116, 2) := by decide +kernel
theorem dX8_back_15 : decode cX8_back 15 = .ok (.aload_n 0, 1) := by decide +kernel
theorem dX8_back_16 : decode cX8_back 16 = .ok (.bipush 6, 2) := by decide +kernel
theorem dX8_back_18 : decode cX8_back 18 = .ok (.iaload, 1) := by decide +kernel
theorem dX8_back_19 : decode cX8_back 19 = .ok (.iadd, 1) := by decide +kernel
theorem dX8_back_20 : decode cX8_back 20 = .ok (.iconst 1, 1) := by decide +kernel
theorem dX8_back_21 : decode cX8_back 21 = .ok (.isub, 1) := by decide +kernel
theorem dX8_back_22 : decode cX8_back 22 = .ok (.iaload, 1) := by decide +kernel
theorem dX8_back_23 : decode cX8_back 23 = .ok (.ireturn, 1) := by decide +kernel
theorem dX8_turnedAt_0 : decode cX8_turnedAt 0 = .ok (.aload_n 0, 1) := by decide +kernel
theorem dX8_turnedAt_1 : decode cX8_turnedAt 1 = .ok (.getfield 11, 3) := by decide +kernel
theorem dX8_turnedAt_4 : decode cX8_turnedAt 4 = .ok (.iconst 3, 1) := by decide +kernel
theorem dX8_turnedAt_5 : decode cX8_turnedAt 5 = .ok (.iaload, 1) := by decide +kernel
theorem dX8_turnedAt_6 : decode cX8_turnedAt 6 = .ok (.istore_n 2, 1) := by decide +kernel
theorem dX8_turnedAt_7 : decode cX8_turnedAt 7 = .ok (.aload_n 0, 1) := by decide +kernel
theorem dX8_turnedAt_8 : decode cX8_turnedAt 8 = .ok (.getfield 11, 3) := by decide +kernel
theorem dX8_turnedAt_11 : decode cX8_turnedAt 11 = .ok (.iconst 2, 1) := by decide +kernel
theorem dX8_turnedAt_12 : decode cX8_turnedAt 12 = .ok (.iaload, 1) := by decide +kernel
theorem dX8_turnedAt_13 : decode cX8_turnedAt 13 = .ok (.iconst 1, 1) := by decide +kernel
theorem dX8_turnedAt_14 : decode cX8_turnedAt 14 = .ok (.if_icmp .ne 35, 3) := by decide +kernel
theorem dX8_turnedAt_17 : decode cX8_turnedAt 17 = .ok (.iload_n 2, 1) := by decide +kernel
theorem dX8_turnedAt_18 : decode cX8_turnedAt 18 = .ok (.aload_n 0, 1) := by decide +kernel
theorem dX8_turnedAt_19 : decode cX8_turnedAt 19 = .ok (.getfield 11, 3) := by decide +kernel
theorem dX8_turnedAt_22 : decode cX8_turnedAt 22 = .ok (.bipush 6, 2) := by decide +kernel
theorem dX8_turnedAt_24 : decode cX8_turnedAt 24 = .ok (.iaload, 1) := by decide +kernel
theorem dX8_turnedAt_25 : decode cX8_turnedAt 25 = .ok (.if_icmp .ge 24, 3) := by decide +kernel
theorem dX8_turnedAt_28 : decode cX8_turnedAt 28 = .ok (.aload_n 0, 1) := by decide +kernel
theorem dX8_turnedAt_29 : decode cX8_turnedAt 29 = .ok (.getfield 11, 3) := by decide +kernel
theorem dX8_turnedAt_32 : decode cX8_turnedAt 32 = .ok (.bipush 116, 2) := by decide +kernel
theorem dX8_turnedAt_34 : decode cX8_turnedAt 34 = .ok (.iload_n 2, 1) := by decide +kernel
theorem dX8_turnedAt_35 : decode cX8_turnedAt 35 = .ok (.iadd, 1) := by decide +kernel
theorem dX8_turnedAt_36 : decode cX8_turnedAt 36 = .ok (.iaload, 1) := by decide +kernel
theorem dX8_turnedAt_37 : decode cX8_turnedAt 37 = .ok (.iload_n 1, 1) := by decide +kernel
theorem dX8_turnedAt_38 : decode cX8_turnedAt 38 = .ok (.if_icmp .ne 5, 3) := by decide +kernel
theorem dX8_turnedAt_41 : decode cX8_turnedAt 41 = .ok (.iload_n 2, 1) := by decide +kernel
theorem dX8_turnedAt_42 : decode cX8_turnedAt 42 = .ok (.ireturn, 1) := by decide +kernel
theorem dX8_turnedAt_43 : decode cX8_turnedAt 43 = .ok (.iinc 2 1, 3) := by decide +kernel
theorem dX8_turnedAt_46 : decode cX8_turnedAt 46 = .ok (.goto (-39), 3) := by decide +kernel
theorem dX8_turnedAt_49 : decode cX8_turnedAt 49 = .ok (.bipush (-5), 2) := by decide +kernel
theorem dX8_turnedAt_51 : decode cX8_turnedAt 51 = .ok (.ireturn, 1) := by decide +kernel
theorem dX8_raw_0 : decode cX8_raw 0 = .ok (.aload_n 0, 1) := by decide +kernel
theorem dX8_raw_1 : decode cX8_raw 1 = .ok (.iload_n 1, 1) := by decide +kernel
theorem dX8_raw_2 : decode cX8_raw 2 = .ok (.iload_n 2, 1) := by decide +kernel
theorem dX8_raw_3 : decode cX8_raw 3 = .ok (.invokevirtual 96, 3) := by decide +kernel
theorem dX8_raw_6 : decode cX8_raw 6 = .ok (.ifCond .ne 5, 3) := by decide +kernel
theorem dX8_raw_9 : decode cX8_raw 9 = .ok (.iconst (-1), 1) := by decide +kernel
theorem dX8_raw_10 : decode cX8_raw 10 = .ok (.ireturn, 1) := by decide +kernel
theorem dX8_raw_11 : decode cX8_raw 11 = .ok (.aload_n 0, 1) := by decide +kernel
theorem dX8_raw_12 : decode cX8_raw 12 = .ok (.iload_n 1, 1) := by decide +kernel
theorem dX8_raw_13 : decode cX8_raw 13 = .ok (.invokevirtual 132, 3) := by decide +kernel
theorem dX8_raw_16 : decode cX8_raw 16 = .ok (.istore_n 3, 1) := by decide +kernel
theorem dX8_raw_17 : decode cX8_raw 17 = .ok (.iload_n 3, 1) := by decide +kernel
theorem dX8_raw_18 : decode cX8_raw 18 = .ok (.ifCond .lt 16, 3) := by decide +kernel
theorem dX8_raw_21 : decode cX8_raw 21 = .ok (.aload_n 0, 1) := by decide +kernel
theorem dX8_raw_22 : decode cX8_raw 22 = .ok (.getfield 11, 3) := by decide +kernel
theorem dX8_raw_25 : decode cX8_raw 25 = .ok (.bipush 92, 2) := by decide +kernel
theorem dX8_raw_27 : decode cX8_raw 27 = .ok (.iload_n 1, 1) := by decide +kernel
theorem dX8_raw_28 : decode cX8_raw 28 = .ok (.iadd, 1) := by decide +kernel
theorem dX8_raw_29 : decode cX8_raw 29 = .ok (.iaload, 1) := by decide +kernel
theorem dX8_raw_30 : decode cX8_raw 30 = .ok (.iload_n 2, 1) := by decide +kernel
theorem dX8_raw_31 : decode cX8_raw 31 = .ok (.if_icmp .eq 19, 3) := by decide +kernel
theorem dX8_raw_34 : decode cX8_raw 34 = .ok (.aload_n 0, 1) := by decide +kernel
theorem dX8_raw_35 : decode cX8_raw 35 = .ok (.getfield 11, 3) := by decide +kernel
theorem dX8_raw_38 : decode cX8_raw 38 = .ok (.sipush 140, 3) := by decide +kernel
theorem dX8_raw_41 : decode cX8_raw 41 = .ok (.bipush 6, 2) := by decide +kernel
theorem dX8_raw_43 : decode cX8_raw 43 = .ok (.iload_n 1, 1) := by decide +kernel
theorem dX8_raw_44 : decode cX8_raw 44 = .ok (.imul, 1) := by decide +kernel
theorem dX8_raw_45 : decode cX8_raw 45 = .ok (.iadd, 1) := by decide +kernel
theorem dX8_raw_46 : decode cX8_raw 46 = .ok (.iload_n 2, 1) := by decide +kernel
theorem dX8_raw_47 : decode cX8_raw 47 = .ok (.iadd, 1) := by decide +kernel
theorem dX8_raw_48 : decode cX8_raw 48 = .ok (.iaload, 1) := by decide +kernel
theorem dX8_raw_49 : decode cX8_raw 49 = .ok (.ireturn, 1) := by decide +kernel
theorem dX8_raw_50 : decode cX8_raw 50 = .ok (.iload_n 3, 1) := by decide +kernel
theorem dX8_raw_51 : decode cX8_raw 51 = .ok (.aload_n 0, 1) := by decide +kernel
theorem dX8_raw_52 : decode cX8_raw 52 = .ok (.getfield 11, 3) := by decide +kernel
theorem dX8_raw_55 : decode cX8_raw 55 = .ok (.iconst 3, 1) := by decide +kernel
theorem dX8_raw_56 : decode cX8_raw 56 = .ok (.iaload, 1) := by decide +kernel
theorem dX8_raw_57 : decode cX8_raw 57 = .ok (.if_icmp .ne 8, 3) := by decide +kernel
theorem dX8_raw_60 : decode cX8_raw 60 = .ok (.bipush (-5), 2) := by decide +kernel
theorem dX8_raw_62 : decode cX8_raw 62 = .ok (.goto 14, 3) := by decide +kernel
theorem dX8_raw_65 : decode cX8_raw 65 = .ok (.aload_n 0, 1) := by decide +kernel
theorem dX8_raw_66 : decode cX8_raw 66 = .ok (.getfield 11, 3) := by decide +kernel
theorem dX8_raw_69 : decode cX8_raw 69 = .ok (.bipush 116, 2) := by decide +kernel
theorem dX8_raw_71 : decode cX8_raw 71 = .ok (.iload_n 3, 1) := by decide +kernel
theorem dX8_raw_72 : decode cX8_raw 72 = .ok (.iadd, 1) := by decide +kernel
theorem dX8_raw_73 : decode cX8_raw 73 = .ok (.iconst 1, 1) := by decide +kernel
theorem dX8_raw_74 : decode cX8_raw 74 = .ok (.isub, 1) := by decide +kernel
theorem dX8_raw_75 : decode cX8_raw 75 = .ok (.iaload, 1) := by decide +kernel
theorem dX8_raw_76 : decode cX8_raw 76 = .ok (.ireturn, 1) := by decide +kernel
theorem dX8_hold_0 : decode cX8_hold 0 = .ok (.aload_n 0, 1) := by decide +kernel
theorem dX8_hold_1 : decode cX8_hold 1 = .ok (.iload_n 1, 1) := by decide +kernel
theorem dX8_hold_2 : decode cX8_hold 2 = .ok (.iload_n 2, 1) := by decide +kernel
theorem dX8_hold_3 : decode cX8_hold 3 = .ok (.invokevirtual 96, 3) := by decide +kernel
theorem dX8_hold_6 : decode cX8_hold 6 = .ok (.ifCond .eq 16, 3) := by decide +kernel
theorem dX8_hold_9 : decode cX8_hold 9 = .ok (.iload_n 3, 1) := by decide +kernel
theorem dX8_hold_10 : decode cX8_hold 10 = .ok (.iconst (-1), 1) := by decide +kernel
theorem dX8_hold_11 : decode cX8_hold 11 = .ok (.if_icmp .eq 13, 3) := by decide +kernel
theorem dX8_hold_14 : decode cX8_hold 14 = .ok (.aload_n 0, 1) := by decide +kernel
theorem dX8_hold_15 : decode cX8_hold 15 = .ok (.iload_n 3, 1) := by decide +kernel
theorem dX8_hold_16 : decode cX8_hold 16 = .ok (.invokevirtual 65, 3) := by decide +kernel
theorem dX8_hold_19 : decode cX8_hold 19 = .ok (.ifCond .ne 5, 3) := by decide +kernel
theorem dX8_hold_22 : decode cX8_hold 22 = .ok (.iconst (-1), 1) := by decide +kernel
theorem dX8_hold_23 : decode cX8_hold 23 = .ok (.ireturn, 1) := by decide +kernel
theorem dX8_hold_24 : decode cX8_hold 24 = .ok (.aload_n 0, 1) := by decide +kernel
theorem dX8_hold_25 : decode cX8_hold 25 = .ok (.getfield 11, 3) := by decide +kernel
theorem dX8_hold_28 : decode cX8_hold 28 = .ok (.iconst 2, 1) := by decide +kernel
theorem dX8_hold_29 : decode cX8_hold 29 = .ok (.iaload, 1) := by decide +kernel
theorem dX8_hold_30 : decode cX8_hold 30 = .ok (.iconst 1, 1) := by decide +kernel
theorem dX8_hold_31 : decode cX8_hold 31 = .ok (.if_icmp .ne 6, 3) := by decide +kernel
theorem dX8_hold_34 : decode cX8_hold 34 = .ok (.bipush (-3), 2) := by decide +kernel
theorem dX8_hold_36 : decode cX8_hold 36 = .ok (.ireturn, 1) := by decide +kernel
theorem dX8_hold_37 : decode cX8_hold 37 = .ok (.aload_n 0, 1) := by decide +kernel
theorem dX8_hold_38 : decode cX8_hold 38 = .ok (.getfield 11, 3) := by decide +kernel
theorem dX8_hold_41 : decode cX8_hold 41 = .ok (.sipush 140, 3) := by decide +kernel
theorem dX8_hold_44 : decode cX8_hold 44 = .ok (.bipush 6, 2) := by decide +kernel
theorem dX8_hold_46 : decode cX8_hold 46 = .ok (.iload_n 1, 1) := by decide +kernel
theorem dX8_hold_47 : decode cX8_hold 47 = .ok (.imul, 1) := by decide +kernel
theorem dX8_hold_48 : decode cX8_hold 48 = .ok (.iadd, 1) := by decide +kernel
theorem dX8_hold_49 : decode cX8_hold 49 = .ok (.iload_n 2, 1) := by decide +kernel
theorem dX8_hold_50 : decode cX8_hold 50 = .ok (.iadd, 1) := by decide +kernel
theorem dX8_hold_51 : decode cX8_hold 51 = .ok (.iaload, 1) := by decide +kernel
theorem dX8_hold_52 : decode cX8_hold 52 = .ok (.istore 4, 2) := by decide +kernel
theorem dX8_hold_54 : decode cX8_hold 54 = .ok (.aload_n 0, 1) := by decide +kernel
theorem dX8_hold_55 : decode cX8_hold 55 = .ok (.getfield 11, 3) := by decide +kernel
theorem dX8_hold_58 : decode cX8_hold 58 = .ok (.sipush 140, 3) := by decide +kernel
theorem dX8_hold_61 : decode cX8_hold 61 = .ok (.bipush 6, 2) := by decide +kernel
theorem dX8_hold_63 : decode cX8_hold 63 = .ok (.iload_n 1, 1) := by decide +kernel
theorem dX8_hold_64 : decode cX8_hold 64 = .ok (.imul, 1) := by decide +kernel
theorem dX8_hold_65 : decode cX8_hold 65 = .ok (.iadd, 1) := by decide +kernel
theorem dX8_hold_66 : decode cX8_hold 66 = .ok (.iload_n 2, 1) := by decide +kernel
theorem dX8_hold_67 : decode cX8_hold 67 = .ok (.iadd, 1) := by decide +kernel
theorem dX8_hold_68 : decode cX8_hold 68 = .ok (.iload_n 3, 1) := by decide +kernel
theorem dX8_hold_69 : decode cX8_hold 69 = .ok (.iconst (-1), 1) := by decide +kernel
theorem dX8_hold_70 : decode cX8_hold 70 = .ok (.if_icmp .ne 8, 3) := by decide +kernel
theorem dX8_hold_73 : decode cX8_hold 73 = .ok (.bipush (-5), 2) := by decide +kernel
theorem dX8_hold_75 : decode cX8_hold 75 = .ok (.goto 4, 3) := by decide +kernel
theorem dX8_hold_78 : decode cX8_hold 78 = .ok (.iload_n 3, 1) := by decide +kernel
theorem dX8_hold_79 : decode cX8_hold 79 = .ok (.iastore, 1) := by decide +kernel
theorem dX8_hold_80 : decode cX8_hold 80 = .ok (.aload_n 0, 1) := by decide +kernel
theorem dX8_hold_81 : decode cX8_hold 81 = .ok (.getfield 11, 3) := by decide +kernel
theorem dX8_hold_84 : decode cX8_hold 84 = .ok (.bipush 15, 2) := by decide +kernel
theorem dX8_hold_86 : decode cX8_hold 86 = .ok (.iconst 0, 1) := by decide +kernel
theorem dX8_hold_87 : decode cX8_hold 87 = .ok (.iastore, 1) := by decide +kernel
theorem dX8_hold_88 : decode cX8_hold 88 = .ok (.iload 4, 2) := by decide +kernel
theorem dX8_hold_90 : decode cX8_hold 90 = .ok (.ireturn, 1) := by decide +kernel
theorem dX8_tag_0 : decode cX8_tag 0 = .ok (.aload_n 0, 1) := by decide +kernel
theorem dX8_tag_1 : decode cX8_tag 1 = .ok (.iload_n 1, 1) := by decide +kernel
theorem dX8_tag_2 : decode cX8_tag 2 = .ok (.invokevirtual 65, 3) := by decide +kernel
theorem dX8_tag_5 : decode cX8_tag 5 = .ok (.ifCond .ne 5, 3) := by decide +kernel
theorem dX8_tag_8 : decode cX8_tag 8 = .ok (.iconst (-1), 1) := by decide +kernel
theorem dX8_tag_9 : decode cX8_tag 9 = .ok (.ireturn, 1) := by decide +kernel
theorem dX8_tag_10 : decode cX8_tag 10 = .ok (.iload_n 2, 1) := by decide +kernel
theorem dX8_tag_11 : decode cX8_tag 11 = .ok (.i2l, 1) := by decide +kernel
theorem dX8_tag_12 : decode cX8_tag 12 = .ok (.lconst 0, 1) := by decide +kernel
theorem dX8_tag_13 : decode cX8_tag 13 = .ok (.ldc2_w 71, 3) := by decide +kernel
theorem dX8_tag_16 : decode cX8_tag 16 = .ok (.invokestatic 57, 3) := by decide +kernel
theorem dX8_tag_19 : decode cX8_tag 19 = .ok (.ifCond .ne 6, 3) := by decide +kernel
theorem dX8_tag_22 : decode cX8_tag 22 = .ok (.bipush (-2), 2) := by decide +kernel
theorem dX8_tag_24 : decode cX8_tag 24 = .ok (.ireturn, 1) := by decide +kernel
theorem dX8_tag_25 : decode cX8_tag 25 = .ok (.aload_n 0, 1) := by decide +kernel
theorem dX8_tag_26 : decode cX8_tag 26 = .ok (.getfield 11, 3) := by decide +kernel
theorem dX8_tag_29 : decode cX8_tag 29 = .ok (.iconst 2, 1) := by decide +kernel
theorem dX8_tag_30 : decode cX8_tag 30 = .ok (.iaload, 1) := by decide +kernel
theorem dX8_tag_31 : decode cX8_tag 31 = .ok (.iconst 1, 1) := by decide +kernel
theorem dX8_tag_32 : decode cX8_tag 32 = .ok (.if_icmp .ne 6, 3) := by decide +kernel
theorem dX8_tag_35 : decode cX8_tag 35 = .ok (.bipush (-3), 2) := by decide +kernel
theorem dX8_tag_37 : decode cX8_tag 37 = .ok (.ireturn, 1) := by decide +kernel
theorem dX8_tag_38 : decode cX8_tag 38 = .ok (.aload_n 0, 1) := by decide +kernel
theorem dX8_tag_39 : decode cX8_tag 39 = .ok (.getfield 11, 3) := by decide +kernel
theorem dX8_tag_42 : decode cX8_tag 42 = .ok (.bipush 44, 2) := by decide +kernel
theorem dX8_tag_44 : decode cX8_tag 44 = .ok (.iload_n 1, 1) := by decide +kernel
theorem dX8_tag_45 : decode cX8_tag 45 = .ok (.iadd, 1) := by decide +kernel
theorem dX8_tag_46 : decode cX8_tag 46 = .ok (.iaload, 1) := by decide +kernel
theorem dX8_tag_47 : decode cX8_tag 47 = .ok (.istore_n 3, 1) := by decide +kernel
theorem dX8_tag_48 : decode cX8_tag 48 = .ok (.aload_n 0, 1) := by decide +kernel
theorem dX8_tag_49 : decode cX8_tag 49 = .ok (.getfield 11, 3) := by decide +kernel
theorem dX8_tag_52 : decode cX8_tag 52 = .ok (.bipush 44, 2) := by decide +kernel
theorem dX8_tag_54 : decode cX8_tag 54 = .ok (.iload_n 1, 1) := by decide +kernel
theorem dX8_tag_55 : decode cX8_tag 55 = .ok (.iadd, 1) := by decide +kernel
theorem dX8_tag_56 : decode cX8_tag 56 = .ok (.iload_n 2, 1) := by decide +kernel
theorem dX8_tag_57 : decode cX8_tag 57 = .ok (.iastore, 1) := by decide +kernel
theorem dX8_tag_58 : decode cX8_tag 58 = .ok (.aload_n 0, 1) := by decide +kernel
theorem dX8_tag_59 : decode cX8_tag 59 = .ok (.getfield 11, 3) := by decide +kernel
theorem dX8_tag_62 : decode cX8_tag 62 = .ok (.bipush 15, 2) := by decide +kernel
theorem dX8_tag_64 : decode cX8_tag 64 = .ok (.iconst 0, 1) := by decide +kernel
theorem dX8_tag_65 : decode cX8_tag 65 = .ok (.iastore, 1) := by decide +kernel
theorem dX8_tag_66 : decode cX8_tag 66 = .ok (.iload_n 3, 1) := by decide +kernel
theorem dX8_tag_67 : decode cX8_tag 67 = .ok (.ireturn, 1) := by decide +kernel
theorem dX8_root_0 : decode cX8_root 0 = .ok (.iload_n 1, 1) := by decide +kernel
theorem dX8_root_1 : decode cX8_root 1 = .ok (.i2l, 1) := by decide +kernel
theorem dX8_root_2 : decode cX8_root 2 = .ok (.lconst 0, 1) := by decide +kernel
theorem dX8_root_3 : decode cX8_root 3 = .ok (.ldc2_w 135, 3) := by decide +kernel
theorem dX8_root_6 : decode cX8_root 6 = .ok (.invokestatic 57, 3) := by decide +kernel
theorem dX8_root_9 : decode cX8_root 9 = .ok (.ifCond .eq 16, 3) := by decide +kernel
theorem dX8_root_12 : decode cX8_root 12 = .ok (.iload_n 2, 1) := by decide +kernel
theorem dX8_root_13 : decode cX8_root 13 = .ok (.iconst (-1), 1) := by decide +kernel
theorem dX8_root_14 : decode cX8_root 14 = .ok (.if_icmp .eq 13, 3) := by decide +kernel
theorem dX8_root_17 : decode cX8_root 17 = .ok (.aload_n 0, 1) := by decide +kernel
theorem dX8_root_18 : decode cX8_root 18 = .ok (.iload_n 2, 1) := by decide +kernel
theorem dX8_root_19 : decode cX8_root 19 = .ok (.invokevirtual 65, 3) := by decide +kernel
theorem dX8_root_22 : decode cX8_root 22 = .ok (.ifCond .ne 5, 3) := by decide +kernel
theorem dX8_root_25 : decode cX8_root 25 = .ok (.iconst (-1), 1) := by decide +kernel
theorem dX8_root_26 : decode cX8_root 26 = .ok (.ireturn, 1) := by decide +kernel
theorem dX8_root_27 : decode cX8_root 27 = .ok (.aload_n 0, 1) := by decide +kernel
theorem dX8_root_28 : decode cX8_root 28 = .ok (.getfield 11, 3) := by decide +kernel
theorem dX8_root_31 : decode cX8_root 31 = .ok (.iconst 2, 1) := by decide +kernel
theorem dX8_root_32 : decode cX8_root 32 = .ok (.iaload, 1) := by decide +kernel
theorem dX8_root_33 : decode cX8_root 33 = .ok (.iconst 1, 1) := by decide +kernel
theorem dX8_root_34 : decode cX8_root 34 = .ok (.if_icmp .ne 6, 3) := by decide +kernel
theorem dX8_root_37 : decode cX8_root 37 = .ok (.bipush (-3), 2) := by decide +kernel
theorem dX8_root_39 : decode cX8_root 39 = .ok (.ireturn, 1) := by decide +kernel
theorem dX8_root_40 : decode cX8_root 40 = .ok (.aload_n 0, 1) := by decide +kernel
theorem dX8_root_41 : decode cX8_root 41 = .ok (.getfield 11, 3) := by decide +kernel
theorem dX8_root_44 : decode cX8_root 44 = .ok (.bipush 16, 2) := by decide +kernel
theorem dX8_root_46 : decode cX8_root 46 = .ok (.iload_n 1, 1) := by decide +kernel
theorem dX8_root_47 : decode cX8_root 47 = .ok (.iadd, 1) := by decide +kernel
theorem dX8_root_48 : decode cX8_root 48 = .ok (.iaload, 1) := by decide +kernel
theorem dX8_root_49 : decode cX8_root 49 = .ok (.istore_n 3, 1) := by decide +kernel
theorem dX8_root_50 : decode cX8_root 50 = .ok (.aload_n 0, 1) := by decide +kernel
theorem dX8_root_51 : decode cX8_root 51 = .ok (.getfield 11, 3) := by decide +kernel
theorem dX8_root_54 : decode cX8_root 54 = .ok (.bipush 16, 2) := by decide +kernel
theorem dX8_root_56 : decode cX8_root 56 = .ok (.iload_n 1, 1) := by decide +kernel
theorem dX8_root_57 : decode cX8_root 57 = .ok (.iadd, 1) := by decide +kernel
theorem dX8_root_58 : decode cX8_root 58 = .ok (.iload_n 2, 1) := by decide +kernel
theorem dX8_root_59 : decode cX8_root 59 = .ok (.iconst (-1), 1) := by decide +kernel
theorem dX8_root_60 : decode cX8_root 60 = .ok (.if_icmp .ne 8, 3) := by decide +kernel
theorem dX8_root_63 : decode cX8_root 63 = .ok (.bipush (-5), 2) := by decide +kernel
theorem dX8_root_65 : decode cX8_root 65 = .ok (.goto 4, 3) := by decide +kernel
theorem dX8_root_68 : decode cX8_root 68 = .ok (.iload_n 2, 1) := by decide +kernel
theorem dX8_root_69 : decode cX8_root 69 = .ok (.iastore, 1) := by decide +kernel
theorem dX8_root_70 : decode cX8_root 70 = .ok (.aload_n 0, 1) := by decide +kernel
theorem dX8_root_71 : decode cX8_root 71 = .ok (.getfield 11, 3) := by decide +kernel
theorem dX8_root_74 : decode cX8_root 74 = .ok (.bipush 15, 2) := by decide +kernel
theorem dX8_root_76 : decode cX8_root 76 = .ok (.iconst 0, 1) := by decide +kernel
theorem dX8_root_77 : decode cX8_root 77 = .ok (.iastore, 1) := by decide +kernel
theorem dX8_root_78 : decode cX8_root 78 = .ok (.iload_n 3, 1) := by decide +kernel
theorem dX8_root_79 : decode cX8_root 79 = .ok (.ireturn, 1) := by decide +kernel
theorem dX8_pin_0 : decode cX8_pin 0 = .ok (.aload_n 0, 1) := by decide +kernel
theorem dX8_pin_1 : decode cX8_pin 1 = .ok (.iload_n 1, 1) := by decide +kernel
theorem dX8_pin_2 : decode cX8_pin 2 = .ok (.invokevirtual 65, 3) := by decide +kernel
theorem dX8_pin_5 : decode cX8_pin 5 = .ok (.ifCond .ne 5, 3) := by decide +kernel
theorem dX8_pin_8 : decode cX8_pin 8 = .ok (.iconst (-1), 1) := by decide +kernel
theorem dX8_pin_9 : decode cX8_pin 9 = .ok (.ireturn, 1) := by decide +kernel
theorem dX8_pin_10 : decode cX8_pin 10 = .ok (.aload_n 0, 1) := by decide +kernel
theorem dX8_pin_11 : decode cX8_pin 11 = .ok (.iload_n 1, 1) := by decide +kernel
theorem dX8_pin_12 : decode cX8_pin 12 = .ok (.invokevirtual 132, 3) := by decide +kernel
theorem dX8_pin_15 : decode cX8_pin 15 = .ok (.ifCond .lt 6, 3) := by decide +kernel
theorem dX8_pin_18 : decode cX8_pin 18 = .ok (.bipush (-3), 2) := by decide +kernel
theorem dX8_pin_20 : decode cX8_pin 20 = .ok (.ireturn, 1) := by decide +kernel
theorem dX8_pin_21 : decode cX8_pin 21 = .ok (.aload_n 0, 1) := by decide +kernel
theorem dX8_pin_22 : decode cX8_pin 22 = .ok (.getfield 11, 3) := by decide +kernel
theorem dX8_pin_25 : decode cX8_pin 25 = .ok (.bipush 14, 2) := by decide +kernel
theorem dX8_pin_27 : decode cX8_pin 27 = .ok (.iaload, 1) := by decide +kernel
theorem dX8_pin_28 : decode cX8_pin 28 = .ok (.iload_n 1, 1) := by decide +kernel
theorem dX8_pin_29 : decode cX8_pin 29 = .ok (.invokestatic 61, 3) := by decide +kernel
theorem dX8_pin_32 : decode cX8_pin 32 = .ok (.invokestatic 106, 3) := by decide +kernel
theorem dX8_pin_35 : decode cX8_pin 35 = .ok (.istore_n 3, 1) := by decide +kernel
theorem dX8_pin_36 : decode cX8_pin 36 = .ok (.aload_n 0, 1) := by decide +kernel
theorem dX8_pin_37 : decode cX8_pin 37 = .ok (.getfield 11, 3) := by decide +kernel
theorem dX8_pin_40 : decode cX8_pin 40 = .ok (.bipush 14, 2) := by decide +kernel
theorem dX8_pin_42 : decode cX8_pin 42 = .ok (.iload_n 2, 1) := by decide +kernel
theorem dX8_pin_43 : decode cX8_pin 43 = .ok (.ifCond .eq 17, 3) := by decide +kernel
theorem dX8_pin_46 : decode cX8_pin 46 = .ok (.aload_n 0, 1) := by decide +kernel
theorem dX8_pin_47 : decode cX8_pin 47 = .ok (.getfield 11, 3) := by decide +kernel
theorem dX8_pin_50 : decode cX8_pin 50 = .ok (.bipush 14, 2) := by decide +kernel
theorem dX8_pin_52 : decode cX8_pin 52 = .ok (.iaload, 1) := by decide +kernel
theorem dX8_pin_53 : decode cX8_pin 53 = .ok (.iconst 1, 1) := by decide +kernel
theorem dX8_pin_54 : decode cX8_pin 54 = .ok (.iload_n 1, 1) := by decide +kernel
theorem dX8_pin_55 : decode cX8_pin 55 = .ok (.ishl, 1) := by decide +kernel
theorem dX8_pin_56 : decode cX8_pin 56 = .ok (.ior, 1) := by decide +kernel
theorem dX8_pin_57 : decode cX8_pin 57 = .ok (.goto 16, 3) := by decide +kernel
theorem dX8_pin_60 : decode cX8_pin 60 = .ok (.aload_n 0, 1) := by decide +kernel
theorem dX8_pin_61 : decode cX8_pin 61 = .ok (.getfield 11, 3) := by decide +kernel
theorem dX8_pin_64 : decode cX8_pin 64 = .ok (.bipush 14, 2) := by decide +kernel
theorem dX8_pin_66 : decode cX8_pin 66 = .ok (.iaload, 1) := by decide +kernel
theorem dX8_pin_67 : decode cX8_pin 67 = .ok (.iconst 1, 1) := by decide +kernel
theorem dX8_pin_68 : decode cX8_pin 68 = .ok (.iload_n 1, 1) := by decide +kernel
theorem dX8_pin_69 : decode cX8_pin 69 = .ok (.ishl, 1) := by decide +kernel
theorem dX8_pin_70 : decode cX8_pin 70 = .ok (.iconst (-1), 1) := by decide +kernel
theorem dX8_pin_71 : decode cX8_pin 71 = .ok (.ixor, 1) := by decide +kernel
theorem dX8_pin_72 : decode cX8_pin 72 = .ok (.iand, 1) := by decide +kernel
theorem dX8_pin_73 : decode cX8_pin 73 = .ok (.iastore, 1) := by decide +kernel
theorem dX8_pin_74 : decode cX8_pin 74 = .ok (.iload_n 3, 1) := by decide +kernel
theorem dX8_pin_75 : decode cX8_pin 75 = .ok (.ireturn, 1) := by decide +kernel
theorem dX8_feed_0 : decode cX8_feed 0 = .ok (.iload_n 1, 1) := by decide +kernel
theorem dX8_feed_1 : decode cX8_feed 1 = .ok (.i2l, 1) := by decide +kernel
theorem dX8_feed_2 : decode cX8_feed 2 = .ok (.lconst 0, 1) := by decide +kernel
theorem dX8_feed_3 : decode cX8_feed 3 = .ok (.ldc2_w 137, 3) := by decide +kernel
theorem dX8_feed_6 : decode cX8_feed 6 = .ok (.invokestatic 57, 3) := by decide +kernel
theorem dX8_feed_9 : decode cX8_feed 9 = .ok (.ifCond .ne 6, 3) := by decide +kernel
theorem dX8_feed_12 : decode cX8_feed 12 = .ok (.bipush (-2), 2) := by decide +kernel
theorem dX8_feed_14 : decode cX8_feed 14 = .ok (.ireturn, 1) := by decide +kernel
theorem dX8_feed_15 : decode cX8_feed 15 = .ok (.aload_n 0, 1) := by decide +kernel
theorem dX8_feed_16 : decode cX8_feed 16 = .ok (.getfield 139, 3) := by decide +kernel
theorem dX8_feed_19 : decode cX8_feed 19 = .ok (.bipush 100, 2) := by decide +kernel
theorem dX8_feed_21 : decode cX8_feed 21 = .ok (.if_icmp .ne 6, 3) := by decide +kernel
theorem dX8_feed_24 : decode cX8_feed 24 = .ok (.bipush (-4), 2) := by decide +kernel
theorem dX8_feed_26 : decode cX8_feed 26 = .ok (.ireturn, 1) := by decide +kernel
theorem dX8_feed_27 : decode cX8_feed 27 = .ok (.aload_n 0, 1) := by decide +kernel
theorem dX8_feed_28 : decode cX8_feed 28 = .ok (.getfield 21, 3) := by decide +kernel
theorem dX8_feed_31 : decode cX8_feed 31 = .ok (.aload_n 0, 1) := by decide +kernel
theorem dX8_feed_32 : decode cX8_feed 32 = .ok (.getfield 139, 3) := by decide +kernel
theorem dX8_feed_35 : decode cX8_feed 35 = .ok (.iload_n 1, 1) := by decide +kernel
theorem dX8_feed_36 : decode cX8_feed 36 = .ok (.iastore, 1) := by decide +kernel
theorem dX8_feed_37 : decode cX8_feed 37 = .ok (.aload_n 0, 1) := by decide +kernel
theorem dX8_feed_38 : decode cX8_feed 38 = .ok (.dup, 1) := by decide +kernel
theorem dX8_feed_39 : decode cX8_feed 39 = .ok (.getfield 139, 3) := by decide +kernel
theorem dX8_feed_42 : decode cX8_feed 42 = .ok (.iconst 1, 1) := by decide +kernel
theorem dX8_feed_43 : decode cX8_feed 43 = .ok (.iadd, 1) := by decide +kernel
theorem dX8_feed_44 : decode cX8_feed 44 = .ok (.putfield 139, 3) := by decide +kernel
theorem dX8_feed_47 : decode cX8_feed 47 = .ok (.aload_n 0, 1) := by decide +kernel
theorem dX8_feed_48 : decode cX8_feed 48 = .ok (.getfield 139, 3) := by decide +kernel
theorem dX8_feed_51 : decode cX8_feed 51 = .ok (.ireturn, 1) := by decide +kernel
theorem dX8_isNew_0 : decode cX8_isNew 0 = .ok (.aload_n 0, 1) := by decide +kernel
theorem dX8_isNew_1 : decode cX8_isNew 1 = .ok (.getfield 33, 3) := by decide +kernel
theorem dX8_isNew_4 : decode cX8_isNew 4 = .ok (.aload_n 0, 1) := by decide +kernel
theorem dX8_isNew_5 : decode cX8_isNew 5 = .ok (.getfield 143, 3) := by decide +kernel
theorem dX8_isNew_8 : decode cX8_isNew 8 = .ok (.iload_n 1, 1) := by decide +kernel
theorem dX8_isNew_9 : decode cX8_isNew 9 = .ok (.iastore, 1) := by decide +kernel
theorem dX8_isNew_10 : decode cX8_isNew 10 = .ok (.aload_n 0, 1) := by decide +kernel
theorem dX8_isNew_11 : decode cX8_isNew 11 = .ok (.getfield 36, 3) := by decide +kernel
theorem dX8_isNew_14 : decode cX8_isNew 14 = .ok (.aload_n 0, 1) := by decide +kernel
theorem dX8_isNew_15 : decode cX8_isNew 15 = .ok (.getfield 143, 3) := by decide +kernel
theorem dX8_isNew_18 : decode cX8_isNew 18 = .ok (.iload_n 2, 1) := by decide +kernel
theorem dX8_isNew_19 : decode cX8_isNew 19 = .ok (.iastore, 1) := by decide +kernel
theorem dX8_isNew_20 : decode cX8_isNew 20 = .ok (.aload_n 0, 1) := by decide +kernel
theorem dX8_isNew_21 : decode cX8_isNew 21 = .ok (.getfield 39, 3) := by decide +kernel
theorem dX8_isNew_24 : decode cX8_isNew 24 = .ok (.aload_n 0, 1) := by decide +kernel
theorem dX8_isNew_25 : decode cX8_isNew 25 = .ok (.getfield 143, 3) := by decide +kernel
theorem dX8_isNew_28 : decode cX8_isNew 28 = .ok (.iconst 0, 1) := by decide +kernel
theorem dX8_isNew_29 : decode cX8_isNew 29 = .ok (.iastore, 1) := by decide +kernel
theorem dX8_isNew_30 : decode cX8_isNew 30 = .ok (.aload_n 0, 1) := by decide +kernel
theorem dX8_isNew_31 : decode cX8_isNew 31 = .ok (.dup, 1) := by decide +kernel
theorem dX8_isNew_32 : decode cX8_isNew 32 = .ok (.getfield 143, 3) := by decide +kernel
theorem dX8_isNew_35 : decode cX8_isNew 35 = .ok (.iconst 1, 1) := by decide +kernel
theorem dX8_isNew_36 : decode cX8_isNew 36 = .ok (.iadd, 1) := by decide +kernel
theorem dX8_isNew_37 : decode cX8_isNew 37 = .ok (.putfield 143, 3) := by decide +kernel
theorem dX8_isNew_40 : decode cX8_isNew 40 = .ok (.aload_n 0, 1) := by decide +kernel
theorem dX8_isNew_41 : decode cX8_isNew 41 = .ok (.getfield 143, 3) := by decide +kernel
theorem dX8_isNew_44 : decode cX8_isNew 44 = .ok (.iconst 1, 1) := by decide +kernel
theorem dX8_isNew_45 : decode cX8_isNew 45 = .ok (.isub, 1) := by decide +kernel
theorem dX8_isNew_46 : decode cX8_isNew 46 = .ok (.ireturn, 1) := by decide +kernel
theorem dX8_gives_0 : decode cX8_gives 0 = .ok (.aload_n 0, 1) := by decide +kernel
theorem dX8_gives_1 : decode cX8_gives 1 = .ok (.getfield 146, 3) := by decide +kernel
theorem dX8_gives_4 : decode cX8_gives 4 = .ok (.ifCond .ne 14, 3) := by decide +kernel
theorem dX8_gives_7 : decode cX8_gives 7 = .ok (.aload_n 0, 1) := by decide +kernel
theorem dX8_gives_8 : decode cX8_gives 8 = .ok (.iload_n 1, 1) := by decide +kernel
theorem dX8_gives_9 : decode cX8_gives 9 = .ok (.putfield 149, 3) := by decide +kernel
theorem dX8_gives_12 : decode cX8_gives 12 = .ok (.aload_n 0, 1) := by decide +kernel
theorem dX8_gives_13 : decode cX8_gives 13 = .ok (.iconst 1, 1) := by decide +kernel
theorem dX8_gives_14 : decode cX8_gives 14 = .ok (.putfield 152, 3) := by decide +kernel
theorem dX8_gives_17 : decode cX8_gives 17 = .ok (.return_, 1) := by decide +kernel
theorem dX8_gives_18 : decode cX8_gives 18 = .ok (.aload_n 0, 1) := by decide +kernel
theorem dX8_gives_19 : decode cX8_gives 19 = .ok (.getfield 24, 3) := by decide +kernel
theorem dX8_gives_22 : decode cX8_gives 22 = .ok (.aload_n 0, 1) := by decide +kernel
theorem dX8_gives_23 : decode cX8_gives 23 = .ok (.getfield 146, 3) := by decide +kernel
theorem dX8_gives_26 : decode cX8_gives 26 = .ok (.iconst 1, 1) := by decide +kernel
theorem dX8_gives_27 : decode cX8_gives 27 = .ok (.isub, 1) := by decide +kernel
theorem dX8_gives_28 : decode cX8_gives 28 = .ok (.iaload, 1) := by decide +kernel
theorem dX8_gives_29 : decode cX8_gives 29 = .ok (.istore_n 2, 1) := by decide +kernel
theorem dX8_gives_30 : decode cX8_gives 30 = .ok (.aload_n 0, 1) := by decide +kernel
theorem dX8_gives_31 : decode cX8_gives 31 = .ok (.getfield 42, 3) := by decide +kernel
theorem dX8_gives_34 : decode cX8_gives 34 = .ok (.bipush 6, 2) := by decide +kernel
theorem dX8_gives_36 : decode cX8_gives 36 = .ok (.iload_n 2, 1) := by decide +kernel
theorem dX8_gives_37 : decode cX8_gives 37 = .ok (.imul, 1) := by decide +kernel
theorem dX8_gives_38 : decode cX8_gives 38 = .ok (.aload_n 0, 1) := by decide +kernel
theorem dX8_gives_39 : decode cX8_gives 39 = .ok (.getfield 39, 3) := by decide +kernel
theorem dX8_gives_42 : decode cX8_gives 42 = .ok (.iload_n 2, 1) := by decide +kernel
theorem dX8_gives_43 : decode cX8_gives 43 = .ok (.iaload, 1) := by decide +kernel
theorem dX8_gives_44 : decode cX8_gives 44 = .ok (.iadd, 1) := by decide +kernel
theorem dX8_gives_45 : decode cX8_gives 45 = .ok (.iload_n 1, 1) := by decide +kernel
theorem dX8_gives_46 : decode cX8_gives 46 = .ok (.iastore, 1) := by decide +kernel
theorem dX8_gives_47 : decode cX8_gives 47 = .ok (.aload_n 0, 1) := by decide +kernel
theorem dX8_gives_48 : decode cX8_gives 48 = .ok (.getfield 39, 3) := by decide +kernel
theorem dX8_gives_51 : decode cX8_gives 51 = .ok (.iload_n 2, 1) := by decide +kernel
theorem dX8_gives_52 : decode cX8_gives 52 = .ok (.dup2, 1) := by decide +kernel
theorem dX8_gives_53 : decode cX8_gives 53 = .ok (.iaload, 1) := by decide +kernel
theorem dX8_gives_54 : decode cX8_gives 54 = .ok (.iconst 1, 1) := by decide +kernel
theorem dX8_gives_55 : decode cX8_gives 55 = .ok (.iadd, 1) := by decide +kernel
theorem dX8_gives_56 : decode cX8_gives 56 = .ok (.iastore, 1) := by decide +kernel
theorem dX8_gives_57 : decode cX8_gives 57 = .ok (.aload_n 0, 1) := by decide +kernel
theorem dX8_gives_58 : decode cX8_gives 58 = .ok (.getfield 30, 3) := by decide +kernel
theorem dX8_gives_61 : decode cX8_gives 61 = .ok (.aload_n 0, 1) := by decide +kernel
theorem dX8_gives_62 : decode cX8_gives 62 = .ok (.getfield 146, 3) := by decide +kernel
theorem dX8_gives_65 : decode cX8_gives 65 = .ok (.iconst 1, 1) := by decide +kernel
theorem dX8_gives_66 : decode cX8_gives 66 = .ok (.isub, 1) := by decide +kernel
theorem dX8_gives_67 : decode cX8_gives 67 = .ok (.iconst 1, 1) := by decide +kernel
theorem dX8_gives_68 : decode cX8_gives 68 = .ok (.iastore, 1) := by decide +kernel
theorem dX8_gives_69 : decode cX8_gives 69 = .ok (.return_, 1) := by decide +kernel
theorem dX8_begins_0 : decode cX8_begins 0 = .ok (.iload_n 1, 1) := by decide +kernel
theorem dX8_begins_1 : decode cX8_begins 1 = .ok (.i2l, 1) := by decide +kernel
theorem dX8_begins_2 : decode cX8_begins 2 = .ok (.ldc2_w 156, 3) := by decide +kernel
theorem dX8_begins_5 : decode cX8_begins 5 = .ok (.ldc2_w 158, 3) := by decide +kernel
theorem dX8_begins_8 : decode cX8_begins 8 = .ok (.invokestatic 57, 3) := by decide +kernel
theorem dX8_begins_11 : decode cX8_begins 11 = .ok (.ifCond .eq 21, 3) := by decide +kernel
theorem dX8_begins_14 : decode cX8_begins 14 = .ok (.aload_n 0, 1) := by decide +kernel
theorem dX8_begins_15 : decode cX8_begins 15 = .ok (.bipush 100, 2) := by decide +kernel
theorem dX8_begins_17 : decode cX8_begins 17 = .ok (.aload_n 0, 1) := by decide +kernel
theorem dX8_begins_18 : decode cX8_begins 18 = .ok (.iconst 0, 1) := by decide +kernel
theorem dX8_begins_19 : decode cX8_begins 19 = .ok (.iload_n 1, 1) := by decide +kernel
theorem dX8_begins_20 : decode cX8_begins 20 = .ok (.bipush 48, 2) := by decide +kernel
theorem dX8_begins_22 : decode cX8_begins 22 = .ok (.isub, 1) := by decide +kernel
theorem dX8_begins_23 : decode cX8_begins 23 = .ok (.invokevirtual 160, 3) := by decide +kernel
theorem dX8_begins_26 : decode cX8_begins 26 = .ok (.iadd, 1) := by decide +kernel
theorem dX8_begins_27 : decode cX8_begins 27 = .ok (.invokevirtual 163, 3) := by decide +kernel
theorem dX8_begins_30 : decode cX8_begins 30 = .ok (.iconst 1, 1) := by decide +kernel
theorem dX8_begins_31 : decode cX8_begins 31 = .ok (.ireturn, 1) := by decide +kernel
theorem dX8_begins_32 : decode cX8_begins 32 = .ok (.iload_n 1, 1) := by decide +kernel
theorem dX8_begins_33 : decode cX8_begins 33 = .ok (.i2l, 1) := by decide +kernel
theorem dX8_begins_34 : decode cX8_begins 34 = .ok (.ldc2_w 167, 3) := by decide +kernel
theorem dX8_begins_37 : decode cX8_begins 37 = .ok (.ldc2_w 169, 3) := by decide +kernel
theorem dX8_begins_40 : decode cX8_begins 40 = .ok (.invokestatic 57, 3) := by decide +kernel
theorem dX8_begins_43 : decode cX8_begins 43 = .ok (.ifCond .eq 26, 3) := by decide +kernel
theorem dX8_begins_46 : decode cX8_begins 46 = .ok (.aload_n 0, 1) := by decide +kernel
theorem dX8_begins_47 : decode cX8_begins 47 = .ok (.iload_n 1, 1) := by decide +kernel
theorem dX8_begins_48 : decode cX8_begins 48 = .ok (.bipush 97, 2) := by decide +kernel
theorem dX8_begins_50 : decode cX8_begins 50 = .ok (.isub, 1) := by decide +kernel
theorem dX8_begins_51 : decode cX8_begins 51 = .ok (.invokevirtual 65, 3) := by decide +kernel
theorem dX8_begins_54 : decode cX8_begins 54 = .ok (.istore_n 2, 1) := by decide +kernel
theorem dX8_begins_55 : decode cX8_begins 55 = .ok (.iload_n 2, 1) := by decide +kernel
theorem dX8_begins_56 : decode cX8_begins 56 = .ok (.ifCond .eq 11, 3) := by decide +kernel
theorem dX8_begins_59 : decode cX8_begins 59 = .ok (.aload_n 0, 1) := by decide +kernel
theorem dX8_begins_60 : decode cX8_begins 60 = .ok (.iload_n 1, 1) := by decide +kernel
theorem dX8_begins_61 : decode cX8_begins 61 = .ok (.bipush 97, 2) := by decide +kernel
theorem dX8_begins_63 : decode cX8_begins 63 = .ok (.isub, 1) := by decide +kernel
theorem dX8_begins_64 : decode cX8_begins 64 = .ok (.invokevirtual 163, 3) := by decide +kernel
theorem dX8_begins_67 : decode cX8_begins 67 = .ok (.iload_n 2, 1) := by decide +kernel
theorem dX8_begins_68 : decode cX8_begins 68 = .ok (.ireturn, 1) := by decide +kernel
theorem dX8_begins_69 : decode cX8_begins 69 = .ok (.iload_n 1, 1) := by decide +kernel
theorem dX8_begins_70 : decode cX8_begins 70 = .ok (.i2l, 1) := by decide +kernel
theorem dX8_begins_71 : decode cX8_begins 71 = .ok (.ldc2_w 171, 3) := by decide +kernel
theorem dX8_begins_74 : decode cX8_begins 74 = .ok (.ldc2_w 173, 3) := by decide +kernel
theorem dX8_begins_77 : decode cX8_begins 77 = .ok (.invokestatic 57, 3) := by decide +kernel
theorem dX8_begins_80 : decode cX8_begins 80 = .ok (.ifCond .eq 42, 3) := by decide +kernel
theorem dX8_begins_83 : decode cX8_begins 83 = .ok (.aload_n 0, 1) := by decide +kernel
theorem dX8_begins_84 : decode cX8_begins 84 = .ok (.getfield 146, 3) := by decide +kernel
theorem dX8_begins_87 : decode cX8_begins 87 = .ok (.iconst 1, 1) := by decide +kernel
theorem dX8_begins_88 : decode cX8_begins 88 = .ok (.isub, 1) := by decide +kernel
theorem dX8_begins_89 : decode cX8_begins 89 = .ok (.iload_n 1, 1) := by decide +kernel
theorem dX8_begins_90 : decode cX8_begins 90 = .ok (.bipush 65, 2) := by decide +kernel
theorem dX8_begins_92 : decode cX8_begins 92 = .ok (.isub, 1) := by decide +kernel
theorem dX8_begins_93 : decode cX8_begins 93 = .ok (.isub, 1) := by decide +kernel
theorem dX8_begins_94 : decode cX8_begins 94 = .ok (.istore_n 2, 1) := by decide +kernel
theorem dX8_begins_95 : decode cX8_begins 95 = .ok (.iload_n 2, 1) := by decide +kernel
theorem dX8_begins_96 : decode cX8_begins 96 = .ok (.ifCond .lt 16, 3) := by decide +kernel
theorem dX8_begins_99 : decode cX8_begins 99 = .ok (.aload_n 0, 1) := by decide +kernel
theorem dX8_begins_100 : decode cX8_begins 100 = .ok (.bipush 100, 2) := by decide +kernel
theorem dX8_begins_102 : decode cX8_begins 102 = .ok (.aload_n 0, 1) := by decide +kernel
theorem dX8_begins_103 : decode cX8_begins 103 = .ok (.getfield 24, 3) := by decide +kernel
theorem dX8_begins_106 : decode cX8_begins 106 = .ok (.iload_n 2, 1) := by decide +kernel
theorem dX8_begins_107 : decode cX8_begins 107 = .ok (.iaload, 1) := by decide +kernel
theorem dX8_begins_108 : decode cX8_begins 108 = .ok (.iadd, 1) := by decide +kernel
theorem dX8_begins_109 : decode cX8_begins 109 = .ok (.invokevirtual 163, 3) := by decide +kernel
theorem dX8_begins_112 : decode cX8_begins 112 = .ok (.iload_n 2, 1) := by decide +kernel
theorem dX8_begins_113 : decode cX8_begins 113 = .ok (.ifCond .lt 7, 3) := by decide +kernel
theorem dX8_begins_116 : decode cX8_begins 116 = .ok (.iconst 1, 1) := by decide +kernel
theorem dX8_begins_117 : decode cX8_begins 117 = .ok (.goto 4, 3) := by decide +kernel
theorem dX8_begins_120 : decode cX8_begins 120 = .ok (.iconst 0, 1) := by decide +kernel
theorem dX8_begins_121 : decode cX8_begins 121 = .ok (.ireturn, 1) := by decide +kernel
theorem dX8_begins_122 : decode cX8_begins 122 = .ok (.iload_n 1, 1) := by decide +kernel
theorem dX8_begins_123 : decode cX8_begins 123 = .ok (.bipush 126, 2) := by decide +kernel
theorem dX8_begins_125 : decode cX8_begins 125 = .ok (.if_icmp .ne 11, 3) := by decide +kernel
theorem dX8_begins_128 : decode cX8_begins 128 = .ok (.aload_n 0, 1) := by decide +kernel
theorem dX8_begins_129 : decode cX8_begins 129 = .ok (.bipush (-5), 2) := by decide +kernel
theorem dX8_begins_131 : decode cX8_begins 131 = .ok (.invokevirtual 163, 3) := by decide +kernel
theorem dX8_begins_134 : decode cX8_begins 134 = .ok (.iconst 1, 1) := by decide +kernel
theorem dX8_begins_135 : decode cX8_begins 135 = .ok (.ireturn, 1) := by decide +kernel
theorem dX8_begins_136 : decode cX8_begins 136 = .ok (.iload_n 1, 1) := by decide +kernel
theorem dX8_begins_137 : decode cX8_begins 137 = .ok (.bipush 40, 2) := by decide +kernel
theorem dX8_begins_139 : decode cX8_begins 139 = .ok (.if_icmp .eq 15, 3) := by decide +kernel
theorem dX8_begins_142 : decode cX8_begins 142 = .ok (.iload_n 1, 1) := by decide +kernel
theorem dX8_begins_143 : decode cX8_begins 143 = .ok (.bipush 91, 2) := by decide +kernel
theorem dX8_begins_145 : decode cX8_begins 145 = .ok (.if_icmp .eq 9, 3) := by decide +kernel
theorem dX8_begins_148 : decode cX8_begins 148 = .ok (.iload_n 1, 1) := by decide +kernel
theorem dX8_begins_149 : decode cX8_begins 149 = .ok (.bipush 60, 2) := by decide +kernel
theorem dX8_begins_151 : decode cX8_begins 151 = .ok (.if_icmp .ne 12, 3) := by decide +kernel
theorem dX8_begins_154 : decode cX8_begins 154 = .ok (.aload_n 0, 1) := by decide +kernel
theorem dX8_begins_155 : decode cX8_begins 155 = .ok (.getfield 146, 3) := by decide +kernel
theorem dX8_begins_158 : decode cX8_begins 158 = .ok (.bipush 6, 2) := by decide +kernel
theorem dX8_begins_160 : decode cX8_begins 160 = .ok (.if_icmp .ne 5, 3) := by decide +kernel
theorem dX8_begins_163 : decode cX8_begins 163 = .ok (.iconst 0, 1) := by decide +kernel
theorem dX8_begins_164 : decode cX8_begins 164 = .ok (.ireturn, 1) := by decide +kernel
theorem dX8_begins_165 : decode cX8_begins 165 = .ok (.aload_n 0, 1) := by decide +kernel
theorem dX8_begins_166 : decode cX8_begins 166 = .ok (.getfield 24, 3) := by decide +kernel
theorem dX8_begins_169 : decode cX8_begins 169 = .ok (.aload_n 0, 1) := by decide +kernel
theorem dX8_begins_170 : decode cX8_begins 170 = .ok (.getfield 146, 3) := by decide +kernel
theorem dX8_begins_173 : decode cX8_begins 173 = .ok (.aload_n 0, 1) := by decide +kernel
theorem dX8_begins_174 : decode cX8_begins 174 = .ok (.iload_n 1, 1) := by decide +kernel
theorem dX8_begins_175 : decode cX8_begins 175 = .ok (.bipush 40, 2) := by decide +kernel
theorem dX8_begins_177 : decode cX8_begins 177 = .ok (.if_icmp .ne 7, 3) := by decide +kernel
theorem dX8_begins_180 : decode cX8_begins 180 = .ok (.iconst 1, 1) := by decide +kernel
theorem dX8_begins_181 : decode cX8_begins 181 = .ok (.goto 14, 3) := by decide +kernel
theorem dX8_begins_184 : decode cX8_begins 184 = .ok (.iload_n 1, 1) := by decide +kernel
theorem dX8_begins_185 : decode cX8_begins 185 = .ok (.bipush 91, 2) := by decide +kernel
theorem dX8_begins_187 : decode cX8_begins 187 = .ok (.if_icmp .ne 7, 3) := by decide +kernel
theorem dX8_begins_190 : decode cX8_begins 190 = .ok (.iconst 2, 1) := by decide +kernel
theorem dX8_begins_191 : decode cX8_begins 191 = .ok (.goto 4, 3) := by decide +kernel
theorem dX8_begins_194 : decode cX8_begins 194 = .ok (.iconst 3, 1) := by decide +kernel
theorem dX8_begins_195 : decode cX8_begins 195 = .ok (.iconst 0, 1) := by decide +kernel
theorem dX8_begins_196 : decode cX8_begins 196 = .ok (.invokevirtual 160, 3) := by decide +kernel
theorem dX8_begins_199 : decode cX8_begins 199 = .ok (.iastore, 1) := by decide +kernel
theorem dX8_begins_200 : decode cX8_begins 200 = .ok (.aload_n 0, 1) := by decide +kernel
theorem dX8_begins_201 : decode cX8_begins 201 = .ok (.getfield 27, 3) := by decide +kernel
theorem dX8_begins_204 : decode cX8_begins 204 = .ok (.aload_n 0, 1) := by decide +kernel
theorem dX8_begins_205 : decode cX8_begins 205 = .ok (.getfield 146, 3) := by decide +kernel
theorem dX8_begins_208 : decode cX8_begins 208 = .ok (.iload_n 1, 1) := by decide +kernel
theorem dX8_begins_209 : decode cX8_begins 209 = .ok (.iastore, 1) := by decide +kernel
theorem dX8_begins_210 : decode cX8_begins 210 = .ok (.aload_n 0, 1) := by decide +kernel
theorem dX8_begins_211 : decode cX8_begins 211 = .ok (.getfield 30, 3) := by decide +kernel
theorem dX8_begins_214 : decode cX8_begins 214 = .ok (.aload_n 0, 1) := by decide +kernel
theorem dX8_begins_215 : decode cX8_begins 215 = .ok (.getfield 146, 3) := by decide +kernel
theorem dX8_begins_218 : decode cX8_begins 218 = .ok (.iconst 0, 1) := by decide +kernel
theorem dX8_begins_219 : decode cX8_begins 219 = .ok (.iastore, 1) := by decide +kernel
theorem dX8_begins_220 : decode cX8_begins 220 = .ok (.aload_n 0, 1) := by decide +kernel
theorem dX8_begins_221 : decode cX8_begins 221 = .ok (.dup, 1) := by decide +kernel
theorem dX8_begins_222 : decode cX8_begins 222 = .ok (.getfield 146, 3) := by decide +kernel
theorem dX8_begins_225 : decode cX8_begins 225 = .ok (.iconst 1, 1) := by decide +kernel
theorem dX8_begins_226 : decode cX8_begins 226 = .ok (.iadd, 1) := by decide +kernel
theorem dX8_begins_227 : decode cX8_begins 227 = .ok (.putfield 146, 3) := by decide +kernel
theorem dX8_begins_230 : decode cX8_begins 230 = .ok (.iconst 1, 1) := by decide +kernel
theorem dX8_begins_231 : decode cX8_begins 231 = .ok (.ireturn, 1) := by decide +kernel
theorem dX8_shuts_0 : decode cX8_shuts 0 = .ok (.aload_n 0, 1) := by decide +kernel
theorem dX8_shuts_1 : decode cX8_shuts 1 = .ok (.dup, 1) := by decide +kernel
theorem dX8_shuts_2 : decode cX8_shuts 2 = .ok (.getfield 146, 3) := by decide +kernel
theorem dX8_shuts_5 : decode cX8_shuts 5 = .ok (.iconst 1, 1) := by decide +kernel
theorem dX8_shuts_6 : decode cX8_shuts 6 = .ok (.isub, 1) := by decide +kernel
theorem dX8_shuts_7 : decode cX8_shuts 7 = .ok (.putfield 146, 3) := by decide +kernel
theorem dX8_shuts_10 : decode cX8_shuts 10 = .ok (.aload_n 0, 1) := by decide +kernel
theorem dX8_shuts_11 : decode cX8_shuts 11 = .ok (.bipush 100, 2) := by decide +kernel
theorem dX8_shuts_13 : decode cX8_shuts 13 = .ok (.aload_n 0, 1) := by decide +kernel
theorem dX8_shuts_14 : decode cX8_shuts 14 = .ok (.getfield 24, 3) := by decide +kernel
theorem dX8_shuts_17 : decode cX8_shuts 17 = .ok (.aload_n 0, 1) := by decide +kernel
theorem dX8_shuts_18 : decode cX8_shuts 18 = .ok (.getfield 146, 3) := by decide +kernel
theorem dX8_shuts_21 : decode cX8_shuts 21 = .ok (.iaload, 1) := by decide +kernel
theorem dX8_shuts_22 : decode cX8_shuts 22 = .ok (.iadd, 1) := by decide +kernel
theorem dX8_shuts_23 : decode cX8_shuts 23 = .ok (.invokevirtual 163, 3) := by decide +kernel
theorem dX8_shuts_26 : decode cX8_shuts 26 = .ok (.return_, 1) := by decide +kernel
theorem dX8_takes_0 : decode cX8_takes 0 = .ok (.aload_n 0, 1) := by decide +kernel
theorem dX8_takes_1 : decode cX8_takes 1 = .ok (.getfield 152, 3) := by decide +kernel
theorem dX8_takes_4 : decode cX8_takes 4 = .ok (.ifCond .eq 5, 3) := by decide +kernel
theorem dX8_takes_7 : decode cX8_takes 7 = .ok (.iconst 0, 1) := by decide +kernel
theorem dX8_takes_8 : decode cX8_takes 8 = .ok (.ireturn, 1) := by decide +kernel
theorem dX8_takes_9 : decode cX8_takes 9 = .ok (.aload_n 0, 1) := by decide +kernel
theorem dX8_takes_10 : decode cX8_takes 10 = .ok (.getfield 146, 3) := by decide +kernel
theorem dX8_takes_13 : decode cX8_takes 13 = .ok (.ifCond .ne 9, 3) := by decide +kernel
theorem dX8_takes_16 : decode cX8_takes 16 = .ok (.aload_n 0, 1) := by decide +kernel
theorem dX8_takes_17 : decode cX8_takes 17 = .ok (.iload_n 1, 1) := by decide +kernel
theorem dX8_takes_18 : decode cX8_takes 18 = .ok (.invokevirtual 175, 3) := by decide +kernel
theorem dX8_takes_21 : decode cX8_takes 21 = .ok (.ireturn, 1) := by decide +kernel
theorem dX8_takes_22 : decode cX8_takes 22 = .ok (.aload_n 0, 1) := by decide +kernel
theorem dX8_takes_23 : decode cX8_takes 23 = .ok (.getfield 27, 3) := by decide +kernel
theorem dX8_takes_26 : decode cX8_takes 26 = .ok (.aload_n 0, 1) := by decide +kernel
theorem dX8_takes_27 : decode cX8_takes 27 = .ok (.getfield 146, 3) := by decide +kernel
theorem dX8_takes_30 : decode cX8_takes 30 = .ok (.iconst 1, 1) := by decide +kernel
theorem dX8_takes_31 : decode cX8_takes 31 = .ok (.isub, 1) := by decide +kernel
theorem dX8_takes_32 : decode cX8_takes 32 = .ok (.iaload, 1) := by decide +kernel
theorem dX8_takes_33 : decode cX8_takes 33 = .ok (.istore_n 2, 1) := by decide +kernel
theorem dX8_takes_34 : decode cX8_takes 34 = .ok (.aload_n 0, 1) := by decide +kernel
theorem dX8_takes_35 : decode cX8_takes 35 = .ok (.getfield 30, 3) := by decide +kernel
theorem dX8_takes_38 : decode cX8_takes 38 = .ok (.aload_n 0, 1) := by decide +kernel
theorem dX8_takes_39 : decode cX8_takes 39 = .ok (.getfield 146, 3) := by decide +kernel
theorem dX8_takes_42 : decode cX8_takes 42 = .ok (.iconst 1, 1) := by decide +kernel
theorem dX8_takes_43 : decode cX8_takes 43 = .ok (.isub, 1) := by decide +kernel
theorem dX8_takes_44 : decode cX8_takes 44 = .ok (.iaload, 1) := by decide +kernel
theorem dX8_takes_45 : decode cX8_takes 45 = .ok (.istore_n 3, 1) := by decide +kernel
theorem dX8_takes_46 : decode cX8_takes 46 = .ok (.aload_n 0, 1) := by decide +kernel
theorem dX8_takes_47 : decode cX8_takes 47 = .ok (.getfield 39, 3) := by decide +kernel
theorem dX8_takes_50 : decode cX8_takes 50 = .ok (.aload_n 0, 1) := by decide +kernel
theorem dX8_takes_51 : decode cX8_takes 51 = .ok (.getfield 24, 3) := by decide +kernel
theorem dX8_takes_54 : decode cX8_takes 54 = .ok (.aload_n 0, 1) := by decide +kernel
theorem dX8_takes_55 : decode cX8_takes 55 = .ok (.getfield 146, 3) := by decide +kernel
theorem dX8_takes_58 : decode cX8_takes 58 = .ok (.iconst 1, 1) := by decide +kernel
theorem dX8_takes_59 : decode cX8_takes 59 = .ok (.isub, 1) := by decide +kernel
theorem dX8_takes_60 : decode cX8_takes 60 = .ok (.iaload, 1) := by decide +kernel
theorem dX8_takes_61 : decode cX8_takes 61 = .ok (.iaload, 1) := by decide +kernel
theorem dX8_takes_62 : decode cX8_takes 62 = .ok (.istore 4, 2) := by decide +kernel
theorem dX8_takes_64 : decode cX8_takes 64 = .ok (.iload_n 3, 1) := by decide +kernel
theorem dX8_takes_65 : decode cX8_takes 65 = .ok (.iconst 1, 1) := by decide +kernel
theorem dX8_takes_66 : decode cX8_takes 66 = .ok (.if_icmp .eq 31, 3) := by decide +kernel
theorem dX8_takes_69 : decode cX8_takes 69 = .ok (.iload_n 3, 1) := by decide +kernel
theorem dX8_takes_70 : decode cX8_takes 70 = .ok (.ifCond .ne 21, 3) := by decide +kernel
theorem dX8_takes_73 : decode cX8_takes 73 = .ok (.iload_n 2, 1) := by decide +kernel
theorem dX8_takes_74 : decode cX8_takes 74 = .ok (.bipush 91, 2) := by decide +kernel
theorem dX8_takes_76 : decode cX8_takes 76 = .ok (.if_icmp .ne 15, 3) := by decide +kernel
theorem dX8_takes_79 : decode cX8_takes 79 = .ok (.iload_n 1, 1) := by decide +kernel
theorem dX8_takes_80 : decode cX8_takes 80 = .ok (.bipush 93, 2) := by decide +kernel
theorem dX8_takes_82 : decode cX8_takes 82 = .ok (.if_icmp .ne 9, 3) := by decide +kernel
theorem dX8_takes_85 : decode cX8_takes 85 = .ok (.aload_n 0, 1) := by decide +kernel
theorem dX8_takes_86 : decode cX8_takes 86 = .ok (.invokevirtual 178, 3) := by decide +kernel
theorem dX8_takes_89 : decode cX8_takes 89 = .ok (.iconst 1, 1) := by decide +kernel
theorem dX8_takes_90 : decode cX8_takes 90 = .ok (.ireturn, 1) := by decide +kernel
theorem dX8_takes_91 : decode cX8_takes 91 = .ok (.aload_n 0, 1) := by decide +kernel
theorem dX8_takes_92 : decode cX8_takes 92 = .ok (.iload_n 1, 1) := by decide +kernel
theorem dX8_takes_93 : decode cX8_takes 93 = .ok (.invokevirtual 175, 3) := by decide +kernel
theorem dX8_takes_96 : decode cX8_takes 96 = .ok (.ireturn, 1) := by decide +kernel
theorem dX8_takes_97 : decode cX8_takes 97 = .ok (.iload_n 2, 1) := by decide +kernel
theorem dX8_takes_98 : decode cX8_takes 98 = .ok (.bipush 40, 2) := by decide +kernel
theorem dX8_takes_100 : decode cX8_takes 100 = .ok (.if_icmp .ne 15, 3) := by decide +kernel
theorem dX8_takes_103 : decode cX8_takes 103 = .ok (.iload 4, 2) := by decide +kernel
theorem dX8_takes_105 : decode cX8_takes 105 = .ok (.iconst 1, 1) := by decide +kernel
theorem dX8_takes_106 : decode cX8_takes 106 = .ok (.if_icmp .ne 9, 3) := by decide +kernel
theorem dX8_takes_109 : decode cX8_takes 109 = .ok (.iload_n 1, 1) := by decide +kernel
theorem dX8_takes_110 : decode cX8_takes 110 = .ok (.bipush 46, 2) := by decide +kernel
theorem dX8_takes_112 : decode cX8_takes 112 = .ok (.if_icmp .eq 22, 3) := by decide +kernel
theorem dX8_takes_115 : decode cX8_takes 115 = .ok (.iload_n 2, 1) := by decide +kernel
theorem dX8_takes_116 : decode cX8_takes 116 = .ok (.bipush 91, 2) := by decide +kernel
theorem dX8_takes_118 : decode cX8_takes 118 = .ok (.if_icmp .ne 30, 3) := by decide +kernel
theorem dX8_takes_121 : decode cX8_takes 121 = .ok (.iload 4, 2) := by decide +kernel
theorem dX8_takes_123 : decode cX8_takes 123 = .ok (.bipush 6, 2) := by decide +kernel
theorem dX8_takes_125 : decode cX8_takes 125 = .ok (.if_icmp .ge 23, 3) := by decide +kernel
theorem dX8_takes_128 : decode cX8_takes 128 = .ok (.iload_n 1, 1) := by decide +kernel
theorem dX8_takes_129 : decode cX8_takes 129 = .ok (.bipush 44, 2) := by decide +kernel
theorem dX8_takes_131 : decode cX8_takes 131 = .ok (.if_icmp .ne 17, 3) := by decide +kernel
theorem dX8_takes_134 : decode cX8_takes 134 = .ok (.aload_n 0, 1) := by decide +kernel
theorem dX8_takes_135 : decode cX8_takes 135 = .ok (.getfield 30, 3) := by decide +kernel
theorem dX8_takes_138 : decode cX8_takes 138 = .ok (.aload_n 0, 1) := by decide +kernel
theorem dX8_takes_139 : decode cX8_takes 139 = .ok (.getfield 146, 3) := by decide +kernel
theorem dX8_takes_142 : decode cX8_takes 142 = .ok (.iconst 1, 1) := by decide +kernel
theorem dX8_takes_143 : decode cX8_takes 143 = .ok (.isub, 1) := by decide +kernel
theorem dX8_takes_144 : decode cX8_takes 144 = .ok (.iconst 2, 1) := by decide +kernel
theorem dX8_takes_145 : decode cX8_takes 145 = .ok (.iastore, 1) := by decide +kernel
theorem dX8_takes_146 : decode cX8_takes 146 = .ok (.iconst 1, 1) := by decide +kernel
theorem dX8_takes_147 : decode cX8_takes 147 = .ok (.ireturn, 1) := by decide +kernel
theorem dX8_takes_148 : decode cX8_takes 148 = .ok (.iload_n 2, 1) := by decide +kernel
theorem dX8_takes_149 : decode cX8_takes 149 = .ok (.bipush 40, 2) := by decide +kernel
theorem dX8_takes_151 : decode cX8_takes 151 = .ok (.if_icmp .ne 15, 3) := by decide +kernel
theorem dX8_takes_154 : decode cX8_takes 154 = .ok (.iload 4, 2) := by decide +kernel
theorem dX8_takes_156 : decode cX8_takes 156 = .ok (.iconst 2, 1) := by decide +kernel
theorem dX8_takes_157 : decode cX8_takes 157 = .ok (.if_icmp .ne 9, 3) := by decide +kernel
theorem dX8_takes_160 : decode cX8_takes 160 = .ok (.iload_n 1, 1) := by decide +kernel
theorem dX8_takes_161 : decode cX8_takes 161 = .ok (.bipush 41, 2) := by decide +kernel
theorem dX8_takes_163 : decode cX8_takes 163 = .ok (.if_icmp .eq 27, 3) := by decide +kernel
theorem dX8_takes_166 : decode cX8_takes 166 = .ok (.iload_n 2, 1) := by decide +kernel
theorem dX8_takes_167 : decode cX8_takes 167 = .ok (.bipush 91, 2) := by decide +kernel
theorem dX8_takes_169 : decode cX8_takes 169 = .ok (.if_icmp .ne 9, 3) := by decide +kernel
theorem dX8_takes_172 : decode cX8_takes 172 = .ok (.iload_n 1, 1) := by decide +kernel
theorem dX8_takes_173 : decode cX8_takes 173 = .ok (.bipush 93, 2) := by decide +kernel
theorem dX8_takes_175 : decode cX8_takes 175 = .ok (.if_icmp .eq 15, 3) := by decide +kernel
theorem dX8_takes_178 : decode cX8_takes 178 = .ok (.iload_n 2, 1) := by decide +kernel
theorem dX8_takes_179 : decode cX8_takes 179 = .ok (.bipush 60, 2) := by decide +kernel
theorem dX8_takes_181 : decode cX8_takes 181 = .ok (.if_icmp .ne 13, 3) := by decide +kernel
theorem dX8_takes_184 : decode cX8_takes 184 = .ok (.iload_n 1, 1) := by decide +kernel
theorem dX8_takes_185 : decode cX8_takes 185 = .ok (.bipush 62, 2) := by decide +kernel
theorem dX8_takes_187 : decode cX8_takes 187 = .ok (.if_icmp .ne 7, 3) := by decide +kernel
theorem dX8_takes_190 : decode cX8_takes 190 = .ok (.iconst 1, 1) := by decide +kernel
theorem dX8_takes_191 : decode cX8_takes 191 = .ok (.goto 4, 3) := by decide +kernel
theorem dX8_takes_194 : decode cX8_takes 194 = .ok (.iconst 0, 1) := by decide +kernel
theorem dX8_takes_195 : decode cX8_takes 195 = .ok (.istore 5, 2) := by decide +kernel
theorem dX8_takes_197 : decode cX8_takes 197 = .ok (.iload 5, 2) := by decide +kernel
theorem dX8_takes_199 : decode cX8_takes 199 = .ok (.ifCond .eq 7, 3) := by decide +kernel
theorem dX8_takes_202 : decode cX8_takes 202 = .ok (.aload_n 0, 1) := by decide +kernel
theorem dX8_takes_203 : decode cX8_takes 203 = .ok (.invokevirtual 178, 3) := by decide +kernel
theorem dX8_takes_206 : decode cX8_takes 206 = .ok (.iload 5, 2) := by decide +kernel
theorem dX8_takes_208 : decode cX8_takes 208 = .ok (.ireturn, 1) := by decide +kernel
theorem dX8_told_0 : decode cX8_told 0 = .ok (.iload_n 1, 1) := by decide +kernel
theorem dX8_told_1 : decode cX8_told 1 = .ok (.bipush 100, 2) := by decide +kernel
theorem dX8_told_3 : decode cX8_told 3 = .ok (.if_icmp .lt 12, 3) := by decide +kernel
theorem dX8_told_6 : decode cX8_told 6 = .ok (.iload_n 2, 1) := by decide +kernel
theorem dX8_told_7 : decode cX8_told 7 = .ok (.iload_n 1, 1) := by decide +kernel
theorem dX8_told_8 : decode cX8_told 8 = .ok (.iadd, 1) := by decide +kernel
theorem dX8_told_9 : decode cX8_told 9 = .ok (.bipush 100, 2) := by decide +kernel
theorem dX8_told_11 : decode cX8_told 11 = .ok (.isub, 1) := by decide +kernel
theorem dX8_told_12 : decode cX8_told 12 = .ok (.goto 4, 3) := by decide +kernel
theorem dX8_told_15 : decode cX8_told 15 = .ok (.iload_n 1, 1) := by decide +kernel
theorem dX8_told_16 : decode cX8_told 16 = .ok (.ireturn, 1) := by decide +kernel
theorem dX8_build_0 : decode cX8_build 0 = .ok (.iload_n 1, 1) := by decide +kernel
theorem dX8_build_1 : decode cX8_build 1 = .ok (.i2l, 1) := by decide +kernel
theorem dX8_build_2 : decode cX8_build 2 = .ok (.lconst 0, 1) := by decide +kernel
theorem dX8_build_3 : decode cX8_build 3 = .ok (.ldc2_w 135, 3) := by decide +kernel
theorem dX8_build_6 : decode cX8_build 6 = .ok (.invokestatic 57, 3) := by decide +kernel
theorem dX8_build_9 : decode cX8_build 9 = .ok (.ifCond .ne 5, 3) := by decide +kernel
theorem dX8_build_12 : decode cX8_build 12 = .ok (.iconst (-1), 1) := by decide +kernel
theorem dX8_build_13 : decode cX8_build 13 = .ok (.ireturn, 1) := by decide +kernel
theorem dX8_build_14 : decode cX8_build 14 = .ok (.aload_n 0, 1) := by decide +kernel
theorem dX8_build_15 : decode cX8_build 15 = .ok (.getfield 11, 3) := by decide +kernel
theorem dX8_build_18 : decode cX8_build 18 = .ok (.iconst 2, 1) := by decide +kernel
theorem dX8_build_19 : decode cX8_build 19 = .ok (.iaload, 1) := by decide +kernel
theorem dX8_build_20 : decode cX8_build 20 = .ok (.iconst 1, 1) := by decide +kernel
theorem dX8_build_21 : decode cX8_build 21 = .ok (.if_icmp .ne 6, 3) := by decide +kernel
theorem dX8_build_24 : decode cX8_build 24 = .ok (.bipush (-3), 2) := by decide +kernel
theorem dX8_build_26 : decode cX8_build 26 = .ok (.ireturn, 1) := by decide +kernel
theorem dX8_build_27 : decode cX8_build 27 = .ok (.aload_n 0, 1) := by decide +kernel
theorem dX8_build_28 : decode cX8_build 28 = .ok (.getfield 139, 3) := by decide +kernel
theorem dX8_build_31 : decode cX8_build 31 = .ok (.istore_n 2, 1) := by decide +kernel
theorem dX8_build_32 : decode cX8_build 32 = .ok (.aload_n 0, 1) := by decide +kernel
theorem dX8_build_33 : decode cX8_build 33 = .ok (.iconst 0, 1) := by decide +kernel
theorem dX8_build_34 : decode cX8_build 34 = .ok (.putfield 139, 3) := by decide +kernel
theorem dX8_build_37 : decode cX8_build 37 = .ok (.aload_n 0, 1) := by decide +kernel
theorem dX8_build_38 : decode cX8_build 38 = .ok (.iconst 0, 1) := by decide +kernel
theorem dX8_build_39 : decode cX8_build 39 = .ok (.putfield 143, 3) := by decide +kernel
theorem dX8_build_42 : decode cX8_build 42 = .ok (.aload_n 0, 1) := by decide +kernel
theorem dX8_build_43 : decode cX8_build 43 = .ok (.iconst 0, 1) := by decide +kernel
theorem dX8_build_44 : decode cX8_build 44 = .ok (.putfield 146, 3) := by decide +kernel
theorem dX8_build_47 : decode cX8_build 47 = .ok (.aload_n 0, 1) := by decide +kernel
theorem dX8_build_48 : decode cX8_build 48 = .ok (.iconst 0, 1) := by decide +kernel
theorem dX8_build_49 : decode cX8_build 49 = .ok (.putfield 152, 3) := by decide +kernel
theorem dX8_build_52 : decode cX8_build 52 = .ok (.iconst 0, 1) := by decide +kernel
theorem dX8_build_53 : decode cX8_build 53 = .ok (.istore_n 3, 1) := by decide +kernel
theorem dX8_build_54 : decode cX8_build 54 = .ok (.iload_n 3, 1) := by decide +kernel
theorem dX8_build_55 : decode cX8_build 55 = .ok (.iload_n 2, 1) := by decide +kernel
theorem dX8_build_56 : decode cX8_build 56 = .ok (.if_icmp .ge 27, 3) := by decide +kernel
theorem dX8_build_59 : decode cX8_build 59 = .ok (.aload_n 0, 1) := by decide +kernel
theorem dX8_build_60 : decode cX8_build 60 = .ok (.aload_n 0, 1) := by decide +kernel
theorem dX8_build_61 : decode cX8_build 61 = .ok (.getfield 21, 3) := by decide +kernel
theorem dX8_build_64 : decode cX8_build 64 = .ok (.iload_n 3, 1) := by decide +kernel
theorem dX8_build_65 : decode cX8_build 65 = .ok (.iaload, 1) := by decide +kernel
theorem dX8_build_66 : decode cX8_build 66 = .ok (.invokevirtual 181, 3) := by decide +kernel
theorem dX8_build_69 : decode cX8_build 69 = .ok (.ifCond .ne 8, 3) := by decide +kernel
theorem dX8_build_72 : decode cX8_build 72 = .ok (.bipush (-10), 2) := by decide +kernel
theorem dX8_build_74 : decode cX8_build 74 = .ok (.iload_n 3, 1) := by decide +kernel
theorem dX8_build_75 : decode cX8_build 75 = .ok (.isub, 1) := by decide +kernel
theorem dX8_build_76 : decode cX8_build 76 = .ok (.ireturn, 1) := by decide +kernel
theorem dX8_build_77 : decode cX8_build 77 = .ok (.iinc 3 1, 3) := by decide +kernel
theorem dX8_build_80 : decode cX8_build 80 = .ok (.goto (-26), 3) := by decide +kernel
theorem dX8_build_83 : decode cX8_build 83 = .ok (.aload_n 0, 1) := by decide +kernel
theorem dX8_build_84 : decode cX8_build 84 = .ok (.getfield 152, 3) := by decide +kernel
theorem dX8_build_87 : decode cX8_build 87 = .ok (.ifCond .ne 8, 3) := by decide +kernel
theorem dX8_build_90 : decode cX8_build 90 = .ok (.bipush (-10), 2) := by decide +kernel
theorem dX8_build_92 : decode cX8_build 92 = .ok (.iload_n 2, 1) := by decide +kernel
theorem dX8_build_93 : decode cX8_build 93 = .ok (.isub, 1) := by decide +kernel
theorem dX8_build_94 : decode cX8_build 94 = .ok (.ireturn, 1) := by decide +kernel
theorem dX8_build_95 : decode cX8_build 95 = .ok (.aload_n 0, 1) := by decide +kernel
theorem dX8_build_96 : decode cX8_build 96 = .ok (.getfield 11, 3) := by decide +kernel
theorem dX8_build_99 : decode cX8_build 99 = .ok (.iconst 0, 1) := by decide +kernel
theorem dX8_build_100 : decode cX8_build 100 = .ok (.iaload, 1) := by decide +kernel
theorem dX8_build_101 : decode cX8_build 101 = .ok (.istore_n 3, 1) := by decide +kernel
theorem dX8_build_102 : decode cX8_build 102 = .ok (.iload_n 3, 1) := by decide +kernel
theorem dX8_build_103 : decode cX8_build 103 = .ok (.aload_n 0, 1) := by decide +kernel
theorem dX8_build_104 : decode cX8_build 104 = .ok (.getfield 143, 3) := by decide +kernel
theorem dX8_build_107 : decode cX8_build 107 = .ok (.iadd, 1) := by decide +kernel
theorem dX8_build_108 : decode cX8_build 108 = .ok (.bipush 24, 2) := by decide +kernel
theorem dX8_build_110 : decode cX8_build 110 = .ok (.if_icmp .le 6, 3) := by decide +kernel
theorem dX8_build_113 : decode cX8_build 113 = .ok (.bipush (-4), 2) := by decide +kernel
theorem dX8_build_115 : decode cX8_build 115 = .ok (.ireturn, 1) := by decide +kernel
theorem dX8_build_116 : decode cX8_build 116 = .ok (.iconst 0, 1) := by decide +kernel
theorem dX8_build_117 : decode cX8_build 117 = .ok (.istore 4, 2) := by decide +kernel
theorem dX8_build_119 : decode cX8_build 119 = .ok (.iload 4, 2) := by decide +kernel
theorem dX8_build_121 : decode cX8_build 121 = .ok (.aload_n 0, 1) := by decide +kernel
theorem dX8_build_122 : decode cX8_build 122 = .ok (.getfield 143, 3) := by decide +kernel
theorem dX8_build_125 : decode cX8_build 125 = .ok (.if_icmp .ge 95, 3) := by decide +kernel
theorem dX8_build_128 : decode cX8_build 128 = .ok (.aload_n 0, 1) := by decide +kernel
theorem dX8_build_129 : decode cX8_build 129 = .ok (.getfield 11, 3) := by decide +kernel
theorem dX8_build_132 : decode cX8_build 132 = .ok (.aload_n 0, 1) := by decide +kernel
theorem dX8_build_133 : decode cX8_build 133 = .ok (.getfield 33, 3) := by decide +kernel
theorem dX8_build_136 : decode cX8_build 136 = .ok (.iload 4, 2) := by decide +kernel
theorem dX8_build_138 : decode cX8_build 138 = .ok (.iaload, 1) := by decide +kernel
theorem dX8_build_139 : decode cX8_build 139 = .ok (.aload_n 0, 1) := by decide +kernel
theorem dX8_build_140 : decode cX8_build 140 = .ok (.getfield 36, 3) := by decide +kernel
theorem dX8_build_143 : decode cX8_build 143 = .ok (.iload 4, 2) := by decide +kernel
theorem dX8_build_145 : decode cX8_build 145 = .ok (.iaload, 1) := by decide +kernel
theorem dX8_build_146 : decode cX8_build 146 = .ok (.aload_n 0, 1) := by decide +kernel
theorem dX8_build_147 : decode cX8_build 147 = .ok (.getfield 39, 3) := by decide +kernel
theorem dX8_build_150 : decode cX8_build 150 = .ok (.iload 4, 2) := by decide +kernel
theorem dX8_build_152 : decode cX8_build 152 = .ok (.iaload, 1) := by decide +kernel
theorem dX8_build_153 : decode cX8_build 153 = .ok (.invokestatic 77, 3) := by decide +kernel
theorem dX8_build_156 : decode cX8_build 156 = .ok (.istore 5, 2) := by decide +kernel
theorem dX8_build_158 : decode cX8_build 158 = .ok (.iconst 0, 1) := by decide +kernel
theorem dX8_build_159 : decode cX8_build 159 = .ok (.istore 6, 2) := by decide +kernel
theorem dX8_build_161 : decode cX8_build 161 = .ok (.iload 6, 2) := by decide +kernel
theorem dX8_build_163 : decode cX8_build 163 = .ok (.aload_n 0, 1) := by decide +kernel
theorem dX8_build_164 : decode cX8_build 164 = .ok (.getfield 39, 3) := by decide +kernel
theorem dX8_build_167 : decode cX8_build 167 = .ok (.iload 4, 2) := by decide +kernel
theorem dX8_build_169 : decode cX8_build 169 = .ok (.iaload, 1) := by decide +kernel
theorem dX8_build_170 : decode cX8_build 170 = .ok (.if_icmp .ge 44, 3) := by decide +kernel
theorem dX8_build_173 : decode cX8_build 173 = .ok (.aload_n 0, 1) := by decide +kernel
theorem dX8_build_174 : decode cX8_build 174 = .ok (.getfield 11, 3) := by decide +kernel
theorem dX8_build_177 : decode cX8_build 177 = .ok (.sipush 140, 3) := by decide +kernel
theorem dX8_build_180 : decode cX8_build 180 = .ok (.bipush 6, 2) := by decide +kernel
theorem dX8_build_182 : decode cX8_build 182 = .ok (.iload 5, 2) := by decide +kernel
theorem dX8_build_184 : decode cX8_build 184 = .ok (.imul, 1) := by decide +kernel
theorem dX8_build_185 : decode cX8_build 185 = .ok (.iadd, 1) := by decide +kernel
theorem dX8_build_186 : decode cX8_build 186 = .ok (.iload 6, 2) := by decide +kernel
theorem dX8_build_188 : decode cX8_build 188 = .ok (.iadd, 1) := by decide +kernel
theorem dX8_build_189 : decode cX8_build 189 = .ok (.aload_n 0, 1) := by decide +kernel
theorem dX8_build_190 : decode cX8_build 190 = .ok (.aload_n 0, 1) := by decide +kernel
theorem dX8_build_191 : decode cX8_build 191 = .ok (.getfield 42, 3) := by decide +kernel
theorem dX8_build_194 : decode cX8_build 194 = .ok (.bipush 6, 2) := by decide +kernel
theorem dX8_build_196 : decode cX8_build 196 = .ok (.iload 4, 2) := by decide +kernel
theorem dX8_build_198 : decode cX8_build 198 = .ok (.imul, 1) := by decide +kernel
theorem dX8_build_199 : decode cX8_build 199 = .ok (.iload 6, 2) := by decide +kernel
theorem dX8_build_201 : decode cX8_build 201 = .ok (.iadd, 1) := by decide +kernel
theorem dX8_build_202 : decode cX8_build 202 = .ok (.iaload, 1) := by decide +kernel
theorem dX8_build_203 : decode cX8_build 203 = .ok (.iload_n 3, 1) := by decide +kernel
theorem dX8_build_204 : decode cX8_build 204 = .ok (.invokevirtual 184, 3) := by decide +kernel
theorem dX8_build_207 : decode cX8_build 207 = .ok (.iastore, 1) := by decide +kernel
theorem dX8_build_208 : decode cX8_build 208 = .ok (.iinc 6 1, 3) := by decide +kernel
theorem dX8_build_211 : decode cX8_build 211 = .ok (.goto (-50), 3) := by decide +kernel
theorem dX8_build_214 : decode cX8_build 214 = .ok (.iinc 4 1, 3) := by decide +kernel
theorem dX8_build_217 : decode cX8_build 217 = .ok (.goto (-98), 3) := by decide +kernel
theorem dX8_build_220 : decode cX8_build 220 = .ok (.aload_n 0, 1) := by decide +kernel
theorem dX8_build_221 : decode cX8_build 221 = .ok (.getfield 11, 3) := by decide +kernel
theorem dX8_build_224 : decode cX8_build 224 = .ok (.bipush 16, 2) := by decide +kernel
theorem dX8_build_226 : decode cX8_build 226 = .ok (.iload_n 1, 1) := by decide +kernel
theorem dX8_build_227 : decode cX8_build 227 = .ok (.iadd, 1) := by decide +kernel
theorem dX8_build_228 : decode cX8_build 228 = .ok (.aload_n 0, 1) := by decide +kernel
theorem dX8_build_229 : decode cX8_build 229 = .ok (.aload_n 0, 1) := by decide +kernel
theorem dX8_build_230 : decode cX8_build 230 = .ok (.getfield 149, 3) := by decide +kernel
theorem dX8_build_233 : decode cX8_build 233 = .ok (.iload_n 3, 1) := by decide +kernel
theorem dX8_build_234 : decode cX8_build 234 = .ok (.invokevirtual 184, 3) := by decide +kernel
theorem dX8_build_237 : decode cX8_build 237 = .ok (.iastore, 1) := by decide +kernel
theorem dX8_build_238 : decode cX8_build 238 = .ok (.aload_n 0, 1) := by decide +kernel
theorem dX8_build_239 : decode cX8_build 239 = .ok (.getfield 11, 3) := by decide +kernel
theorem dX8_build_242 : decode cX8_build 242 = .ok (.bipush 15, 2) := by decide +kernel
theorem dX8_build_244 : decode cX8_build 244 = .ok (.iconst 0, 1) := by decide +kernel
theorem dX8_build_245 : decode cX8_build 245 = .ok (.iastore, 1) := by decide +kernel
theorem dX8_build_246 : decode cX8_build 246 = .ok (.aload_n 0, 1) := by decide +kernel
theorem dX8_build_247 : decode cX8_build 247 = .ok (.getfield 143, 3) := by decide +kernel
theorem dX8_build_250 : decode cX8_build 250 = .ok (.ireturn, 1) := by decide +kernel
theorem dX8_starts_0 : decode cX8_starts 0 = .ok (.aload_n 0, 1) := by decide +kernel
theorem dX8_starts_1 : decode cX8_starts 1 = .ok (.iconst 2, 1) := by decide +kernel
theorem dX8_starts_2 : decode cX8_starts 2 = .ok (.iconst 1, 1) := by decide +kernel
theorem dX8_starts_3 : decode cX8_starts 3 = .ok (.iastore, 1) := by decide +kernel
theorem dX8_starts_4 : decode cX8_starts 4 = .ok (.aload_n 0, 1) := by decide +kernel
theorem dX8_starts_5 : decode cX8_starts 5 = .ok (.iconst 3, 1) := by decide +kernel
theorem dX8_starts_6 : decode cX8_starts 6 = .ok (.iload_n 1, 1) := by decide +kernel
theorem dX8_starts_7 : decode cX8_starts 7 = .ok (.iastore, 1) := by decide +kernel
theorem dX8_starts_8 : decode cX8_starts 8 = .ok (.aload_n 0, 1) := by decide +kernel
theorem dX8_starts_9 : decode cX8_starts 9 = .ok (.iconst 4, 1) := by decide +kernel
theorem dX8_starts_10 : decode cX8_starts 10 = .ok (.bipush (-5), 2) := by decide +kernel
theorem dX8_starts_12 : decode cX8_starts 12 = .ok (.iastore, 1) := by decide +kernel
theorem dX8_starts_13 : decode cX8_starts 13 = .ok (.aload_n 0, 1) := by decide +kernel
theorem dX8_starts_14 : decode cX8_starts 14 = .ok (.iconst 5, 1) := by decide +kernel
theorem dX8_starts_15 : decode cX8_starts 15 = .ok (.iconst 0, 1) := by decide +kernel
theorem dX8_starts_16 : decode cX8_starts 16 = .ok (.iastore, 1) := by decide +kernel
theorem dX8_starts_17 : decode cX8_starts 17 = .ok (.aload_n 0, 1) := by decide +kernel
theorem dX8_starts_18 : decode cX8_starts 18 = .ok (.bipush 6, 2) := by decide +kernel
theorem dX8_starts_20 : decode cX8_starts 20 = .ok (.iconst 0, 1) := by decide +kernel
theorem dX8_starts_21 : decode cX8_starts 21 = .ok (.iastore, 1) := by decide +kernel
theorem dX8_starts_22 : decode cX8_starts 22 = .ok (.aload_n 0, 1) := by decide +kernel
theorem dX8_starts_23 : decode cX8_starts 23 = .ok (.bipush 7, 2) := by decide +kernel
theorem dX8_starts_25 : decode cX8_starts 25 = .ok (.iconst 0, 1) := by decide +kernel
theorem dX8_starts_26 : decode cX8_starts 26 = .ok (.iastore, 1) := by decide +kernel
theorem dX8_starts_27 : decode cX8_starts 27 = .ok (.aload_n 0, 1) := by decide +kernel
theorem dX8_starts_28 : decode cX8_starts 28 = .ok (.bipush 8, 2) := by decide +kernel
theorem dX8_starts_30 : decode cX8_starts 30 = .ok (.iconst 0, 1) := by decide +kernel
theorem dX8_starts_31 : decode cX8_starts 31 = .ok (.iastore, 1) := by decide +kernel
theorem dX8_starts_32 : decode cX8_starts 32 = .ok (.aload_n 0, 1) := by decide +kernel
theorem dX8_starts_33 : decode cX8_starts 33 = .ok (.bipush 9, 2) := by decide +kernel
theorem dX8_starts_35 : decode cX8_starts 35 = .ok (.iconst 0, 1) := by decide +kernel
theorem dX8_starts_36 : decode cX8_starts 36 = .ok (.iastore, 1) := by decide +kernel
theorem dX8_starts_37 : decode cX8_starts 37 = .ok (.aload_n 0, 1) := by decide +kernel
theorem dX8_starts_38 : decode cX8_starts 38 = .ok (.bipush 10, 2) := by decide +kernel
theorem dX8_starts_40 : decode cX8_starts 40 = .ok (.iconst 0, 1) := by decide +kernel
theorem dX8_starts_41 : decode cX8_starts 41 = .ok (.iastore, 1) := by decide +kernel
theorem dX8_starts_42 : decode cX8_starts 42 = .ok (.aload_n 0, 1) := by decide +kernel
theorem dX8_starts_43 : decode cX8_starts 43 = .ok (.bipush 11, 2) := by decide +kernel
theorem dX8_starts_45 : decode cX8_starts 45 = .ok (.iconst 0, 1) := by decide +kernel
theorem dX8_starts_46 : decode cX8_starts 46 = .ok (.iastore, 1) := by decide +kernel
theorem dX8_starts_47 : decode cX8_starts 47 = .ok (.aload_n 0, 1) := by decide +kernel
theorem dX8_starts_48 : decode cX8_starts 48 = .ok (.bipush 12, 2) := by decide +kernel
theorem dX8_starts_50 : decode cX8_starts 50 = .ok (.iconst 0, 1) := by decide +kernel
theorem dX8_starts_51 : decode cX8_starts 51 = .ok (.iastore, 1) := by decide +kernel
theorem dX8_starts_52 : decode cX8_starts 52 = .ok (.aload_n 0, 1) := by decide +kernel
theorem dX8_starts_53 : decode cX8_starts 53 = .ok (.bipush 13, 2) := by decide +kernel
theorem dX8_starts_55 : decode cX8_starts 55 = .ok (.iconst 0, 1) := by decide +kernel
theorem dX8_starts_56 : decode cX8_starts 56 = .ok (.iastore, 1) := by decide +kernel
theorem dX8_starts_57 : decode cX8_starts 57 = .ok (.aload_n 0, 1) := by decide +kernel
theorem dX8_starts_58 : decode cX8_starts 58 = .ok (.bipush 15, 2) := by decide +kernel
theorem dX8_starts_60 : decode cX8_starts 60 = .ok (.iconst 0, 1) := by decide +kernel
theorem dX8_starts_61 : decode cX8_starts 61 = .ok (.iastore, 1) := by decide +kernel
theorem dX8_starts_62 : decode cX8_starts 62 = .ok (.return_, 1) := by decide +kernel
theorem dX8_marks_0 : decode cX8_marks 0 = .ok (.aload_n 0, 1) := by decide +kernel
theorem dX8_marks_1 : decode cX8_marks 1 = .ok (.bipush 12, 2) := by decide +kernel
theorem dX8_marks_3 : decode cX8_marks 3 = .ok (.dup2, 1) := by decide +kernel
theorem dX8_marks_4 : decode cX8_marks 4 = .ok (.iaload, 1) := by decide +kernel
theorem dX8_marks_5 : decode cX8_marks 5 = .ok (.iconst 1, 1) := by decide +kernel
theorem dX8_marks_6 : decode cX8_marks 6 = .ok (.iload_n 1, 1) := by decide +kernel
theorem dX8_marks_7 : decode cX8_marks 7 = .ok (.ishl, 1) := by decide +kernel
theorem dX8_marks_8 : decode cX8_marks 8 = .ok (.ior, 1) := by decide +kernel
theorem dX8_marks_9 : decode cX8_marks 9 = .ok (.iastore, 1) := by decide +kernel
theorem dX8_marks_10 : decode cX8_marks 10 = .ok (.aload_n 0, 1) := by decide +kernel
theorem dX8_marks_11 : decode cX8_marks 11 = .ok (.bipush 92, 2) := by decide +kernel
theorem dX8_marks_13 : decode cX8_marks 13 = .ok (.iload_n 1, 1) := by decide +kernel
theorem dX8_marks_14 : decode cX8_marks 14 = .ok (.iadd, 1) := by decide +kernel
theorem dX8_marks_15 : decode cX8_marks 15 = .ok (.iconst 0, 1) := by decide +kernel
theorem dX8_marks_16 : decode cX8_marks 16 = .ok (.iastore, 1) := by decide +kernel
theorem dX8_marks_17 : decode cX8_marks 17 = .ok (.return_, 1) := by decide +kernel
theorem dX8_stepAtNone_0 : decode cX8_stepAtNone 0 = .ok (.aload_n 0, 1) := by decide +kernel
theorem dX8_stepAtNone_1 : decode cX8_stepAtNone 1 = .ok (.iconst 5, 1) := by decide +kernel
theorem dX8_stepAtNone_2 : decode cX8_stepAtNone 2 = .ok (.iaload, 1) := by decide +kernel
theorem dX8_stepAtNone_3 : decode cX8_stepAtNone 3 = .ok (.iconst 4, 1) := by decide +kernel
theorem dX8_stepAtNone_4 : decode cX8_stepAtNone 4 = .ok (.if_icmp .ge 44, 3) := by decide +kernel
theorem dX8_stepAtNone_7 : decode cX8_stepAtNone 7 = .ok (.aload_n 0, 1) := by decide +kernel
theorem dX8_stepAtNone_8 : decode cX8_stepAtNone 8 = .ok (.bipush 16, 2) := by decide +kernel
theorem dX8_stepAtNone_10 : decode cX8_stepAtNone 10 = .ok (.aload_n 0, 1) := by decide +kernel
theorem dX8_stepAtNone_11 : decode cX8_stepAtNone 11 = .ok (.iconst 5, 1) := by decide +kernel
theorem dX8_stepAtNone_12 : decode cX8_stepAtNone 12 = .ok (.iaload, 1) := by decide +kernel
theorem dX8_stepAtNone_13 : decode cX8_stepAtNone 13 = .ok (.iadd, 1) := by decide +kernel
theorem dX8_stepAtNone_14 : decode cX8_stepAtNone 14 = .ok (.iaload, 1) := by decide +kernel
theorem dX8_stepAtNone_15 : decode cX8_stepAtNone 15 = .ok (.istore_n 1, 1) := by decide +kernel
theorem dX8_stepAtNone_16 : decode cX8_stepAtNone 16 = .ok (.aload_n 0, 1) := by decide +kernel
theorem dX8_stepAtNone_17 : decode cX8_stepAtNone 17 = .ok (.iconst 5, 1) := by decide +kernel
theorem dX8_stepAtNone_18 : decode cX8_stepAtNone 18 = .ok (.dup2, 1) := by decide +kernel
theorem dX8_stepAtNone_19 : decode cX8_stepAtNone 19 = .ok (.iaload, 1) := by decide +kernel
theorem dX8_stepAtNone_20 : decode cX8_stepAtNone 20 = .ok (.iconst 1, 1) := by decide +kernel
theorem dX8_stepAtNone_21 : decode cX8_stepAtNone 21 = .ok (.iadd, 1) := by decide +kernel
theorem dX8_stepAtNone_22 : decode cX8_stepAtNone 22 = .ok (.iastore, 1) := by decide +kernel
theorem dX8_stepAtNone_23 : decode cX8_stepAtNone 23 = .ok (.iload_n 1, 1) := by decide +kernel
theorem dX8_stepAtNone_24 : decode cX8_stepAtNone 24 = .ok (.ifCond .lt 23, 3) := by decide +kernel
theorem dX8_stepAtNone_27 : decode cX8_stepAtNone 27 = .ok (.aload_n 0, 1) := by decide +kernel
theorem dX8_stepAtNone_28 : decode cX8_stepAtNone 28 = .ok (.bipush 12, 2) := by decide +kernel
theorem dX8_stepAtNone_30 : decode cX8_stepAtNone 30 = .ok (.iaload, 1) := by decide +kernel
theorem dX8_stepAtNone_31 : decode cX8_stepAtNone 31 = .ok (.iload_n 1, 1) := by decide +kernel
theorem dX8_stepAtNone_32 : decode cX8_stepAtNone 32 = .ok (.invokestatic 61, 3) := by decide +kernel
theorem dX8_stepAtNone_35 : decode cX8_stepAtNone 35 = .ok (.ifCond .ne 12, 3) := by decide +kernel
theorem dX8_stepAtNone_38 : decode cX8_stepAtNone 38 = .ok (.aload_n 0, 1) := by decide +kernel
theorem dX8_stepAtNone_39 : decode cX8_stepAtNone 39 = .ok (.iload_n 1, 1) := by decide +kernel
theorem dX8_stepAtNone_40 : decode cX8_stepAtNone 40 = .ok (.invokestatic 187, 3) := by decide +kernel
theorem dX8_stepAtNone_43 : decode cX8_stepAtNone 43 = .ok (.aload_n 0, 1) := by decide +kernel
theorem dX8_stepAtNone_44 : decode cX8_stepAtNone 44 = .ok (.iconst 4, 1) := by decide +kernel
theorem dX8_stepAtNone_45 : decode cX8_stepAtNone 45 = .ok (.iload_n 1, 1) := by decide +kernel
theorem dX8_stepAtNone_46 : decode cX8_stepAtNone 46 = .ok (.iastore, 1) := by decide +kernel
theorem dX8_stepAtNone_47 : decode cX8_stepAtNone 47 = .ok (.return_, 1) := by decide +kernel
theorem dX8_stepAtNone_48 : decode cX8_stepAtNone 48 = .ok (.iconst 0, 1) := by decide +kernel
theorem dX8_stepAtNone_49 : decode cX8_stepAtNone 49 = .ok (.istore_n 1, 1) := by decide +kernel
theorem dX8_stepAtNone_50 : decode cX8_stepAtNone 50 = .ok (.iload_n 1, 1) := by decide +kernel
theorem dX8_stepAtNone_51 : decode cX8_stepAtNone 51 = .ok (.bipush 24, 2) := by decide +kernel
theorem dX8_stepAtNone_53 : decode cX8_stepAtNone 53 = .ok (.if_icmp .ge 44, 3) := by decide +kernel
theorem dX8_stepAtNone_56 : decode cX8_stepAtNone 56 = .ok (.aload_n 0, 1) := by decide +kernel
theorem dX8_stepAtNone_57 : decode cX8_stepAtNone 57 = .ok (.bipush 13, 2) := by decide +kernel
theorem dX8_stepAtNone_59 : decode cX8_stepAtNone 59 = .ok (.iaload, 1) := by decide +kernel
theorem dX8_stepAtNone_60 : decode cX8_stepAtNone 60 = .ok (.iload_n 1, 1) := by decide +kernel
theorem dX8_stepAtNone_61 : decode cX8_stepAtNone 61 = .ok (.invokestatic 61, 3) := by decide +kernel
theorem dX8_stepAtNone_64 : decode cX8_stepAtNone 64 = .ok (.ifCond .eq 27, 3) := by decide +kernel
theorem dX8_stepAtNone_67 : decode cX8_stepAtNone 67 = .ok (.aload_n 0, 1) := by decide +kernel
theorem dX8_stepAtNone_68 : decode cX8_stepAtNone 68 = .ok (.bipush 13, 2) := by decide +kernel
theorem dX8_stepAtNone_70 : decode cX8_stepAtNone 70 = .ok (.dup2, 1) := by decide +kernel
theorem dX8_stepAtNone_71 : decode cX8_stepAtNone 71 = .ok (.iaload, 1) := by decide +kernel
theorem dX8_stepAtNone_72 : decode cX8_stepAtNone 72 = .ok (.iconst 1, 1) := by decide +kernel
theorem dX8_stepAtNone_73 : decode cX8_stepAtNone 73 = .ok (.iload_n 1, 1) := by decide +kernel
theorem dX8_stepAtNone_74 : decode cX8_stepAtNone 74 = .ok (.ishl, 1) := by decide +kernel
theorem dX8_stepAtNone_75 : decode cX8_stepAtNone 75 = .ok (.iconst (-1), 1) := by decide +kernel
theorem dX8_stepAtNone_76 : decode cX8_stepAtNone 76 = .ok (.ixor, 1) := by decide +kernel
theorem dX8_stepAtNone_77 : decode cX8_stepAtNone 77 = .ok (.iand, 1) := by decide +kernel
theorem dX8_stepAtNone_78 : decode cX8_stepAtNone 78 = .ok (.iastore, 1) := by decide +kernel
theorem dX8_stepAtNone_79 : decode cX8_stepAtNone 79 = .ok (.aload_n 0, 1) := by decide +kernel
theorem dX8_stepAtNone_80 : decode cX8_stepAtNone 80 = .ok (.iconst 4, 1) := by decide +kernel
theorem dX8_stepAtNone_81 : decode cX8_stepAtNone 81 = .ok (.iload_n 1, 1) := by decide +kernel
theorem dX8_stepAtNone_82 : decode cX8_stepAtNone 82 = .ok (.iastore, 1) := by decide +kernel
theorem dX8_stepAtNone_83 : decode cX8_stepAtNone 83 = .ok (.aload_n 0, 1) := by decide +kernel
theorem dX8_stepAtNone_84 : decode cX8_stepAtNone 84 = .ok (.bipush 92, 2) := by decide +kernel
theorem dX8_stepAtNone_86 : decode cX8_stepAtNone 86 = .ok (.iload_n 1, 1) := by decide +kernel
theorem dX8_stepAtNone_87 : decode cX8_stepAtNone 87 = .ok (.iadd, 1) := by decide +kernel
theorem dX8_stepAtNone_88 : decode cX8_stepAtNone 88 = .ok (.iconst 0, 1) := by decide +kernel
theorem dX8_stepAtNone_89 : decode cX8_stepAtNone 89 = .ok (.iastore, 1) := by decide +kernel
theorem dX8_stepAtNone_90 : decode cX8_stepAtNone 90 = .ok (.return_, 1) := by decide +kernel
theorem dX8_stepAtNone_91 : decode cX8_stepAtNone 91 = .ok (.iinc 1 1, 3) := by decide +kernel
theorem dX8_stepAtNone_94 : decode cX8_stepAtNone 94 = .ok (.goto (-44), 3) := by decide +kernel
theorem dX8_stepAtNone_97 : decode cX8_stepAtNone 97 = .ok (.aload_n 0, 1) := by decide +kernel
theorem dX8_stepAtNone_98 : decode cX8_stepAtNone 98 = .ok (.iconst 2, 1) := by decide +kernel
theorem dX8_stepAtNone_99 : decode cX8_stepAtNone 99 = .ok (.iconst 0, 1) := by decide +kernel
theorem dX8_stepAtNone_100 : decode cX8_stepAtNone 100 = .ok (.iastore, 1) := by decide +kernel
theorem dX8_stepAtNone_101 : decode cX8_stepAtNone 101 = .ok (.aload_n 0, 1) := by decide +kernel
theorem dX8_stepAtNone_102 : decode cX8_stepAtNone 102 = .ok (.bipush 15, 2) := by decide +kernel
theorem dX8_stepAtNone_104 : decode cX8_stepAtNone 104 = .ok (.iconst 1, 1) := by decide +kernel
theorem dX8_stepAtNone_105 : decode cX8_stepAtNone 105 = .ok (.iastore, 1) := by decide +kernel
theorem dX8_stepAtNone_106 : decode cX8_stepAtNone 106 = .ok (.return_, 1) := by decide +kernel
theorem dX8_goesDown_0 : decode cX8_goesDown 0 = .ok (.aload_n 0, 1) := by decide +kernel
theorem dX8_goesDown_1 : decode cX8_goesDown 1 = .ok (.iload_n 2, 1) := by decide +kernel
theorem dX8_goesDown_2 : decode cX8_goesDown 2 = .ok (.invokestatic 187, 3) := by decide +kernel
theorem dX8_goesDown_5 : decode cX8_goesDown 5 = .ok (.aload_n 0, 1) := by decide +kernel
theorem dX8_goesDown_6 : decode cX8_goesDown 6 = .ok (.bipush 6, 2) := by decide +kernel
theorem dX8_goesDown_8 : decode cX8_goesDown 8 = .ok (.iaload, 1) := by decide +kernel
theorem dX8_goesDown_9 : decode cX8_goesDown 9 = .ok (.aload_n 0, 1) := by decide +kernel
theorem dX8_goesDown_10 : decode cX8_goesDown 10 = .ok (.iconst 3, 1) := by decide +kernel
theorem dX8_goesDown_11 : decode cX8_goesDown 11 = .ok (.iaload, 1) := by decide +kernel
theorem dX8_goesDown_12 : decode cX8_goesDown 12 = .ok (.if_icmp .ge 7, 3) := by decide +kernel
theorem dX8_goesDown_15 : decode cX8_goesDown 15 = .ok (.iconst 1, 1) := by decide +kernel
theorem dX8_goesDown_16 : decode cX8_goesDown 16 = .ok (.goto 4, 3) := by decide +kernel
theorem dX8_goesDown_19 : decode cX8_goesDown 19 = .ok (.iconst 0, 1) := by decide +kernel
theorem dX8_goesDown_20 : decode cX8_goesDown 20 = .ok (.istore_n 3, 1) := by decide +kernel
theorem dX8_goesDown_21 : decode cX8_goesDown 21 = .ok (.iload_n 3, 1) := by decide +kernel
theorem dX8_goesDown_22 : decode cX8_goesDown 22 = .ok (.ifCond .ne 43, 3) := by decide +kernel
theorem dX8_goesDown_25 : decode cX8_goesDown 25 = .ok (.aload_n 0, 1) := by decide +kernel
theorem dX8_goesDown_26 : decode cX8_goesDown 26 = .ok (.bipush 14, 2) := by decide +kernel
theorem dX8_goesDown_28 : decode cX8_goesDown 28 = .ok (.iaload, 1) := by decide +kernel
theorem dX8_goesDown_29 : decode cX8_goesDown 29 = .ok (.iload_n 1, 1) := by decide +kernel
theorem dX8_goesDown_30 : decode cX8_goesDown 30 = .ok (.invokestatic 61, 3) := by decide +kernel
theorem dX8_goesDown_33 : decode cX8_goesDown 33 = .ok (.ifCond .eq 32, 3) := by decide +kernel
theorem dX8_goesDown_36 : decode cX8_goesDown 36 = .ok (.aload_n 0, 1) := by decide +kernel
theorem dX8_goesDown_37 : decode cX8_goesDown 37 = .ok (.bipush 13, 2) := by decide +kernel
theorem dX8_goesDown_39 : decode cX8_goesDown 39 = .ok (.dup2, 1) := by decide +kernel
theorem dX8_goesDown_40 : decode cX8_goesDown 40 = .ok (.iaload, 1) := by decide +kernel
theorem dX8_goesDown_41 : decode cX8_goesDown 41 = .ok (.iconst 1, 1) := by decide +kernel
theorem dX8_goesDown_42 : decode cX8_goesDown 42 = .ok (.iload_n 2, 1) := by decide +kernel
theorem dX8_goesDown_43 : decode cX8_goesDown 43 = .ok (.ishl, 1) := by decide +kernel
theorem dX8_goesDown_44 : decode cX8_goesDown 44 = .ok (.ior, 1) := by decide +kernel
theorem dX8_goesDown_45 : decode cX8_goesDown 45 = .ok (.iastore, 1) := by decide +kernel
theorem dX8_goesDown_46 : decode cX8_goesDown 46 = .ok (.aload_n 0, 1) := by decide +kernel
theorem dX8_goesDown_47 : decode cX8_goesDown 47 = .ok (.bipush 10, 2) := by decide +kernel
theorem dX8_goesDown_49 : decode cX8_goesDown 49 = .ok (.dup2, 1) := by decide +kernel
theorem dX8_goesDown_50 : decode cX8_goesDown 50 = .ok (.iaload, 1) := by decide +kernel
theorem dX8_goesDown_51 : decode cX8_goesDown 51 = .ok (.iconst 1, 1) := by decide +kernel
theorem dX8_goesDown_52 : decode cX8_goesDown 52 = .ok (.iadd, 1) := by decide +kernel
theorem dX8_goesDown_53 : decode cX8_goesDown 53 = .ok (.iastore, 1) := by decide +kernel
theorem dX8_goesDown_54 : decode cX8_goesDown 54 = .ok (.aload_n 0, 1) := by decide +kernel
theorem dX8_goesDown_55 : decode cX8_goesDown 55 = .ok (.bipush 92, 2) := by decide +kernel
theorem dX8_goesDown_57 : decode cX8_goesDown 57 = .ok (.iload_n 1, 1) := by decide +kernel
theorem dX8_goesDown_58 : decode cX8_goesDown 58 = .ok (.iadd, 1) := by decide +kernel
theorem dX8_goesDown_59 : decode cX8_goesDown 59 = .ok (.dup2, 1) := by decide +kernel
theorem dX8_goesDown_60 : decode cX8_goesDown 60 = .ok (.iaload, 1) := by decide +kernel
theorem dX8_goesDown_61 : decode cX8_goesDown 61 = .ok (.iconst 1, 1) := by decide +kernel
theorem dX8_goesDown_62 : decode cX8_goesDown 62 = .ok (.iadd, 1) := by decide +kernel
theorem dX8_goesDown_63 : decode cX8_goesDown 63 = .ok (.iastore, 1) := by decide +kernel
theorem dX8_goesDown_64 : decode cX8_goesDown 64 = .ok (.return_, 1) := by decide +kernel
theorem dX8_goesDown_65 : decode cX8_goesDown 65 = .ok (.aload_n 0, 1) := by decide +kernel
theorem dX8_goesDown_66 : decode cX8_goesDown 66 = .ok (.bipush 9, 2) := by decide +kernel
theorem dX8_goesDown_68 : decode cX8_goesDown 68 = .ok (.dup2, 1) := by decide +kernel
theorem dX8_goesDown_69 : decode cX8_goesDown 69 = .ok (.iaload, 1) := by decide +kernel
theorem dX8_goesDown_70 : decode cX8_goesDown 70 = .ok (.iload_n 3, 1) := by decide +kernel
theorem dX8_goesDown_71 : decode cX8_goesDown 71 = .ok (.ifCond .eq 7, 3) := by decide +kernel
theorem dX8_goesDown_74 : decode cX8_goesDown 74 = .ok (.iconst 1, 1) := by decide +kernel
theorem dX8_goesDown_75 : decode cX8_goesDown 75 = .ok (.goto 4, 3) := by decide +kernel
theorem dX8_goesDown_78 : decode cX8_goesDown 78 = .ok (.iconst 0, 1) := by decide +kernel
theorem dX8_goesDown_79 : decode cX8_goesDown 79 = .ok (.iadd, 1) := by decide +kernel
theorem dX8_goesDown_80 : decode cX8_goesDown 80 = .ok (.iastore, 1) := by decide +kernel
theorem dX8_goesDown_81 : decode cX8_goesDown 81 = .ok (.aload_n 0, 1) := by decide +kernel
theorem dX8_goesDown_82 : decode cX8_goesDown 82 = .ok (.bipush 8, 2) := by decide +kernel
theorem dX8_goesDown_84 : decode cX8_goesDown 84 = .ok (.dup2, 1) := by decide +kernel
theorem dX8_goesDown_85 : decode cX8_goesDown 85 = .ok (.iaload, 1) := by decide +kernel
theorem dX8_goesDown_86 : decode cX8_goesDown 86 = .ok (.iload_n 3, 1) := by decide +kernel
theorem dX8_goesDown_87 : decode cX8_goesDown 87 = .ok (.ifCond .eq 7, 3) := by decide +kernel
theorem dX8_goesDown_90 : decode cX8_goesDown 90 = .ok (.iconst 0, 1) := by decide +kernel
theorem dX8_goesDown_91 : decode cX8_goesDown 91 = .ok (.goto 4, 3) := by decide +kernel
theorem dX8_goesDown_94 : decode cX8_goesDown 94 = .ok (.iconst 1, 1) := by decide +kernel
theorem dX8_goesDown_95 : decode cX8_goesDown 95 = .ok (.iadd, 1) := by decide +kernel
theorem dX8_goesDown_96 : decode cX8_goesDown 96 = .ok (.iastore, 1) := by decide +kernel
theorem dX8_goesDown_97 : decode cX8_goesDown 97 = .ok (.aload_n 0, 1) := by decide +kernel
theorem dX8_goesDown_98 : decode cX8_goesDown 98 = .ok (.bipush 116, 2) := by decide +kernel
theorem dX8_goesDown_100 : decode cX8_goesDown 100 = .ok (.aload_n 0, 1) := by decide +kernel
theorem dX8_goesDown_101 : decode cX8_goesDown 101 = .ok (.bipush 6, 2) := by decide +kernel
theorem dX8_goesDown_103 : decode cX8_goesDown 103 = .ok (.iaload, 1) := by decide +kernel
theorem dX8_goesDown_104 : decode cX8_goesDown 104 = .ok (.iadd, 1) := by decide +kernel
theorem dX8_goesDown_105 : decode cX8_goesDown 105 = .ok (.iload_n 1, 1) := by decide +kernel
theorem dX8_goesDown_106 : decode cX8_goesDown 106 = .ok (.iastore, 1) := by decide +kernel
theorem dX8_goesDown_107 : decode cX8_goesDown 107 = .ok (.aload_n 0, 1) := by decide +kernel
theorem dX8_goesDown_108 : decode cX8_goesDown 108 = .ok (.bipush 6, 2) := by decide +kernel
theorem dX8_goesDown_110 : decode cX8_goesDown 110 = .ok (.dup2, 1) := by decide +kernel
theorem dX8_goesDown_111 : decode cX8_goesDown 111 = .ok (.iaload, 1) := by decide +kernel
theorem dX8_goesDown_112 : decode cX8_goesDown 112 = .ok (.iconst 1, 1) := by decide +kernel
theorem dX8_goesDown_113 : decode cX8_goesDown 113 = .ok (.iadd, 1) := by decide +kernel
theorem dX8_goesDown_114 : decode cX8_goesDown 114 = .ok (.iastore, 1) := by decide +kernel
theorem dX8_goesDown_115 : decode cX8_goesDown 115 = .ok (.aload_n 0, 1) := by decide +kernel
theorem dX8_goesDown_116 : decode cX8_goesDown 116 = .ok (.iconst 4, 1) := by decide +kernel
theorem dX8_goesDown_117 : decode cX8_goesDown 117 = .ok (.iload_n 2, 1) := by decide +kernel
theorem dX8_goesDown_118 : decode cX8_goesDown 118 = .ok (.iastore, 1) := by decide +kernel
theorem dX8_goesDown_119 : decode cX8_goesDown 119 = .ok (.aload_n 0, 1) := by decide +kernel
theorem dX8_goesDown_120 : decode cX8_goesDown 120 = .ok (.bipush 11, 2) := by decide +kernel
theorem dX8_goesDown_122 : decode cX8_goesDown 122 = .ok (.aload_n 0, 1) := by decide +kernel
theorem dX8_goesDown_123 : decode cX8_goesDown 123 = .ok (.bipush 11, 2) := by decide +kernel
theorem dX8_goesDown_125 : decode cX8_goesDown 125 = .ok (.iaload, 1) := by decide +kernel
theorem dX8_goesDown_126 : decode cX8_goesDown 126 = .ok (.aload_n 0, 1) := by decide +kernel
theorem dX8_goesDown_127 : decode cX8_goesDown 127 = .ok (.bipush 6, 2) := by decide +kernel
theorem dX8_goesDown_129 : decode cX8_goesDown 129 = .ok (.iaload, 1) := by decide +kernel
theorem dX8_goesDown_130 : decode cX8_goesDown 130 = .ok (.invokestatic 124, 3) := by decide +kernel
theorem dX8_goesDown_133 : decode cX8_goesDown 133 = .ok (.iastore, 1) := by decide +kernel
theorem dX8_goesDown_134 : decode cX8_goesDown 134 = .ok (.return_, 1) := by decide +kernel
theorem dX8_goesUp_0 : decode cX8_goesUp 0 = .ok (.aload_n 0, 1) := by decide +kernel
theorem dX8_goesUp_1 : decode cX8_goesUp 1 = .ok (.bipush 6, 2) := by decide +kernel
theorem dX8_goesUp_3 : decode cX8_goesUp 3 = .ok (.iaload, 1) := by decide +kernel
theorem dX8_goesUp_4 : decode cX8_goesUp 4 = .ok (.ifCond .ne 9, 3) := by decide +kernel
theorem dX8_goesUp_7 : decode cX8_goesUp 7 = .ok (.aload_n 0, 1) := by decide +kernel
theorem dX8_goesUp_8 : decode cX8_goesUp 8 = .ok (.iconst 4, 1) := by decide +kernel
theorem dX8_goesUp_9 : decode cX8_goesUp 9 = .ok (.bipush (-5), 2) := by decide +kernel
theorem dX8_goesUp_11 : decode cX8_goesUp 11 = .ok (.iastore, 1) := by decide +kernel
theorem dX8_goesUp_12 : decode cX8_goesUp 12 = .ok (.return_, 1) := by decide +kernel
theorem dX8_goesUp_13 : decode cX8_goesUp 13 = .ok (.aload_n 0, 1) := by decide +kernel
theorem dX8_goesUp_14 : decode cX8_goesUp 14 = .ok (.bipush 6, 2) := by decide +kernel
theorem dX8_goesUp_16 : decode cX8_goesUp 16 = .ok (.dup2, 1) := by decide +kernel
theorem dX8_goesUp_17 : decode cX8_goesUp 17 = .ok (.iaload, 1) := by decide +kernel
theorem dX8_goesUp_18 : decode cX8_goesUp 18 = .ok (.iconst 1, 1) := by decide +kernel
theorem dX8_goesUp_19 : decode cX8_goesUp 19 = .ok (.isub, 1) := by decide +kernel
theorem dX8_goesUp_20 : decode cX8_goesUp 20 = .ok (.iastore, 1) := by decide +kernel
theorem dX8_goesUp_21 : decode cX8_goesUp 21 = .ok (.aload_n 0, 1) := by decide +kernel
theorem dX8_goesUp_22 : decode cX8_goesUp 22 = .ok (.iconst 4, 1) := by decide +kernel
theorem dX8_goesUp_23 : decode cX8_goesUp 23 = .ok (.aload_n 0, 1) := by decide +kernel
theorem dX8_goesUp_24 : decode cX8_goesUp 24 = .ok (.bipush 116, 2) := by decide +kernel
theorem dX8_goesUp_26 : decode cX8_goesUp 26 = .ok (.aload_n 0, 1) := by decide +kernel
theorem dX8_goesUp_27 : decode cX8_goesUp 27 = .ok (.bipush 6, 2) := by decide +kernel
theorem dX8_goesUp_29 : decode cX8_goesUp 29 = .ok (.iaload, 1) := by decide +kernel
theorem dX8_goesUp_30 : decode cX8_goesUp 30 = .ok (.iadd, 1) := by decide +kernel
theorem dX8_goesUp_31 : decode cX8_goesUp 31 = .ok (.iaload, 1) := by decide +kernel
theorem dX8_goesUp_32 : decode cX8_goesUp 32 = .ok (.iastore, 1) := by decide +kernel
theorem dX8_goesUp_33 : decode cX8_goesUp 33 = .ok (.aload_n 0, 1) := by decide +kernel
theorem dX8_goesUp_34 : decode cX8_goesUp 34 = .ok (.bipush 92, 2) := by decide +kernel
theorem dX8_goesUp_36 : decode cX8_goesUp 36 = .ok (.aload_n 0, 1) := by decide +kernel
theorem dX8_goesUp_37 : decode cX8_goesUp 37 = .ok (.iconst 4, 1) := by decide +kernel
theorem dX8_goesUp_38 : decode cX8_goesUp 38 = .ok (.iaload, 1) := by decide +kernel
theorem dX8_goesUp_39 : decode cX8_goesUp 39 = .ok (.iadd, 1) := by decide +kernel
theorem dX8_goesUp_40 : decode cX8_goesUp 40 = .ok (.dup2, 1) := by decide +kernel
theorem dX8_goesUp_41 : decode cX8_goesUp 41 = .ok (.iaload, 1) := by decide +kernel
theorem dX8_goesUp_42 : decode cX8_goesUp 42 = .ok (.iconst 1, 1) := by decide +kernel
theorem dX8_goesUp_43 : decode cX8_goesUp 43 = .ok (.iadd, 1) := by decide +kernel
theorem dX8_goesUp_44 : decode cX8_goesUp 44 = .ok (.iastore, 1) := by decide +kernel
theorem dX8_goesUp_45 : decode cX8_goesUp 45 = .ok (.return_, 1) := by decide +kernel
theorem dX8_steps_0 : decode cX8_steps 0 = .ok (.aload_n 0, 1) := by decide +kernel
theorem dX8_steps_1 : decode cX8_steps 1 = .ok (.iconst 4, 1) := by decide +kernel
theorem dX8_steps_2 : decode cX8_steps 2 = .ok (.iaload, 1) := by decide +kernel
theorem dX8_steps_3 : decode cX8_steps 3 = .ok (.istore_n 1, 1) := by decide +kernel
theorem dX8_steps_4 : decode cX8_steps 4 = .ok (.aload_n 0, 1) := by decide +kernel
theorem dX8_steps_5 : decode cX8_steps 5 = .ok (.bipush 7, 2) := by decide +kernel
theorem dX8_steps_7 : decode cX8_steps 7 = .ok (.dup2, 1) := by decide +kernel
theorem dX8_steps_8 : decode cX8_steps 8 = .ok (.iaload, 1) := by decide +kernel
theorem dX8_steps_9 : decode cX8_steps 9 = .ok (.iconst 1, 1) := by decide +kernel
theorem dX8_steps_10 : decode cX8_steps 10 = .ok (.iadd, 1) := by decide +kernel
theorem dX8_steps_11 : decode cX8_steps 11 = .ok (.iastore, 1) := by decide +kernel
theorem dX8_steps_12 : decode cX8_steps 12 = .ok (.iload_n 1, 1) := by decide +kernel
theorem dX8_steps_13 : decode cX8_steps 13 = .ok (.ifCond .ge 10, 3) := by decide +kernel
theorem dX8_steps_16 : decode cX8_steps 16 = .ok (.aload_n 0, 1) := by decide +kernel
theorem dX8_steps_17 : decode cX8_steps 17 = .ok (.invokestatic 191, 3) := by decide +kernel
theorem dX8_steps_20 : decode cX8_steps 20 = .ok (.goto 71, 3) := by decide +kernel
theorem dX8_steps_23 : decode cX8_steps 23 = .ok (.aload_n 0, 1) := by decide +kernel
theorem dX8_steps_24 : decode cX8_steps 24 = .ok (.bipush 92, 2) := by decide +kernel
theorem dX8_steps_26 : decode cX8_steps 26 = .ok (.iload_n 1, 1) := by decide +kernel
theorem dX8_steps_27 : decode cX8_steps 27 = .ok (.iadd, 1) := by decide +kernel
theorem dX8_steps_28 : decode cX8_steps 28 = .ok (.iaload, 1) := by decide +kernel
theorem dX8_steps_29 : decode cX8_steps 29 = .ok (.aload_n 0, 1) := by decide +kernel
theorem dX8_steps_30 : decode cX8_steps 30 = .ok (.bipush 68, 2) := by decide +kernel
theorem dX8_steps_32 : decode cX8_steps 32 = .ok (.iload_n 1, 1) := by decide +kernel
theorem dX8_steps_33 : decode cX8_steps 33 = .ok (.iadd, 1) := by decide +kernel
theorem dX8_steps_34 : decode cX8_steps 34 = .ok (.iaload, 1) := by decide +kernel
theorem dX8_steps_35 : decode cX8_steps 35 = .ok (.if_icmp .ge 52, 3) := by decide +kernel
theorem dX8_steps_38 : decode cX8_steps 38 = .ok (.aload_n 0, 1) := by decide +kernel
theorem dX8_steps_39 : decode cX8_steps 39 = .ok (.iload_n 1, 1) := by decide +kernel
theorem dX8_steps_40 : decode cX8_steps 40 = .ok (.aload_n 0, 1) := by decide +kernel
theorem dX8_steps_41 : decode cX8_steps 41 = .ok (.bipush 92, 2) := by decide +kernel
theorem dX8_steps_43 : decode cX8_steps 43 = .ok (.iload_n 1, 1) := by decide +kernel
theorem dX8_steps_44 : decode cX8_steps 44 = .ok (.iadd, 1) := by decide +kernel
theorem dX8_steps_45 : decode cX8_steps 45 = .ok (.iaload, 1) := by decide +kernel
theorem dX8_steps_46 : decode cX8_steps 46 = .ok (.invokestatic 85, 3) := by decide +kernel
theorem dX8_steps_49 : decode cX8_steps 49 = .ok (.istore_n 2, 1) := by decide +kernel
theorem dX8_steps_50 : decode cX8_steps 50 = .ok (.iload_n 2, 1) := by decide +kernel
theorem dX8_steps_51 : decode cX8_steps 51 = .ok (.ifCond .lt 23, 3) := by decide +kernel
theorem dX8_steps_54 : decode cX8_steps 54 = .ok (.aload_n 0, 1) := by decide +kernel
theorem dX8_steps_55 : decode cX8_steps 55 = .ok (.bipush 12, 2) := by decide +kernel
theorem dX8_steps_57 : decode cX8_steps 57 = .ok (.iaload, 1) := by decide +kernel
theorem dX8_steps_58 : decode cX8_steps 58 = .ok (.iload_n 2, 1) := by decide +kernel
theorem dX8_steps_59 : decode cX8_steps 59 = .ok (.invokestatic 61, 3) := by decide +kernel
theorem dX8_steps_62 : decode cX8_steps 62 = .ok (.ifCond .ne 12, 3) := by decide +kernel
theorem dX8_steps_65 : decode cX8_steps 65 = .ok (.aload_n 0, 1) := by decide +kernel
theorem dX8_steps_66 : decode cX8_steps 66 = .ok (.iload_n 1, 1) := by decide +kernel
theorem dX8_steps_67 : decode cX8_steps 67 = .ok (.iload_n 2, 1) := by decide +kernel
theorem dX8_steps_68 : decode cX8_steps 68 = .ok (.invokestatic 195, 3) := by decide +kernel
theorem dX8_steps_71 : decode cX8_steps 71 = .ok (.goto 13, 3) := by decide +kernel
theorem dX8_steps_74 : decode cX8_steps 74 = .ok (.aload_n 0, 1) := by decide +kernel
theorem dX8_steps_75 : decode cX8_steps 75 = .ok (.bipush 92, 2) := by decide +kernel
theorem dX8_steps_77 : decode cX8_steps 77 = .ok (.iload_n 1, 1) := by decide +kernel
theorem dX8_steps_78 : decode cX8_steps 78 = .ok (.iadd, 1) := by decide +kernel
theorem dX8_steps_79 : decode cX8_steps 79 = .ok (.dup2, 1) := by decide +kernel
theorem dX8_steps_80 : decode cX8_steps 80 = .ok (.iaload, 1) := by decide +kernel
theorem dX8_steps_81 : decode cX8_steps 81 = .ok (.iconst 1, 1) := by decide +kernel
theorem dX8_steps_82 : decode cX8_steps 82 = .ok (.iadd, 1) := by decide +kernel
theorem dX8_steps_83 : decode cX8_steps 83 = .ok (.iastore, 1) := by decide +kernel
theorem dX8_steps_84 : decode cX8_steps 84 = .ok (.goto 7, 3) := by decide +kernel
theorem dX8_steps_87 : decode cX8_steps 87 = .ok (.aload_n 0, 1) := by decide +kernel
theorem dX8_steps_88 : decode cX8_steps 88 = .ok (.invokestatic 199, 3) := by decide +kernel
theorem dX8_steps_91 : decode cX8_steps 91 = .ok (.return_, 1) := by decide +kernel
theorem dX8_goes_0 : decode cX8_goes 0 = .ok (.iconst 0, 1) := by decide +kernel
theorem dX8_goes_1 : decode cX8_goes 1 = .ok (.istore_n 2, 1) := by decide +kernel
theorem dX8_goes_2 : decode cX8_goes 2 = .ok (.iload_n 2, 1) := by decide +kernel
theorem dX8_goes_3 : decode cX8_goes 3 = .ok (.iload_n 1, 1) := by decide +kernel
theorem dX8_goes_4 : decode cX8_goes 4 = .ok (.if_icmp .ge 20, 3) := by decide +kernel
theorem dX8_goes_7 : decode cX8_goes 7 = .ok (.aload_n 0, 1) := by decide +kernel
theorem dX8_goes_8 : decode cX8_goes 8 = .ok (.iconst 2, 1) := by decide +kernel
theorem dX8_goes_9 : decode cX8_goes 9 = .ok (.iaload, 1) := by decide +kernel
theorem dX8_goes_10 : decode cX8_goes 10 = .ok (.iconst 1, 1) := by decide +kernel
theorem dX8_goes_11 : decode cX8_goes 11 = .ok (.if_icmp .ne 13, 3) := by decide +kernel
theorem dX8_goes_14 : decode cX8_goes 14 = .ok (.aload_n 0, 1) := by decide +kernel
theorem dX8_goes_15 : decode cX8_goes 15 = .ok (.invokestatic 202, 3) := by decide +kernel
theorem dX8_goes_18 : decode cX8_goes 18 = .ok (.iinc 2 1, 3) := by decide +kernel
theorem dX8_goes_21 : decode cX8_goes 21 = .ok (.goto (-19), 3) := by decide +kernel
theorem dX8_goes_24 : decode cX8_goes 24 = .ok (.iload_n 2, 1) := by decide +kernel
theorem dX8_goes_25 : decode cX8_goes 25 = .ok (.ireturn, 1) := by decide +kernel
theorem dX8_there_0 : decode cX8_there 0 = .ok (.aload_n 0, 1) := by decide +kernel
theorem dX8_there_1 : decode cX8_there 1 = .ok (.getfield 11, 3) := by decide +kernel
theorem dX8_there_4 : decode cX8_there 4 = .ok (.iconst 1, 1) := by decide +kernel
theorem dX8_there_5 : decode cX8_there 5 = .ok (.iaload, 1) := by decide +kernel
theorem dX8_there_6 : decode cX8_there 6 = .ok (.invokestatic 205, 3) := by decide +kernel
theorem dX8_there_9 : decode cX8_there 9 = .ok (.ireturn, 1) := by decide +kernel
theorem dX8_begin_0 : decode cX8_begin 0 = .ok (.iload_n 1, 1) := by decide +kernel
theorem dX8_begin_1 : decode cX8_begin 1 = .ok (.i2l, 1) := by decide +kernel
theorem dX8_begin_2 : decode cX8_begin 2 = .ok (.lconst 0, 1) := by decide +kernel
theorem dX8_begin_3 : decode cX8_begin 3 = .ok (.ldc2_w 210, 3) := by decide +kernel
theorem dX8_begin_6 : decode cX8_begin 6 = .ok (.invokestatic 57, 3) := by decide +kernel
theorem dX8_begin_9 : decode cX8_begin 9 = .ok (.ifCond .ne 6, 3) := by decide +kernel
theorem dX8_begin_12 : decode cX8_begin 12 = .ok (.bipush (-2), 2) := by decide +kernel
theorem dX8_begin_14 : decode cX8_begin 14 = .ok (.ireturn, 1) := by decide +kernel
theorem dX8_begin_15 : decode cX8_begin 15 = .ok (.aload_n 0, 1) := by decide +kernel
theorem dX8_begin_16 : decode cX8_begin 16 = .ok (.getfield 11, 3) := by decide +kernel
theorem dX8_begin_19 : decode cX8_begin 19 = .ok (.iconst 2, 1) := by decide +kernel
theorem dX8_begin_20 : decode cX8_begin 20 = .ok (.iaload, 1) := by decide +kernel
theorem dX8_begin_21 : decode cX8_begin 21 = .ok (.iconst 1, 1) := by decide +kernel
theorem dX8_begin_22 : decode cX8_begin 22 = .ok (.if_icmp .ne 6, 3) := by decide +kernel
theorem dX8_begin_25 : decode cX8_begin 25 = .ok (.bipush (-3), 2) := by decide +kernel
theorem dX8_begin_27 : decode cX8_begin 27 = .ok (.ireturn, 1) := by decide +kernel
theorem dX8_begin_28 : decode cX8_begin 28 = .ok (.aload_n 0, 1) := by decide +kernel
theorem dX8_begin_29 : decode cX8_begin 29 = .ok (.getfield 11, 3) := by decide +kernel
theorem dX8_begin_32 : decode cX8_begin 32 = .ok (.iload_n 1, 1) := by decide +kernel
theorem dX8_begin_33 : decode cX8_begin 33 = .ok (.invokestatic 212, 3) := by decide +kernel
theorem dX8_begin_36 : decode cX8_begin 36 = .ok (.aload_n 0, 1) := by decide +kernel
theorem dX8_begin_37 : decode cX8_begin 37 = .ok (.invokevirtual 215, 3) := by decide +kernel
theorem dX8_begin_40 : decode cX8_begin 40 = .ok (.ireturn, 1) := by decide +kernel
theorem dX8_step_0 : decode cX8_step 0 = .ok (.iload_n 1, 1) := by decide +kernel
theorem dX8_step_1 : decode cX8_step 1 = .ok (.i2l, 1) := by decide +kernel
theorem dX8_step_2 : decode cX8_step 2 = .ok (.lconst 0, 1) := by decide +kernel
theorem dX8_step_3 : decode cX8_step 3 = .ok (.ldc2_w 219, 3) := by decide +kernel
theorem dX8_step_6 : decode cX8_step 6 = .ok (.invokestatic 57, 3) := by decide +kernel
theorem dX8_step_9 : decode cX8_step 9 = .ok (.ifCond .ne 6, 3) := by decide +kernel
theorem dX8_step_12 : decode cX8_step 12 = .ok (.bipush (-2), 2) := by decide +kernel
theorem dX8_step_14 : decode cX8_step 14 = .ok (.ireturn, 1) := by decide +kernel
theorem dX8_step_15 : decode cX8_step 15 = .ok (.aload_n 0, 1) := by decide +kernel
theorem dX8_step_16 : decode cX8_step 16 = .ok (.getfield 11, 3) := by decide +kernel
theorem dX8_step_19 : decode cX8_step 19 = .ok (.iconst 2, 1) := by decide +kernel
theorem dX8_step_20 : decode cX8_step 20 = .ok (.iaload, 1) := by decide +kernel
theorem dX8_step_21 : decode cX8_step 21 = .ok (.ifCond .ne 8, 3) := by decide +kernel
theorem dX8_step_24 : decode cX8_step 24 = .ok (.bipush (-3), 2) := by decide +kernel
theorem dX8_step_26 : decode cX8_step 26 = .ok (.goto 11, 3) := by decide +kernel
theorem dX8_step_29 : decode cX8_step 29 = .ok (.aload_n 0, 1) := by decide +kernel
theorem dX8_step_30 : decode cX8_step 30 = .ok (.getfield 11, 3) := by decide +kernel
theorem dX8_step_33 : decode cX8_step 33 = .ok (.iload_n 1, 1) := by decide +kernel
theorem dX8_step_34 : decode cX8_step 34 = .ok (.invokestatic 221, 3) := by decide +kernel
theorem dX8_step_37 : decode cX8_step 37 = .ok (.ireturn, 1) := by decide +kernel
theorem dX8_leave_0 : decode cX8_leave 0 = .ok (.aload_n 0, 1) := by decide +kernel
theorem dX8_leave_1 : decode cX8_leave 1 = .ok (.getfield 11, 3) := by decide +kernel
theorem dX8_leave_4 : decode cX8_leave 4 = .ok (.iconst 2, 1) := by decide +kernel
theorem dX8_leave_5 : decode cX8_leave 5 = .ok (.iaload, 1) := by decide +kernel
theorem dX8_leave_6 : decode cX8_leave 6 = .ok (.ifCond .ne 6, 3) := by decide +kernel
theorem dX8_leave_9 : decode cX8_leave 9 = .ok (.bipush (-3), 2) := by decide +kernel
theorem dX8_leave_11 : decode cX8_leave 11 = .ok (.ireturn, 1) := by decide +kernel
theorem dX8_leave_12 : decode cX8_leave 12 = .ok (.aload_n 0, 1) := by decide +kernel
theorem dX8_leave_13 : decode cX8_leave 13 = .ok (.getfield 11, 3) := by decide +kernel
theorem dX8_leave_16 : decode cX8_leave 16 = .ok (.invokestatic 129, 3) := by decide +kernel
theorem dX8_leave_19 : decode cX8_leave 19 = .ok (.istore_n 1, 1) := by decide +kernel
theorem dX8_leave_20 : decode cX8_leave 20 = .ok (.aload_n 0, 1) := by decide +kernel
theorem dX8_leave_21 : decode cX8_leave 21 = .ok (.getfield 11, 3) := by decide +kernel
theorem dX8_leave_24 : decode cX8_leave 24 = .ok (.iconst 2, 1) := by decide +kernel
theorem dX8_leave_25 : decode cX8_leave 25 = .ok (.iconst 0, 1) := by decide +kernel
theorem dX8_leave_26 : decode cX8_leave 26 = .ok (.iastore, 1) := by decide +kernel
theorem dX8_leave_27 : decode cX8_leave 27 = .ok (.iload_n 1, 1) := by decide +kernel
theorem dX8_leave_28 : decode cX8_leave 28 = .ok (.ireturn, 1) := by decide +kernel
theorem dX8_sweep_0 : decode cX8_sweep 0 = .ok (.aload_n 0, 1) := by decide +kernel
theorem dX8_sweep_1 : decode cX8_sweep 1 = .ok (.getfield 11, 3) := by decide +kernel
theorem dX8_sweep_4 : decode cX8_sweep 4 = .ok (.bipush 15, 2) := by decide +kernel
theorem dX8_sweep_6 : decode cX8_sweep 6 = .ok (.iaload, 1) := by decide +kernel
theorem dX8_sweep_7 : decode cX8_sweep 7 = .ok (.ifCond .ne 6, 3) := by decide +kernel
theorem dX8_sweep_10 : decode cX8_sweep 10 = .ok (.bipush (-3), 2) := by decide +kernel
theorem dX8_sweep_12 : decode cX8_sweep 12 = .ok (.ireturn, 1) := by decide +kernel
theorem dX8_sweep_13 : decode cX8_sweep 13 = .ok (.aload_n 0, 1) := by decide +kernel
theorem dX8_sweep_14 : decode cX8_sweep 14 = .ok (.getfield 11, 3) := by decide +kernel
theorem dX8_sweep_17 : decode cX8_sweep 17 = .ok (.iconst 1, 1) := by decide +kernel
theorem dX8_sweep_18 : decode cX8_sweep 18 = .ok (.iaload, 1) := by decide +kernel
theorem dX8_sweep_19 : decode cX8_sweep 19 = .ok (.aload_n 0, 1) := by decide +kernel
theorem dX8_sweep_20 : decode cX8_sweep 20 = .ok (.getfield 11, 3) := by decide +kernel
theorem dX8_sweep_23 : decode cX8_sweep 23 = .ok (.bipush 12, 2) := by decide +kernel
theorem dX8_sweep_25 : decode cX8_sweep 25 = .ok (.iaload, 1) := by decide +kernel
theorem dX8_sweep_26 : decode cX8_sweep 26 = .ok (.iconst (-1), 1) := by decide +kernel
theorem dX8_sweep_27 : decode cX8_sweep 27 = .ok (.ixor, 1) := by decide +kernel
theorem dX8_sweep_28 : decode cX8_sweep 28 = .ok (.iand, 1) := by decide +kernel
theorem dX8_sweep_29 : decode cX8_sweep 29 = .ok (.istore_n 1, 1) := by decide +kernel
theorem dX8_sweep_30 : decode cX8_sweep 30 = .ok (.aload_n 0, 1) := by decide +kernel
theorem dX8_sweep_31 : decode cX8_sweep 31 = .ok (.getfield 11, 3) := by decide +kernel
theorem dX8_sweep_34 : decode cX8_sweep 34 = .ok (.iconst 1, 1) := by decide +kernel
theorem dX8_sweep_35 : decode cX8_sweep 35 = .ok (.dup2, 1) := by decide +kernel
theorem dX8_sweep_36 : decode cX8_sweep 36 = .ok (.iaload, 1) := by decide +kernel
theorem dX8_sweep_37 : decode cX8_sweep 37 = .ok (.aload_n 0, 1) := by decide +kernel
theorem dX8_sweep_38 : decode cX8_sweep 38 = .ok (.getfield 11, 3) := by decide +kernel
theorem dX8_sweep_41 : decode cX8_sweep 41 = .ok (.bipush 12, 2) := by decide +kernel
theorem dX8_sweep_43 : decode cX8_sweep 43 = .ok (.iaload, 1) := by decide +kernel
theorem dX8_sweep_44 : decode cX8_sweep 44 = .ok (.iand, 1) := by decide +kernel
theorem dX8_sweep_45 : decode cX8_sweep 45 = .ok (.iastore, 1) := by decide +kernel
theorem dX8_sweep_46 : decode cX8_sweep 46 = .ok (.iconst 0, 1) := by decide +kernel
theorem dX8_sweep_47 : decode cX8_sweep 47 = .ok (.istore_n 2, 1) := by decide +kernel
theorem dX8_sweep_48 : decode cX8_sweep 48 = .ok (.iload_n 2, 1) := by decide +kernel
theorem dX8_sweep_49 : decode cX8_sweep 49 = .ok (.sipush 144, 3) := by decide +kernel
theorem dX8_sweep_52 : decode cX8_sweep 52 = .ok (.if_icmp .ge 64, 3) := by decide +kernel
theorem dX8_sweep_55 : decode cX8_sweep 55 = .ok (.aload_n 0, 1) := by decide +kernel
theorem dX8_sweep_56 : decode cX8_sweep 56 = .ok (.getfield 11, 3) := by decide +kernel
theorem dX8_sweep_59 : decode cX8_sweep 59 = .ok (.sipush 140, 3) := by decide +kernel
theorem dX8_sweep_62 : decode cX8_sweep 62 = .ok (.iload_n 2, 1) := by decide +kernel
theorem dX8_sweep_63 : decode cX8_sweep 63 = .ok (.iadd, 1) := by decide +kernel
theorem dX8_sweep_64 : decode cX8_sweep 64 = .ok (.aload_n 0, 1) := by decide +kernel
theorem dX8_sweep_65 : decode cX8_sweep 65 = .ok (.getfield 11, 3) := by decide +kernel
theorem dX8_sweep_68 : decode cX8_sweep 68 = .ok (.sipush 140, 3) := by decide +kernel
theorem dX8_sweep_71 : decode cX8_sweep 71 = .ok (.iload_n 2, 1) := by decide +kernel
theorem dX8_sweep_72 : decode cX8_sweep 72 = .ok (.iadd, 1) := by decide +kernel
theorem dX8_sweep_73 : decode cX8_sweep 73 = .ok (.iaload, 1) := by decide +kernel
theorem dX8_sweep_74 : decode cX8_sweep 74 = .ok (.ifCond .lt 25, 3) := by decide +kernel
theorem dX8_sweep_77 : decode cX8_sweep 77 = .ok (.iload_n 1, 1) := by decide +kernel
theorem dX8_sweep_78 : decode cX8_sweep 78 = .ok (.aload_n 0, 1) := by decide +kernel
theorem dX8_sweep_79 : decode cX8_sweep 79 = .ok (.getfield 11, 3) := by decide +kernel
theorem dX8_sweep_82 : decode cX8_sweep 82 = .ok (.sipush 140, 3) := by decide +kernel
theorem dX8_sweep_85 : decode cX8_sweep 85 = .ok (.iload_n 2, 1) := by decide +kernel
theorem dX8_sweep_86 : decode cX8_sweep 86 = .ok (.iadd, 1) := by decide +kernel
theorem dX8_sweep_87 : decode cX8_sweep 87 = .ok (.iaload, 1) := by decide +kernel
theorem dX8_sweep_88 : decode cX8_sweep 88 = .ok (.invokestatic 61, 3) := by decide +kernel
theorem dX8_sweep_91 : decode cX8_sweep 91 = .ok (.ifCond .eq 8, 3) := by decide +kernel
theorem dX8_sweep_94 : decode cX8_sweep 94 = .ok (.bipush (-5), 2) := by decide +kernel
theorem dX8_sweep_96 : decode cX8_sweep 96 = .ok (.goto 13, 3) := by decide +kernel
theorem dX8_sweep_99 : decode cX8_sweep 99 = .ok (.aload_n 0, 1) := by decide +kernel
theorem dX8_sweep_100 : decode cX8_sweep 100 = .ok (.getfield 11, 3) := by decide +kernel
theorem dX8_sweep_103 : decode cX8_sweep 103 = .ok (.sipush 140, 3) := by decide +kernel
theorem dX8_sweep_106 : decode cX8_sweep 106 = .ok (.iload_n 2, 1) := by decide +kernel
theorem dX8_sweep_107 : decode cX8_sweep 107 = .ok (.iadd, 1) := by decide +kernel
theorem dX8_sweep_108 : decode cX8_sweep 108 = .ok (.iaload, 1) := by decide +kernel
theorem dX8_sweep_109 : decode cX8_sweep 109 = .ok (.iastore, 1) := by decide +kernel
theorem dX8_sweep_110 : decode cX8_sweep 110 = .ok (.iinc 2 1, 3) := by decide +kernel
theorem dX8_sweep_113 : decode cX8_sweep 113 = .ok (.goto (-65), 3) := by decide +kernel
theorem dX8_sweep_116 : decode cX8_sweep 116 = .ok (.iconst 0, 1) := by decide +kernel
theorem dX8_sweep_117 : decode cX8_sweep 117 = .ok (.istore_n 2, 1) := by decide +kernel
theorem dX8_sweep_118 : decode cX8_sweep 118 = .ok (.iload_n 2, 1) := by decide +kernel
theorem dX8_sweep_119 : decode cX8_sweep 119 = .ok (.bipush 24, 2) := by decide +kernel
theorem dX8_sweep_121 : decode cX8_sweep 121 = .ok (.if_icmp .ge 48, 3) := by decide +kernel
theorem dX8_sweep_124 : decode cX8_sweep 124 = .ok (.iconst 0, 1) := by decide +kernel
theorem dX8_sweep_125 : decode cX8_sweep 125 = .ok (.istore_n 3, 1) := by decide +kernel
theorem dX8_sweep_126 : decode cX8_sweep 126 = .ok (.iload_n 1, 1) := by decide +kernel
theorem dX8_sweep_127 : decode cX8_sweep 127 = .ok (.iload_n 2, 1) := by decide +kernel
theorem dX8_sweep_128 : decode cX8_sweep 128 = .ok (.invokestatic 61, 3) := by decide +kernel
theorem dX8_sweep_131 : decode cX8_sweep 131 = .ok (.ifCond .eq 32, 3) := by decide +kernel
theorem dX8_sweep_134 : decode cX8_sweep 134 = .ok (.iload_n 3, 1) := by decide +kernel
theorem dX8_sweep_135 : decode cX8_sweep 135 = .ok (.bipush 6, 2) := by decide +kernel
theorem dX8_sweep_137 : decode cX8_sweep 137 = .ok (.if_icmp .ge 26, 3) := by decide +kernel
theorem dX8_sweep_140 : decode cX8_sweep 140 = .ok (.aload_n 0, 1) := by decide +kernel
theorem dX8_sweep_141 : decode cX8_sweep 141 = .ok (.getfield 11, 3) := by decide +kernel
theorem dX8_sweep_144 : decode cX8_sweep 144 = .ok (.sipush 140, 3) := by decide +kernel
theorem dX8_sweep_147 : decode cX8_sweep 147 = .ok (.bipush 6, 2) := by decide +kernel
theorem dX8_sweep_149 : decode cX8_sweep 149 = .ok (.iload_n 2, 1) := by decide +kernel
theorem dX8_sweep_150 : decode cX8_sweep 150 = .ok (.imul, 1) := by decide +kernel
theorem dX8_sweep_151 : decode cX8_sweep 151 = .ok (.iadd, 1) := by decide +kernel
theorem dX8_sweep_152 : decode cX8_sweep 152 = .ok (.iload_n 3, 1) := by decide +kernel
theorem dX8_sweep_153 : decode cX8_sweep 153 = .ok (.iadd, 1) := by decide +kernel
theorem dX8_sweep_154 : decode cX8_sweep 154 = .ok (.bipush (-5), 2) := by decide +kernel
theorem dX8_sweep_156 : decode cX8_sweep 156 = .ok (.iastore, 1) := by decide +kernel
theorem dX8_sweep_157 : decode cX8_sweep 157 = .ok (.iinc 3 1, 3) := by decide +kernel
theorem dX8_sweep_160 : decode cX8_sweep 160 = .ok (.goto (-34), 3) := by decide +kernel
theorem dX8_sweep_163 : decode cX8_sweep 163 = .ok (.iinc 2 1, 3) := by decide +kernel
theorem dX8_sweep_166 : decode cX8_sweep 166 = .ok (.goto (-48), 3) := by decide +kernel
theorem dX8_sweep_169 : decode cX8_sweep 169 = .ok (.aload_n 0, 1) := by decide +kernel
theorem dX8_sweep_170 : decode cX8_sweep 170 = .ok (.getfield 11, 3) := by decide +kernel
theorem dX8_sweep_173 : decode cX8_sweep 173 = .ok (.bipush 12, 2) := by decide +kernel
theorem dX8_sweep_175 : decode cX8_sweep 175 = .ok (.iconst 0, 1) := by decide +kernel
theorem dX8_sweep_176 : decode cX8_sweep 176 = .ok (.iastore, 1) := by decide +kernel
theorem dX8_sweep_177 : decode cX8_sweep 177 = .ok (.aload_n 0, 1) := by decide +kernel
theorem dX8_sweep_178 : decode cX8_sweep 178 = .ok (.getfield 11, 3) := by decide +kernel
theorem dX8_sweep_181 : decode cX8_sweep 181 = .ok (.bipush 15, 2) := by decide +kernel
theorem dX8_sweep_183 : decode cX8_sweep 183 = .ok (.iconst 0, 1) := by decide +kernel
theorem dX8_sweep_184 : decode cX8_sweep 184 = .ok (.iastore, 1) := by decide +kernel
theorem dX8_sweep_185 : decode cX8_sweep 185 = .ok (.iload_n 1, 1) := by decide +kernel
theorem dX8_sweep_186 : decode cX8_sweep 186 = .ok (.invokestatic 205, 3) := by decide +kernel
theorem dX8_sweep_189 : decode cX8_sweep 189 = .ok (.ireturn, 1) := by decide +kernel
theorem dX8_left_0 : decode cX8_left 0 = .ok (.aload_n 0, 1) := by decide +kernel
theorem dX8_left_1 : decode cX8_left 1 = .ok (.getfield 11, 3) := by decide +kernel
theorem dX8_left_4 : decode cX8_left 4 = .ok (.aload_n 0, 1) := by decide +kernel
theorem dX8_left_5 : decode cX8_left 5 = .ok (.getfield 15, 3) := by decide +kernel
theorem dX8_left_8 : decode cX8_left 8 = .ok (.invokestatic 224, 3) := by decide +kernel
theorem dX8_left_11 : decode cX8_left 11 = .ok (.iconst 0, 1) := by decide +kernel
theorem dX8_left_12 : decode cX8_left 12 = .ok (.istore_n 1, 1) := by decide +kernel
theorem dX8_left_13 : decode cX8_left 13 = .ok (.aload_n 0, 1) := by decide +kernel
theorem dX8_left_14 : decode cX8_left 14 = .ok (.getfield 15, 3) := by decide +kernel
theorem dX8_left_17 : decode cX8_left 17 = .ok (.iconst 2, 1) := by decide +kernel
theorem dX8_left_18 : decode cX8_left 18 = .ok (.iaload, 1) := by decide +kernel
theorem dX8_left_19 : decode cX8_left 19 = .ok (.iconst 1, 1) := by decide +kernel
theorem dX8_left_20 : decode cX8_left 20 = .ok (.if_icmp .ne 16, 3) := by decide +kernel
theorem dX8_left_23 : decode cX8_left 23 = .ok (.aload_n 0, 1) := by decide +kernel
theorem dX8_left_24 : decode cX8_left 24 = .ok (.getfield 15, 3) := by decide +kernel
theorem dX8_left_27 : decode cX8_left 27 = .ok (.invokestatic 202, 3) := by decide +kernel
theorem dX8_left_30 : decode cX8_left 30 = .ok (.iinc 1 1, 3) := by decide +kernel
theorem dX8_left_33 : decode cX8_left 33 = .ok (.goto (-20), 3) := by decide +kernel
theorem dX8_left_36 : decode cX8_left 36 = .ok (.iload_n 1, 1) := by decide +kernel
theorem dX8_left_37 : decode cX8_left 37 = .ok (.ireturn, 1) := by decide +kernel
theorem dX8_told__0 : decode cX8_told_ 0 = .ok (.aload_n 0, 1) := by decide +kernel
theorem dX8_told__1 : decode cX8_told_ 1 = .ok (.getfield 11, 3) := by decide +kernel
theorem dX8_told__4 : decode cX8_told_ 4 = .ok (.iconst 2, 1) := by decide +kernel
theorem dX8_told__5 : decode cX8_told_ 5 = .ok (.iaload, 1) := by decide +kernel
theorem dX8_told__6 : decode cX8_told_ 6 = .ok (.iconst 1, 1) := by decide +kernel
theorem dX8_told__7 : decode cX8_told_ 7 = .ok (.if_icmp .ne 7, 3) := by decide +kernel
theorem dX8_told__10 : decode cX8_told_ 10 = .ok (.iconst 1, 1) := by decide +kernel
theorem dX8_told__11 : decode cX8_told_ 11 = .ok (.goto 4, 3) := by decide +kernel
theorem dX8_told__14 : decode cX8_told_ 14 = .ok (.iconst 0, 1) := by decide +kernel
theorem dX8_told__15 : decode cX8_told_ 15 = .ok (.istore_n 2, 1) := by decide +kernel
theorem dX8_told__16 : decode cX8_told_ 16 = .ok (.iload_n 1, 1) := by decide +kernel
theorem dX8_told__17 : decode cX8_told_ 17 = .ok (.tableswitch 213 0 14 #[75, 80, 96, 104, 112, 120, 128, 136, 144, 152, 160, 168, 173, 198, 205], 75) := by decide +kernel
theorem dX8_told__92 : decode cX8_told_ 92 = .ok (.iload_n 2, 1) := by decide +kernel
theorem dX8_told__93 : decode cX8_told_ 93 = .ok (.invokestatic 106, 3) := by decide +kernel
theorem dX8_told__96 : decode cX8_told_ 96 = .ok (.ireturn, 1) := by decide +kernel
theorem dX8_told__97 : decode cX8_told_ 97 = .ok (.iload_n 2, 1) := by decide +kernel
theorem dX8_told__98 : decode cX8_told_ 98 = .ok (.ifCond .eq 12, 3) := by decide +kernel
theorem dX8_told__101 : decode cX8_told_ 101 = .ok (.aload_n 0, 1) := by decide +kernel
theorem dX8_told__102 : decode cX8_told_ 102 = .ok (.getfield 11, 3) := by decide +kernel
theorem dX8_told__105 : decode cX8_told_ 105 = .ok (.iconst 4, 1) := by decide +kernel
theorem dX8_told__106 : decode cX8_told_ 106 = .ok (.iaload, 1) := by decide +kernel
theorem dX8_told__107 : decode cX8_told_ 107 = .ok (.goto 5, 3) := by decide +kernel
theorem dX8_told__110 : decode cX8_told_ 110 = .ok (.bipush (-5), 2) := by decide +kernel
theorem dX8_told__112 : decode cX8_told_ 112 = .ok (.ireturn, 1) := by decide +kernel
theorem dX8_told__113 : decode cX8_told_ 113 = .ok (.aload_n 0, 1) := by decide +kernel
theorem dX8_told__114 : decode cX8_told_ 114 = .ok (.getfield 11, 3) := by decide +kernel
theorem dX8_told__117 : decode cX8_told_ 117 = .ok (.invokestatic 228, 3) := by decide +kernel
theorem dX8_told__120 : decode cX8_told_ 120 = .ok (.ireturn, 1) := by decide +kernel
theorem dX8_told__121 : decode cX8_told_ 121 = .ok (.aload_n 0, 1) := by decide +kernel
theorem dX8_told__122 : decode cX8_told_ 122 = .ok (.getfield 11, 3) := by decide +kernel
theorem dX8_told__125 : decode cX8_told_ 125 = .ok (.bipush 7, 2) := by decide +kernel
theorem dX8_told__127 : decode cX8_told_ 127 = .ok (.iaload, 1) := by decide +kernel
theorem dX8_told__128 : decode cX8_told_ 128 = .ok (.ireturn, 1) := by decide +kernel
theorem dX8_told__129 : decode cX8_told_ 129 = .ok (.aload_n 0, 1) := by decide +kernel
theorem dX8_told__130 : decode cX8_told_ 130 = .ok (.getfield 11, 3) := by decide +kernel
theorem dX8_told__133 : decode cX8_told_ 133 = .ok (.bipush 8, 2) := by decide +kernel
theorem dX8_told__135 : decode cX8_told_ 135 = .ok (.iaload, 1) := by decide +kernel
theorem dX8_told__136 : decode cX8_told_ 136 = .ok (.ireturn, 1) := by decide +kernel
theorem dX8_told__137 : decode cX8_told_ 137 = .ok (.aload_n 0, 1) := by decide +kernel
theorem dX8_told__138 : decode cX8_told_ 138 = .ok (.getfield 11, 3) := by decide +kernel
theorem dX8_told__141 : decode cX8_told_ 141 = .ok (.bipush 9, 2) := by decide +kernel
theorem dX8_told__143 : decode cX8_told_ 143 = .ok (.iaload, 1) := by decide +kernel
theorem dX8_told__144 : decode cX8_told_ 144 = .ok (.ireturn, 1) := by decide +kernel
theorem dX8_told__145 : decode cX8_told_ 145 = .ok (.aload_n 0, 1) := by decide +kernel
theorem dX8_told__146 : decode cX8_told_ 146 = .ok (.getfield 11, 3) := by decide +kernel
theorem dX8_told__149 : decode cX8_told_ 149 = .ok (.bipush 10, 2) := by decide +kernel
theorem dX8_told__151 : decode cX8_told_ 151 = .ok (.iaload, 1) := by decide +kernel
theorem dX8_told__152 : decode cX8_told_ 152 = .ok (.ireturn, 1) := by decide +kernel
theorem dX8_told__153 : decode cX8_told_ 153 = .ok (.aload_n 0, 1) := by decide +kernel
theorem dX8_told__154 : decode cX8_told_ 154 = .ok (.getfield 11, 3) := by decide +kernel
theorem dX8_told__157 : decode cX8_told_ 157 = .ok (.bipush 11, 2) := by decide +kernel
theorem dX8_told__159 : decode cX8_told_ 159 = .ok (.iaload, 1) := by decide +kernel
theorem dX8_told__160 : decode cX8_told_ 160 = .ok (.ireturn, 1) := by decide +kernel
theorem dX8_told__161 : decode cX8_told_ 161 = .ok (.aload_n 0, 1) := by decide +kernel
theorem dX8_told__162 : decode cX8_told_ 162 = .ok (.getfield 11, 3) := by decide +kernel
theorem dX8_told__165 : decode cX8_told_ 165 = .ok (.bipush 12, 2) := by decide +kernel
theorem dX8_told__167 : decode cX8_told_ 167 = .ok (.iaload, 1) := by decide +kernel
theorem dX8_told__168 : decode cX8_told_ 168 = .ok (.ireturn, 1) := by decide +kernel
theorem dX8_told__169 : decode cX8_told_ 169 = .ok (.aload_n 0, 1) := by decide +kernel
theorem dX8_told__170 : decode cX8_told_ 170 = .ok (.getfield 11, 3) := by decide +kernel
theorem dX8_told__173 : decode cX8_told_ 173 = .ok (.bipush 13, 2) := by decide +kernel
theorem dX8_told__175 : decode cX8_told_ 175 = .ok (.iaload, 1) := by decide +kernel
theorem dX8_told__176 : decode cX8_told_ 176 = .ok (.ireturn, 1) := by decide +kernel
theorem dX8_told__177 : decode cX8_told_ 177 = .ok (.aload_n 0, 1) := by decide +kernel
theorem dX8_told__178 : decode cX8_told_ 178 = .ok (.getfield 11, 3) := by decide +kernel
theorem dX8_told__181 : decode cX8_told_ 181 = .ok (.invokestatic 99, 3) := by decide +kernel
theorem dX8_told__184 : decode cX8_told_ 184 = .ok (.ireturn, 1) := by decide +kernel
theorem dX8_told__185 : decode cX8_told_ 185 = .ok (.aload_n 0, 1) := by decide +kernel
theorem dX8_told__186 : decode cX8_told_ 186 = .ok (.invokevirtual 231, 3) := by decide +kernel
theorem dX8_told__189 : decode cX8_told_ 189 = .ok (.ireturn, 1) := by decide +kernel
theorem dX8_told__190 : decode cX8_told_ 190 = .ok (.iload_n 2, 1) := by decide +kernel
theorem dX8_told__191 : decode cX8_told_ 191 = .ok (.ifCond .eq 22, 3) := by decide +kernel
theorem dX8_told__194 : decode cX8_told_ 194 = .ok (.aload_n 0, 1) := by decide +kernel
theorem dX8_told__195 : decode cX8_told_ 195 = .ok (.getfield 11, 3) := by decide +kernel
theorem dX8_told__198 : decode cX8_told_ 198 = .ok (.bipush 6, 2) := by decide +kernel
theorem dX8_told__200 : decode cX8_told_ 200 = .ok (.iaload, 1) := by decide +kernel
theorem dX8_told__201 : decode cX8_told_ 201 = .ok (.aload_n 0, 1) := by decide +kernel
theorem dX8_told__202 : decode cX8_told_ 202 = .ok (.getfield 11, 3) := by decide +kernel
theorem dX8_told__205 : decode cX8_told_ 205 = .ok (.iconst 3, 1) := by decide +kernel
theorem dX8_told__206 : decode cX8_told_ 206 = .ok (.iaload, 1) := by decide +kernel
theorem dX8_told__207 : decode cX8_told_ 207 = .ok (.invokestatic 234, 3) := by decide +kernel
theorem dX8_told__210 : decode cX8_told_ 210 = .ok (.goto 4, 3) := by decide +kernel
theorem dX8_told__213 : decode cX8_told_ 213 = .ok (.iconst 0, 1) := by decide +kernel
theorem dX8_told__214 : decode cX8_told_ 214 = .ok (.ireturn, 1) := by decide +kernel
theorem dX8_told__215 : decode cX8_told_ 215 = .ok (.aload_n 0, 1) := by decide +kernel
theorem dX8_told__216 : decode cX8_told_ 216 = .ok (.getfield 11, 3) := by decide +kernel
theorem dX8_told__219 : decode cX8_told_ 219 = .ok (.iconst 1, 1) := by decide +kernel
theorem dX8_told__220 : decode cX8_told_ 220 = .ok (.iaload, 1) := by decide +kernel
theorem dX8_told__221 : decode cX8_told_ 221 = .ok (.ireturn, 1) := by decide +kernel
theorem dX8_told__222 : decode cX8_told_ 222 = .ok (.aload_n 0, 1) := by decide +kernel
theorem dX8_told__223 : decode cX8_told_ 223 = .ok (.getfield 11, 3) := by decide +kernel
theorem dX8_told__226 : decode cX8_told_ 226 = .ok (.bipush 15, 2) := by decide +kernel
theorem dX8_told__228 : decode cX8_told_ 228 = .ok (.iaload, 1) := by decide +kernel
theorem dX8_told__229 : decode cX8_told_ 229 = .ok (.ireturn, 1) := by decide +kernel
theorem dX8_told__230 : decode cX8_told_ 230 = .ok (.iload_n 1, 1) := by decide +kernel
theorem dX8_told__231 : decode cX8_told_ 231 = .ok (.i2l, 1) := by decide +kernel
theorem dX8_told__232 : decode cX8_told_ 232 = .ok (.ldc2_w 237, 3) := by decide +kernel
theorem dX8_told__235 : decode cX8_told_ 235 = .ok (.ldc2_w 239, 3) := by decide +kernel
theorem dX8_told__238 : decode cX8_told_ 238 = .ok (.invokestatic 57, 3) := by decide +kernel
theorem dX8_told__241 : decode cX8_told_ 241 = .ok (.ifCond .eq 18, 3) := by decide +kernel
theorem dX8_told__244 : decode cX8_told_ 244 = .ok (.aload_n 0, 1) := by decide +kernel
theorem dX8_told__245 : decode cX8_told_ 245 = .ok (.getfield 11, 3) := by decide +kernel
theorem dX8_told__248 : decode cX8_told_ 248 = .ok (.bipush 16, 2) := by decide +kernel
theorem dX8_told__250 : decode cX8_told_ 250 = .ok (.iload_n 1, 1) := by decide +kernel
theorem dX8_told__251 : decode cX8_told_ 251 = .ok (.iadd, 1) := by decide +kernel
theorem dX8_told__252 : decode cX8_told_ 252 = .ok (.bipush 15, 2) := by decide +kernel
theorem dX8_told__254 : decode cX8_told_ 254 = .ok (.isub, 1) := by decide +kernel
theorem dX8_told__255 : decode cX8_told_ 255 = .ok (.iaload, 1) := by decide +kernel
theorem dX8_told__256 : decode cX8_told_ 256 = .ok (.goto 4, 3) := by decide +kernel
theorem dX8_told__259 : decode cX8_told_ 259 = .ok (.iconst (-1), 1) := by decide +kernel
theorem dX8_told__260 : decode cX8_told_ 260 = .ok (.ireturn, 1) := by decide +kernel
theorem dX8_on_0 : decode cX8_on 0 = .ok (.iload_n 2, 1) := by decide +kernel
theorem dX8_on_1 : decode cX8_on 1 = .ok (.i2l, 1) := by decide +kernel
theorem dX8_on_2 : decode cX8_on 2 = .ok (.lconst 0, 1) := by decide +kernel
theorem dX8_on_3 : decode cX8_on 3 = .ok (.ldc2_w 241, 3) := by decide +kernel
theorem dX8_on_6 : decode cX8_on 6 = .ok (.invokestatic 57, 3) := by decide +kernel
theorem dX8_on_9 : decode cX8_on 9 = .ok (.ifCond .ne 5, 3) := by decide +kernel
theorem dX8_on_12 : decode cX8_on 12 = .ok (.iconst (-1), 1) := by decide +kernel
theorem dX8_on_13 : decode cX8_on 13 = .ok (.ireturn, 1) := by decide +kernel
theorem dX8_on_14 : decode cX8_on 14 = .ok (.iload_n 1, 1) := by decide +kernel
theorem dX8_on_15 : decode cX8_on 15 = .ok (.i2l, 1) := by decide +kernel
theorem dX8_on_16 : decode cX8_on 16 = .ok (.lconst 0, 1) := by decide +kernel
theorem dX8_on_17 : decode cX8_on 17 = .ok (.ldc2_w 243, 3) := by decide +kernel
theorem dX8_on_20 : decode cX8_on 20 = .ok (.invokestatic 57, 3) := by decide +kernel
theorem dX8_on_23 : decode cX8_on 23 = .ok (.ifCond .ne 6, 3) := by decide +kernel
theorem dX8_on_26 : decode cX8_on 26 = .ok (.bipush (-2), 2) := by decide +kernel
theorem dX8_on_28 : decode cX8_on 28 = .ok (.ireturn, 1) := by decide +kernel
theorem dX8_on_29 : decode cX8_on 29 = .ok (.aload_n 0, 1) := by decide +kernel
theorem dX8_on_30 : decode cX8_on 30 = .ok (.getfield 11, 3) := by decide +kernel
theorem dX8_on_33 : decode cX8_on 33 = .ok (.aload_n 0, 1) := by decide +kernel
theorem dX8_on_34 : decode cX8_on 34 = .ok (.getfield 15, 3) := by decide +kernel
theorem dX8_on_37 : decode cX8_on 37 = .ok (.invokestatic 224, 3) := by decide +kernel
theorem dX8_on_40 : decode cX8_on 40 = .ok (.aload_n 0, 1) := by decide +kernel
theorem dX8_on_41 : decode cX8_on 41 = .ok (.getfield 15, 3) := by decide +kernel
theorem dX8_on_44 : decode cX8_on 44 = .ok (.iload_n 1, 1) := by decide +kernel
theorem dX8_on_45 : decode cX8_on 45 = .ok (.invokestatic 221, 3) := by decide +kernel
theorem dX8_on_48 : decode cX8_on 48 = .ok (.istore_n 3, 1) := by decide +kernel
theorem dX8_on_49 : decode cX8_on 49 = .ok (.iload_n 2, 1) := by decide +kernel
theorem dX8_on_50 : decode cX8_on 50 = .ok (.tableswitch 76 0 3 #[30, 52, 60, 68], 30) := by decide +kernel
theorem dX8_on_80 : decode cX8_on 80 = .ok (.aload_n 0, 1) := by decide +kernel
theorem dX8_on_81 : decode cX8_on 81 = .ok (.getfield 15, 3) := by decide +kernel
theorem dX8_on_84 : decode cX8_on 84 = .ok (.iconst 2, 1) := by decide +kernel
theorem dX8_on_85 : decode cX8_on 85 = .ok (.iaload, 1) := by decide +kernel
theorem dX8_on_86 : decode cX8_on 86 = .ok (.iconst 1, 1) := by decide +kernel
theorem dX8_on_87 : decode cX8_on 87 = .ok (.if_icmp .ne 12, 3) := by decide +kernel
theorem dX8_on_90 : decode cX8_on 90 = .ok (.aload_n 0, 1) := by decide +kernel
theorem dX8_on_91 : decode cX8_on 91 = .ok (.getfield 15, 3) := by decide +kernel
theorem dX8_on_94 : decode cX8_on 94 = .ok (.iconst 4, 1) := by decide +kernel
theorem dX8_on_95 : decode cX8_on 95 = .ok (.iaload, 1) := by decide +kernel
theorem dX8_on_96 : decode cX8_on 96 = .ok (.goto 5, 3) := by decide +kernel
theorem dX8_on_99 : decode cX8_on 99 = .ok (.bipush (-5), 2) := by decide +kernel
theorem dX8_on_101 : decode cX8_on 101 = .ok (.ireturn, 1) := by decide +kernel
theorem dX8_on_102 : decode cX8_on 102 = .ok (.aload_n 0, 1) := by decide +kernel
theorem dX8_on_103 : decode cX8_on 103 = .ok (.getfield 15, 3) := by decide +kernel
theorem dX8_on_106 : decode cX8_on 106 = .ok (.invokestatic 228, 3) := by decide +kernel
theorem dX8_on_109 : decode cX8_on 109 = .ok (.ireturn, 1) := by decide +kernel
theorem dX8_on_110 : decode cX8_on 110 = .ok (.aload_n 0, 1) := by decide +kernel
theorem dX8_on_111 : decode cX8_on 111 = .ok (.getfield 15, 3) := by decide +kernel
theorem dX8_on_114 : decode cX8_on 114 = .ok (.bipush 12, 2) := by decide +kernel
theorem dX8_on_116 : decode cX8_on 116 = .ok (.iaload, 1) := by decide +kernel
theorem dX8_on_117 : decode cX8_on 117 = .ok (.ireturn, 1) := by decide +kernel
theorem dX8_on_118 : decode cX8_on 118 = .ok (.aload_n 0, 1) := by decide +kernel
theorem dX8_on_119 : decode cX8_on 119 = .ok (.getfield 15, 3) := by decide +kernel
theorem dX8_on_122 : decode cX8_on 122 = .ok (.invokestatic 129, 3) := by decide +kernel
theorem dX8_on_125 : decode cX8_on 125 = .ok (.ireturn, 1) := by decide +kernel
theorem dX8_on_126 : decode cX8_on 126 = .ok (.aload_n 0, 1) := by decide +kernel
theorem dX8_on_127 : decode cX8_on 127 = .ok (.getfield 15, 3) := by decide +kernel
theorem dX8_on_130 : decode cX8_on 130 = .ok (.bipush 7, 2) := by decide +kernel
theorem dX8_on_132 : decode cX8_on 132 = .ok (.iaload, 1) := by decide +kernel
theorem dX8_on_133 : decode cX8_on 133 = .ok (.ireturn, 1) := by decide +kernel
theorem dX8_needs_0 : decode cX8_needs 0 = .ok (.aload_n 0, 1) := by decide +kernel
theorem dX8_needs_1 : decode cX8_needs 1 = .ok (.getfield 11, 3) := by decide +kernel
theorem dX8_needs_4 : decode cX8_needs 4 = .ok (.aload_n 0, 1) := by decide +kernel
theorem dX8_needs_5 : decode cX8_needs 5 = .ok (.getfield 15, 3) := by decide +kernel
theorem dX8_needs_8 : decode cX8_needs 8 = .ok (.invokestatic 224, 3) := by decide +kernel
theorem dX8_needs_11 : decode cX8_needs 11 = .ok (.aload_n 0, 1) := by decide +kernel
theorem dX8_needs_12 : decode cX8_needs 12 = .ok (.getfield 15, 3) := by decide +kernel
theorem dX8_needs_15 : decode cX8_needs 15 = .ok (.iload_n 1, 1) := by decide +kernel
theorem dX8_needs_16 : decode cX8_needs 16 = .ok (.invokestatic 212, 3) := by decide +kernel
theorem dX8_needs_19 : decode cX8_needs 19 = .ok (.aload_n 0, 1) := by decide +kernel
theorem dX8_needs_20 : decode cX8_needs 20 = .ok (.getfield 15, 3) := by decide +kernel
theorem dX8_needs_23 : decode cX8_needs 23 = .ok (.iconst 2, 1) := by decide +kernel
theorem dX8_needs_24 : decode cX8_needs 24 = .ok (.iaload, 1) := by decide +kernel
theorem dX8_needs_25 : decode cX8_needs 25 = .ok (.iconst 1, 1) := by decide +kernel
theorem dX8_needs_26 : decode cX8_needs 26 = .ok (.if_icmp .ne 13, 3) := by decide +kernel
theorem dX8_needs_29 : decode cX8_needs 29 = .ok (.aload_n 0, 1) := by decide +kernel
theorem dX8_needs_30 : decode cX8_needs 30 = .ok (.getfield 15, 3) := by decide +kernel
theorem dX8_needs_33 : decode cX8_needs 33 = .ok (.invokestatic 202, 3) := by decide +kernel
theorem dX8_needs_36 : decode cX8_needs 36 = .ok (.goto (-17), 3) := by decide +kernel
theorem dX8_needs_39 : decode cX8_needs 39 = .ok (.aload_n 0, 1) := by decide +kernel
theorem dX8_needs_40 : decode cX8_needs 40 = .ok (.getfield 15, 3) := by decide +kernel
theorem dX8_needs_43 : decode cX8_needs 43 = .ok (.bipush 7, 2) := by decide +kernel
theorem dX8_needs_45 : decode cX8_needs 45 = .ok (.iload_n 2, 1) := by decide +kernel
theorem dX8_needs_46 : decode cX8_needs 46 = .ok (.iadd, 1) := by decide +kernel
theorem dX8_needs_47 : decode cX8_needs 47 = .ok (.iaload, 1) := by decide +kernel
theorem dX8_needs_48 : decode cX8_needs 48 = .ok (.ireturn, 1) := by decide +kernel
theorem dX8_need_0 : decode cX8_need 0 = .ok (.iload_n 2, 1) := by decide +kernel
theorem dX8_need_1 : decode cX8_need 1 = .ok (.i2l, 1) := by decide +kernel
theorem dX8_need_2 : decode cX8_need 2 = .ok (.lconst 0, 1) := by decide +kernel
theorem dX8_need_3 : decode cX8_need 3 = .ok (.ldc2_w 241, 3) := by decide +kernel
theorem dX8_need_6 : decode cX8_need 6 = .ok (.invokestatic 57, 3) := by decide +kernel
theorem dX8_need_9 : decode cX8_need 9 = .ok (.ifCond .ne 5, 3) := by decide +kernel
theorem dX8_need_12 : decode cX8_need 12 = .ok (.iconst (-1), 1) := by decide +kernel
theorem dX8_need_13 : decode cX8_need 13 = .ok (.ireturn, 1) := by decide +kernel
theorem dX8_need_14 : decode cX8_need 14 = .ok (.iload_n 1, 1) := by decide +kernel
theorem dX8_need_15 : decode cX8_need 15 = .ok (.i2l, 1) := by decide +kernel
theorem dX8_need_16 : decode cX8_need 16 = .ok (.lconst 0, 1) := by decide +kernel
theorem dX8_need_17 : decode cX8_need 17 = .ok (.ldc2_w 210, 3) := by decide +kernel
theorem dX8_need_20 : decode cX8_need 20 = .ok (.invokestatic 57, 3) := by decide +kernel
theorem dX8_need_23 : decode cX8_need 23 = .ok (.ifCond .ne 6, 3) := by decide +kernel
theorem dX8_need_26 : decode cX8_need 26 = .ok (.bipush (-2), 2) := by decide +kernel
theorem dX8_need_28 : decode cX8_need 28 = .ok (.ireturn, 1) := by decide +kernel
theorem dX8_need_29 : decode cX8_need 29 = .ok (.aload_n 0, 1) := by decide +kernel
theorem dX8_need_30 : decode cX8_need 30 = .ok (.getfield 11, 3) := by decide +kernel
theorem dX8_need_33 : decode cX8_need 33 = .ok (.iconst 2, 1) := by decide +kernel
theorem dX8_need_34 : decode cX8_need 34 = .ok (.iaload, 1) := by decide +kernel
theorem dX8_need_35 : decode cX8_need 35 = .ok (.iconst 1, 1) := by decide +kernel
theorem dX8_need_36 : decode cX8_need 36 = .ok (.if_icmp .ne 8, 3) := by decide +kernel
theorem dX8_need_39 : decode cX8_need 39 = .ok (.bipush (-3), 2) := by decide +kernel
theorem dX8_need_41 : decode cX8_need 41 = .ok (.goto 9, 3) := by decide +kernel
theorem dX8_need_44 : decode cX8_need 44 = .ok (.aload_n 0, 1) := by decide +kernel
theorem dX8_need_45 : decode cX8_need 45 = .ok (.iload_n 1, 1) := by decide +kernel
theorem dX8_need_46 : decode cX8_need 46 = .ok (.iload_n 2, 1) := by decide +kernel
theorem dX8_need_47 : decode cX8_need 47 = .ok (.invokevirtual 245, 3) := by decide +kernel
theorem dX8_need_50 : decode cX8_need 50 = .ok (.ireturn, 1) := by decide +kernel
theorem dX8_least_0 : decode cX8_least 0 = .ok (.iload_n 1, 1) := by decide +kernel
theorem dX8_least_1 : decode cX8_least 1 = .ok (.i2l, 1) := by decide +kernel
theorem dX8_least_2 : decode cX8_least 2 = .ok (.lconst 0, 1) := by decide +kernel
theorem dX8_least_3 : decode cX8_least 3 = .ok (.lconst 1, 1) := by decide +kernel
theorem dX8_least_4 : decode cX8_least 4 = .ok (.invokestatic 57, 3) := by decide +kernel
theorem dX8_least_7 : decode cX8_least 7 = .ok (.ifCond .ne 5, 3) := by decide +kernel
theorem dX8_least_10 : decode cX8_least 10 = .ok (.iconst (-1), 1) := by decide +kernel
theorem dX8_least_11 : decode cX8_least 11 = .ok (.ireturn, 1) := by decide +kernel
theorem dX8_least_12 : decode cX8_least 12 = .ok (.aload_n 0, 1) := by decide +kernel
theorem dX8_least_13 : decode cX8_least 13 = .ok (.getfield 11, 3) := by decide +kernel
theorem dX8_least_16 : decode cX8_least 16 = .ok (.iconst 2, 1) := by decide +kernel
theorem dX8_least_17 : decode cX8_least 17 = .ok (.iaload, 1) := by decide +kernel
theorem dX8_least_18 : decode cX8_least 18 = .ok (.iconst 1, 1) := by decide +kernel
theorem dX8_least_19 : decode cX8_least 19 = .ok (.if_icmp .ne 6, 3) := by decide +kernel
theorem dX8_least_22 : decode cX8_least 22 = .ok (.bipush (-3), 2) := by decide +kernel
theorem dX8_least_24 : decode cX8_least 24 = .ok (.ireturn, 1) := by decide +kernel
theorem dX8_least_25 : decode cX8_least 25 = .ok (.iconst 0, 1) := by decide +kernel
theorem dX8_least_26 : decode cX8_least 26 = .ok (.istore_n 2, 1) := by decide +kernel
theorem dX8_least_27 : decode cX8_least 27 = .ok (.iload_n 2, 1) := by decide +kernel
theorem dX8_least_28 : decode cX8_least 28 = .ok (.bipush 8, 2) := by decide +kernel
theorem dX8_least_30 : decode cX8_least 30 = .ok (.if_icmp .gt 28, 3) := by decide +kernel
theorem dX8_least_33 : decode cX8_least 33 = .ok (.aload_n 0, 1) := by decide +kernel
theorem dX8_least_34 : decode cX8_least 34 = .ok (.iload_n 2, 1) := by decide +kernel
theorem dX8_least_35 : decode cX8_least 35 = .ok (.iload_n 1, 1) := by decide +kernel
theorem dX8_least_36 : decode cX8_least 36 = .ok (.ifCond .ne 7, 3) := by decide +kernel
theorem dX8_least_39 : decode cX8_least 39 = .ok (.iconst 1, 1) := by decide +kernel
theorem dX8_least_40 : decode cX8_least 40 = .ok (.goto 4, 3) := by decide +kernel
theorem dX8_least_43 : decode cX8_least 43 = .ok (.iconst 3, 1) := by decide +kernel
theorem dX8_least_44 : decode cX8_least 44 = .ok (.invokevirtual 245, 3) := by decide +kernel
theorem dX8_least_47 : decode cX8_least 47 = .ok (.ifCond .ne 5, 3) := by decide +kernel
theorem dX8_least_50 : decode cX8_least 50 = .ok (.iload_n 2, 1) := by decide +kernel
theorem dX8_least_51 : decode cX8_least 51 = .ok (.ireturn, 1) := by decide +kernel
theorem dX8_least_52 : decode cX8_least 52 = .ok (.iinc 2 1, 3) := by decide +kernel
theorem dX8_least_55 : decode cX8_least 55 = .ok (.goto (-28), 3) := by decide +kernel
theorem dX8_least_58 : decode cX8_least 58 = .ok (.bipush (-5), 2) := by decide +kernel
theorem dX8_least_60 : decode cX8_least 60 = .ok (.ireturn, 1) := by decide +kernel
theorem dX8_see_0 : decode cX8_see 0 = .ok (.iload_n 1, 1) := by decide +kernel
theorem dX8_see_1 : decode cX8_see 1 = .ok (.iconst (-1), 1) := by decide +kernel
theorem dX8_see_2 : decode cX8_see 2 = .ok (.if_icmp .ne 14, 3) := by decide +kernel
theorem dX8_see_5 : decode cX8_see 5 = .ok (.aload_n 0, 1) := by decide +kernel
theorem dX8_see_6 : decode cX8_see 6 = .ok (.getfield 11, 3) := by decide +kernel
theorem dX8_see_9 : decode cX8_see 9 = .ok (.sipush 299, 3) := by decide +kernel
theorem dX8_see_12 : decode cX8_see 12 = .ok (.iconst 0, 1) := by decide +kernel
theorem dX8_see_13 : decode cX8_see 13 = .ok (.iastore, 1) := by decide +kernel
theorem dX8_see_14 : decode cX8_see 14 = .ok (.iconst 0, 1) := by decide +kernel
theorem dX8_see_15 : decode cX8_see 15 = .ok (.ireturn, 1) := by decide +kernel
theorem dX8_see_16 : decode cX8_see 16 = .ok (.aload_n 0, 1) := by decide +kernel
theorem dX8_see_17 : decode cX8_see 17 = .ok (.iload_n 1, 1) := by decide +kernel
theorem dX8_see_18 : decode cX8_see 18 = .ok (.invokevirtual 65, 3) := by decide +kernel
theorem dX8_see_21 : decode cX8_see 21 = .ok (.ifCond .ne 5, 3) := by decide +kernel
theorem dX8_see_24 : decode cX8_see 24 = .ok (.iconst (-1), 1) := by decide +kernel
theorem dX8_see_25 : decode cX8_see 25 = .ok (.ireturn, 1) := by decide +kernel
theorem dX8_see_26 : decode cX8_see 26 = .ok (.iload_n 2, 1) := by decide +kernel
theorem dX8_see_27 : decode cX8_see 27 = .ok (.i2l, 1) := by decide +kernel
theorem dX8_see_28 : decode cX8_see 28 = .ok (.lconst 0, 1) := by decide +kernel
theorem dX8_see_29 : decode cX8_see 29 = .ok (.ldc2_w 248, 3) := by decide +kernel
theorem dX8_see_32 : decode cX8_see 32 = .ok (.invokestatic 57, 3) := by decide +kernel
theorem dX8_see_35 : decode cX8_see 35 = .ok (.ifCond .ne 6, 3) := by decide +kernel
theorem dX8_see_38 : decode cX8_see 38 = .ok (.bipush (-2), 2) := by decide +kernel
theorem dX8_see_40 : decode cX8_see 40 = .ok (.ireturn, 1) := by decide +kernel
theorem dX8_see_41 : decode cX8_see 41 = .ok (.aload_n 0, 1) := by decide +kernel
theorem dX8_see_42 : decode cX8_see 42 = .ok (.getfield 11, 3) := by decide +kernel
theorem dX8_see_45 : decode cX8_see 45 = .ok (.sipush 299, 3) := by decide +kernel
theorem dX8_see_48 : decode cX8_see 48 = .ok (.iaload, 1) := by decide +kernel
theorem dX8_see_49 : decode cX8_see 49 = .ok (.istore 4, 2) := by decide +kernel
theorem dX8_see_51 : decode cX8_see 51 = .ok (.iload 4, 2) := by decide +kernel
theorem dX8_see_53 : decode cX8_see 53 = .ok (.iconst 5, 1) := by decide +kernel
theorem dX8_see_54 : decode cX8_see 54 = .ok (.if_icmp .ne 6, 3) := by decide +kernel
theorem dX8_see_57 : decode cX8_see 57 = .ok (.bipush (-4), 2) := by decide +kernel
theorem dX8_see_59 : decode cX8_see 59 = .ok (.ireturn, 1) := by decide +kernel
theorem dX8_see_60 : decode cX8_see 60 = .ok (.aload_n 0, 1) := by decide +kernel
theorem dX8_see_61 : decode cX8_see 61 = .ok (.getfield 11, 3) := by decide +kernel
theorem dX8_see_64 : decode cX8_see 64 = .ok (.sipush 284, 3) := by decide +kernel
theorem dX8_see_67 : decode cX8_see 67 = .ok (.iconst 3, 1) := by decide +kernel
theorem dX8_see_68 : decode cX8_see 68 = .ok (.iload 4, 2) := by decide +kernel
theorem dX8_see_70 : decode cX8_see 70 = .ok (.imul, 1) := by decide +kernel
theorem dX8_see_71 : decode cX8_see 71 = .ok (.iadd, 1) := by decide +kernel
theorem dX8_see_72 : decode cX8_see 72 = .ok (.iload_n 1, 1) := by decide +kernel
theorem dX8_see_73 : decode cX8_see 73 = .ok (.iastore, 1) := by decide +kernel
theorem dX8_see_74 : decode cX8_see 74 = .ok (.aload_n 0, 1) := by decide +kernel
theorem dX8_see_75 : decode cX8_see 75 = .ok (.getfield 11, 3) := by decide +kernel
theorem dX8_see_78 : decode cX8_see 78 = .ok (.sipush 284, 3) := by decide +kernel
theorem dX8_see_81 : decode cX8_see 81 = .ok (.iconst 3, 1) := by decide +kernel
theorem dX8_see_82 : decode cX8_see 82 = .ok (.iload 4, 2) := by decide +kernel
theorem dX8_see_84 : decode cX8_see 84 = .ok (.imul, 1) := by decide +kernel
theorem dX8_see_85 : decode cX8_see 85 = .ok (.iadd, 1) := by decide +kernel
theorem dX8_see_86 : decode cX8_see 86 = .ok (.iconst 1, 1) := by decide +kernel
theorem dX8_see_87 : decode cX8_see 87 = .ok (.iadd, 1) := by decide +kernel
theorem dX8_see_88 : decode cX8_see 88 = .ok (.iload_n 2, 1) := by decide +kernel
theorem dX8_see_89 : decode cX8_see 89 = .ok (.iastore, 1) := by decide +kernel
theorem dX8_see_90 : decode cX8_see 90 = .ok (.aload_n 0, 1) := by decide +kernel
theorem dX8_see_91 : decode cX8_see 91 = .ok (.getfield 11, 3) := by decide +kernel
theorem dX8_see_94 : decode cX8_see 94 = .ok (.sipush 284, 3) := by decide +kernel
theorem dX8_see_97 : decode cX8_see 97 = .ok (.iconst 3, 1) := by decide +kernel
theorem dX8_see_98 : decode cX8_see 98 = .ok (.iload 4, 2) := by decide +kernel
theorem dX8_see_100 : decode cX8_see 100 = .ok (.imul, 1) := by decide +kernel
theorem dX8_see_101 : decode cX8_see 101 = .ok (.iadd, 1) := by decide +kernel
theorem dX8_see_102 : decode cX8_see 102 = .ok (.iconst 2, 1) := by decide +kernel
theorem dX8_see_103 : decode cX8_see 103 = .ok (.iadd, 1) := by decide +kernel
theorem dX8_see_104 : decode cX8_see 104 = .ok (.iload_n 3, 1) := by decide +kernel
theorem dX8_see_105 : decode cX8_see 105 = .ok (.invokestatic 106, 3) := by decide +kernel
theorem dX8_see_108 : decode cX8_see 108 = .ok (.iastore, 1) := by decide +kernel
theorem dX8_see_109 : decode cX8_see 109 = .ok (.aload_n 0, 1) := by decide +kernel
theorem dX8_see_110 : decode cX8_see 110 = .ok (.getfield 11, 3) := by decide +kernel
theorem dX8_see_113 : decode cX8_see 113 = .ok (.sipush 299, 3) := by decide +kernel
theorem dX8_see_116 : decode cX8_see 116 = .ok (.iload 4, 2) := by decide +kernel
theorem dX8_see_118 : decode cX8_see 118 = .ok (.iconst 1, 1) := by decide +kernel
theorem dX8_see_119 : decode cX8_see 119 = .ok (.iadd, 1) := by decide +kernel
theorem dX8_see_120 : decode cX8_see 120 = .ok (.iastore, 1) := by decide +kernel
theorem dX8_see_121 : decode cX8_see 121 = .ok (.iload 4, 2) := by decide +kernel
theorem dX8_see_123 : decode cX8_see 123 = .ok (.iconst 1, 1) := by decide +kernel
theorem dX8_see_124 : decode cX8_see 124 = .ok (.iadd, 1) := by decide +kernel
theorem dX8_see_125 : decode cX8_see 125 = .ok (.ireturn, 1) := by decide +kernel
theorem dX8_isSeen_0 : decode cX8_isSeen 0 = .ok (.aload_n 1, 1) := by decide +kernel
theorem dX8_isSeen_1 : decode cX8_isSeen 1 = .ok (.iload_n 2, 1) := by decide +kernel
theorem dX8_isSeen_2 : decode cX8_isSeen 2 = .ok (.invokestatic 212, 3) := by decide +kernel
theorem dX8_isSeen_5 : decode cX8_isSeen 5 = .ok (.iconst 0, 1) := by decide +kernel
theorem dX8_isSeen_6 : decode cX8_isSeen 6 = .ok (.istore_n 3, 1) := by decide +kernel
theorem dX8_isSeen_7 : decode cX8_isSeen 7 = .ok (.iload_n 3, 1) := by decide +kernel
theorem dX8_isSeen_8 : decode cX8_isSeen 8 = .ok (.bipush 40, 2) := by decide +kernel
theorem dX8_isSeen_10 : decode cX8_isSeen 10 = .ok (.if_icmp .gt 88, 3) := by decide +kernel
theorem dX8_isSeen_13 : decode cX8_isSeen 13 = .ok (.iconst 0, 1) := by decide +kernel
theorem dX8_isSeen_14 : decode cX8_isSeen 14 = .ok (.istore 4, 2) := by decide +kernel
theorem dX8_isSeen_16 : decode cX8_isSeen 16 = .ok (.iload 4, 2) := by decide +kernel
theorem dX8_isSeen_18 : decode cX8_isSeen 18 = .ok (.aload_n 1, 1) := by decide +kernel
theorem dX8_isSeen_19 : decode cX8_isSeen 19 = .ok (.sipush 299, 3) := by decide +kernel
theorem dX8_isSeen_22 : decode cX8_isSeen 22 = .ok (.iaload, 1) := by decide +kernel
theorem dX8_isSeen_23 : decode cX8_isSeen 23 = .ok (.if_icmp .ge 62, 3) := by decide +kernel
theorem dX8_isSeen_26 : decode cX8_isSeen 26 = .ok (.aload_n 1, 1) := by decide +kernel
theorem dX8_isSeen_27 : decode cX8_isSeen 27 = .ok (.sipush 284, 3) := by decide +kernel
theorem dX8_isSeen_30 : decode cX8_isSeen 30 = .ok (.iconst 3, 1) := by decide +kernel
theorem dX8_isSeen_31 : decode cX8_isSeen 31 = .ok (.iload 4, 2) := by decide +kernel
theorem dX8_isSeen_33 : decode cX8_isSeen 33 = .ok (.imul, 1) := by decide +kernel
theorem dX8_isSeen_34 : decode cX8_isSeen 34 = .ok (.iadd, 1) := by decide +kernel
theorem dX8_isSeen_35 : decode cX8_isSeen 35 = .ok (.iconst 1, 1) := by decide +kernel
theorem dX8_isSeen_36 : decode cX8_isSeen 36 = .ok (.iadd, 1) := by decide +kernel
theorem dX8_isSeen_37 : decode cX8_isSeen 37 = .ok (.iaload, 1) := by decide +kernel
theorem dX8_isSeen_38 : decode cX8_isSeen 38 = .ok (.iload_n 3, 1) := by decide +kernel
theorem dX8_isSeen_39 : decode cX8_isSeen 39 = .ok (.if_icmp .ne 40, 3) := by decide +kernel
theorem dX8_isSeen_42 : decode cX8_isSeen 42 = .ok (.aload_n 1, 1) := by decide +kernel
theorem dX8_isSeen_43 : decode cX8_isSeen 43 = .ok (.bipush 12, 2) := by decide +kernel
theorem dX8_isSeen_45 : decode cX8_isSeen 45 = .ok (.iaload, 1) := by decide +kernel
theorem dX8_isSeen_46 : decode cX8_isSeen 46 = .ok (.aload_n 1, 1) := by decide +kernel
theorem dX8_isSeen_47 : decode cX8_isSeen 47 = .ok (.sipush 284, 3) := by decide +kernel
theorem dX8_isSeen_50 : decode cX8_isSeen 50 = .ok (.iconst 3, 1) := by decide +kernel
theorem dX8_isSeen_51 : decode cX8_isSeen 51 = .ok (.iload 4, 2) := by decide +kernel
theorem dX8_isSeen_53 : decode cX8_isSeen 53 = .ok (.imul, 1) := by decide +kernel
theorem dX8_isSeen_54 : decode cX8_isSeen 54 = .ok (.iadd, 1) := by decide +kernel
theorem dX8_isSeen_55 : decode cX8_isSeen 55 = .ok (.iaload, 1) := by decide +kernel
theorem dX8_isSeen_56 : decode cX8_isSeen 56 = .ok (.invokestatic 61, 3) := by decide +kernel
theorem dX8_isSeen_59 : decode cX8_isSeen 59 = .ok (.invokestatic 106, 3) := by decide +kernel
theorem dX8_isSeen_62 : decode cX8_isSeen 62 = .ok (.aload_n 1, 1) := by decide +kernel
theorem dX8_isSeen_63 : decode cX8_isSeen 63 = .ok (.sipush 284, 3) := by decide +kernel
theorem dX8_isSeen_66 : decode cX8_isSeen 66 = .ok (.iconst 3, 1) := by decide +kernel
theorem dX8_isSeen_67 : decode cX8_isSeen 67 = .ok (.iload 4, 2) := by decide +kernel
theorem dX8_isSeen_69 : decode cX8_isSeen 69 = .ok (.imul, 1) := by decide +kernel
theorem dX8_isSeen_70 : decode cX8_isSeen 70 = .ok (.iadd, 1) := by decide +kernel
theorem dX8_isSeen_71 : decode cX8_isSeen 71 = .ok (.iconst 2, 1) := by decide +kernel
theorem dX8_isSeen_72 : decode cX8_isSeen 72 = .ok (.iadd, 1) := by decide +kernel
theorem dX8_isSeen_73 : decode cX8_isSeen 73 = .ok (.iaload, 1) := by decide +kernel
theorem dX8_isSeen_74 : decode cX8_isSeen 74 = .ok (.if_icmp .eq 5, 3) := by decide +kernel
theorem dX8_isSeen_77 : decode cX8_isSeen 77 = .ok (.iconst 0, 1) := by decide +kernel
theorem dX8_isSeen_78 : decode cX8_isSeen 78 = .ok (.ireturn, 1) := by decide +kernel
theorem dX8_isSeen_79 : decode cX8_isSeen 79 = .ok (.iinc 4 1, 3) := by decide +kernel
theorem dX8_isSeen_82 : decode cX8_isSeen 82 = .ok (.goto (-66), 3) := by decide +kernel
theorem dX8_isSeen_85 : decode cX8_isSeen 85 = .ok (.aload_n 1, 1) := by decide +kernel
theorem dX8_isSeen_86 : decode cX8_isSeen 86 = .ok (.iconst 1, 1) := by decide +kernel
theorem dX8_isSeen_87 : decode cX8_isSeen 87 = .ok (.invokestatic 221, 3) := by decide +kernel
theorem dX8_isSeen_90 : decode cX8_isSeen 90 = .ok (.istore 4, 2) := by decide +kernel
theorem dX8_isSeen_92 : decode cX8_isSeen 92 = .ok (.iinc 3 1, 3) := by decide +kernel
theorem dX8_isSeen_95 : decode cX8_isSeen 95 = .ok (.goto (-88), 3) := by decide +kernel
theorem dX8_isSeen_98 : decode cX8_isSeen 98 = .ok (.iconst 1, 1) := by decide +kernel
theorem dX8_isSeen_99 : decode cX8_isSeen 99 = .ok (.ireturn, 1) := by decide +kernel
theorem dX8_fits_0 : decode cX8_fits 0 = .ok (.iload_n 1, 1) := by decide +kernel
theorem dX8_fits_1 : decode cX8_fits 1 = .ok (.i2l, 1) := by decide +kernel
theorem dX8_fits_2 : decode cX8_fits 2 = .ok (.lconst 0, 1) := by decide +kernel
theorem dX8_fits_3 : decode cX8_fits 3 = .ok (.ldc2_w 210, 3) := by decide +kernel
theorem dX8_fits_6 : decode cX8_fits 6 = .ok (.invokestatic 57, 3) := by decide +kernel
theorem dX8_fits_9 : decode cX8_fits 9 = .ok (.ifCond .ne 6, 3) := by decide +kernel
theorem dX8_fits_12 : decode cX8_fits 12 = .ok (.bipush (-2), 2) := by decide +kernel
theorem dX8_fits_14 : decode cX8_fits 14 = .ok (.ireturn, 1) := by decide +kernel
theorem dX8_fits_15 : decode cX8_fits 15 = .ok (.aload_n 0, 1) := by decide +kernel
theorem dX8_fits_16 : decode cX8_fits 16 = .ok (.getfield 11, 3) := by decide +kernel
theorem dX8_fits_19 : decode cX8_fits 19 = .ok (.iconst 2, 1) := by decide +kernel
theorem dX8_fits_20 : decode cX8_fits 20 = .ok (.iaload, 1) := by decide +kernel
theorem dX8_fits_21 : decode cX8_fits 21 = .ok (.iconst 1, 1) := by decide +kernel
theorem dX8_fits_22 : decode cX8_fits 22 = .ok (.if_icmp .ne 6, 3) := by decide +kernel
theorem dX8_fits_25 : decode cX8_fits 25 = .ok (.bipush (-3), 2) := by decide +kernel
theorem dX8_fits_27 : decode cX8_fits 27 = .ok (.ireturn, 1) := by decide +kernel
theorem dX8_fits_28 : decode cX8_fits 28 = .ok (.iconst 0, 1) := by decide +kernel
theorem dX8_fits_29 : decode cX8_fits 29 = .ok (.istore_n 2, 1) := by decide +kernel
theorem dX8_fits_30 : decode cX8_fits 30 = .ok (.iconst 0, 1) := by decide +kernel
theorem dX8_fits_31 : decode cX8_fits 31 = .ok (.istore_n 3, 1) := by decide +kernel
theorem dX8_fits_32 : decode cX8_fits 32 = .ok (.iload_n 3, 1) := by decide +kernel
theorem dX8_fits_33 : decode cX8_fits 33 = .ok (.bipush 24, 2) := by decide +kernel
theorem dX8_fits_35 : decode cX8_fits 35 = .ok (.if_icmp .ge 58, 3) := by decide +kernel
theorem dX8_fits_38 : decode cX8_fits 38 = .ok (.aload_n 0, 1) := by decide +kernel
theorem dX8_fits_39 : decode cX8_fits 39 = .ok (.iload_n 3, 1) := by decide +kernel
theorem dX8_fits_40 : decode cX8_fits 40 = .ok (.invokevirtual 65, 3) := by decide +kernel
theorem dX8_fits_43 : decode cX8_fits 43 = .ok (.ifCond .eq 44, 3) := by decide +kernel
theorem dX8_fits_46 : decode cX8_fits 46 = .ok (.aload_n 0, 1) := by decide +kernel
theorem dX8_fits_47 : decode cX8_fits 47 = .ok (.getfield 11, 3) := by decide +kernel
theorem dX8_fits_50 : decode cX8_fits 50 = .ok (.aload_n 0, 1) := by decide +kernel
theorem dX8_fits_51 : decode cX8_fits 51 = .ok (.getfield 15, 3) := by decide +kernel
theorem dX8_fits_54 : decode cX8_fits 54 = .ok (.invokestatic 224, 3) := by decide +kernel
theorem dX8_fits_57 : decode cX8_fits 57 = .ok (.aload_n 0, 1) := by decide +kernel
theorem dX8_fits_58 : decode cX8_fits 58 = .ok (.getfield 15, 3) := by decide +kernel
theorem dX8_fits_61 : decode cX8_fits 61 = .ok (.bipush 16, 2) := by decide +kernel
theorem dX8_fits_63 : decode cX8_fits 63 = .ok (.iload_n 3, 1) := by decide +kernel
theorem dX8_fits_64 : decode cX8_fits 64 = .ok (.iastore, 1) := by decide +kernel
theorem dX8_fits_65 : decode cX8_fits 65 = .ok (.iload_n 2, 1) := by decide +kernel
theorem dX8_fits_66 : decode cX8_fits 66 = .ok (.aload_n 0, 1) := by decide +kernel
theorem dX8_fits_67 : decode cX8_fits 67 = .ok (.aload_n 0, 1) := by decide +kernel
theorem dX8_fits_68 : decode cX8_fits 68 = .ok (.getfield 15, 3) := by decide +kernel
theorem dX8_fits_71 : decode cX8_fits 71 = .ok (.iload_n 1, 1) := by decide +kernel
theorem dX8_fits_72 : decode cX8_fits 72 = .ok (.invokevirtual 250, 3) := by decide +kernel
theorem dX8_fits_75 : decode cX8_fits 75 = .ok (.ifCond .eq 9, 3) := by decide +kernel
theorem dX8_fits_78 : decode cX8_fits 78 = .ok (.iconst 1, 1) := by decide +kernel
theorem dX8_fits_79 : decode cX8_fits 79 = .ok (.iload_n 3, 1) := by decide +kernel
theorem dX8_fits_80 : decode cX8_fits 80 = .ok (.ishl, 1) := by decide +kernel
theorem dX8_fits_81 : decode cX8_fits 81 = .ok (.goto 4, 3) := by decide +kernel
theorem dX8_fits_84 : decode cX8_fits 84 = .ok (.iconst 0, 1) := by decide +kernel
theorem dX8_fits_85 : decode cX8_fits 85 = .ok (.ior, 1) := by decide +kernel
theorem dX8_fits_86 : decode cX8_fits 86 = .ok (.istore_n 2, 1) := by decide +kernel
theorem dX8_fits_87 : decode cX8_fits 87 = .ok (.iinc 3 1, 3) := by decide +kernel
theorem dX8_fits_90 : decode cX8_fits 90 = .ok (.goto (-58), 3) := by decide +kernel
theorem dX8_fits_93 : decode cX8_fits 93 = .ok (.iload_n 2, 1) := by decide +kernel
theorem dX8_fits_94 : decode cX8_fits 94 = .ok (.ireturn, 1) := by decide +kernel
theorem dX8_can_0 : decode cX8_can 0 = .ok (.aload_n 0, 1) := by decide +kernel
theorem dX8_can_1 : decode cX8_can 1 = .ok (.iload_n 1, 1) := by decide +kernel
theorem dX8_can_2 : decode cX8_can 2 = .ok (.invokevirtual 65, 3) := by decide +kernel
theorem dX8_can_5 : decode cX8_can 5 = .ok (.ifCond .eq 13, 3) := by decide +kernel
theorem dX8_can_8 : decode cX8_can 8 = .ok (.iload_n 3, 1) := by decide +kernel
theorem dX8_can_9 : decode cX8_can 9 = .ok (.i2l, 1) := by decide +kernel
theorem dX8_can_10 : decode cX8_can 10 = .ok (.lconst 0, 1) := by decide +kernel
theorem dX8_can_11 : decode cX8_can 11 = .ok (.lconst 1, 1) := by decide +kernel
theorem dX8_can_12 : decode cX8_can 12 = .ok (.invokestatic 57, 3) := by decide +kernel
theorem dX8_can_15 : decode cX8_can 15 = .ok (.ifCond .ne 5, 3) := by decide +kernel
theorem dX8_can_18 : decode cX8_can 18 = .ok (.iconst (-1), 1) := by decide +kernel
theorem dX8_can_19 : decode cX8_can 19 = .ok (.ireturn, 1) := by decide +kernel
theorem dX8_can_20 : decode cX8_can 20 = .ok (.iload_n 2, 1) := by decide +kernel
theorem dX8_can_21 : decode cX8_can 21 = .ok (.i2l, 1) := by decide +kernel
theorem dX8_can_22 : decode cX8_can 22 = .ok (.lconst 0, 1) := by decide +kernel
theorem dX8_can_23 : decode cX8_can 23 = .ok (.ldc2_w 210, 3) := by decide +kernel
theorem dX8_can_26 : decode cX8_can 26 = .ok (.invokestatic 57, 3) := by decide +kernel
theorem dX8_can_29 : decode cX8_can 29 = .ok (.ifCond .ne 6, 3) := by decide +kernel
theorem dX8_can_32 : decode cX8_can 32 = .ok (.bipush (-2), 2) := by decide +kernel
theorem dX8_can_34 : decode cX8_can 34 = .ok (.ireturn, 1) := by decide +kernel
theorem dX8_can_35 : decode cX8_can 35 = .ok (.aload_n 0, 1) := by decide +kernel
theorem dX8_can_36 : decode cX8_can 36 = .ok (.getfield 11, 3) := by decide +kernel
theorem dX8_can_39 : decode cX8_can 39 = .ok (.iconst 2, 1) := by decide +kernel
theorem dX8_can_40 : decode cX8_can 40 = .ok (.iaload, 1) := by decide +kernel
theorem dX8_can_41 : decode cX8_can 41 = .ok (.iconst 1, 1) := by decide +kernel
theorem dX8_can_42 : decode cX8_can 42 = .ok (.if_icmp .ne 6, 3) := by decide +kernel
theorem dX8_can_45 : decode cX8_can 45 = .ok (.bipush (-3), 2) := by decide +kernel
theorem dX8_can_47 : decode cX8_can 47 = .ok (.ireturn, 1) := by decide +kernel
theorem dX8_can_48 : decode cX8_can 48 = .ok (.iconst 0, 1) := by decide +kernel
theorem dX8_can_49 : decode cX8_can 49 = .ok (.istore 4, 2) := by decide +kernel
theorem dX8_can_51 : decode cX8_can 51 = .ok (.bipush (-5), 2) := by decide +kernel
theorem dX8_can_53 : decode cX8_can 53 = .ok (.istore 5, 2) := by decide +kernel
theorem dX8_can_55 : decode cX8_can 55 = .ok (.bipush 9, 2) := by decide +kernel
theorem dX8_can_57 : decode cX8_can 57 = .ok (.istore 6, 2) := by decide +kernel
theorem dX8_can_59 : decode cX8_can 59 = .ok (.iload 6, 2) := by decide +kernel
theorem dX8_can_61 : decode cX8_can 61 = .ok (.ifCond .lt 50, 3) := by decide +kernel
theorem dX8_can_64 : decode cX8_can 64 = .ok (.aload_n 0, 1) := by decide +kernel
theorem dX8_can_65 : decode cX8_can 65 = .ok (.getfield 11, 3) := by decide +kernel
theorem dX8_can_68 : decode cX8_can 68 = .ok (.aload_n 0, 1) := by decide +kernel
theorem dX8_can_69 : decode cX8_can 69 = .ok (.getfield 15, 3) := by decide +kernel
theorem dX8_can_72 : decode cX8_can 72 = .ok (.invokestatic 224, 3) := by decide +kernel
theorem dX8_can_75 : decode cX8_can 75 = .ok (.aload_n 0, 1) := by decide +kernel
theorem dX8_can_76 : decode cX8_can 76 = .ok (.getfield 15, 3) := by decide +kernel
theorem dX8_can_79 : decode cX8_can 79 = .ok (.bipush 44, 2) := by decide +kernel
theorem dX8_can_81 : decode cX8_can 81 = .ok (.iload_n 1, 1) := by decide +kernel
theorem dX8_can_82 : decode cX8_can 82 = .ok (.iadd, 1) := by decide +kernel
theorem dX8_can_83 : decode cX8_can 83 = .ok (.iload 6, 2) := by decide +kernel
theorem dX8_can_85 : decode cX8_can 85 = .ok (.iastore, 1) := by decide +kernel
theorem dX8_can_86 : decode cX8_can 86 = .ok (.aload_n 0, 1) := by decide +kernel
theorem dX8_can_87 : decode cX8_can 87 = .ok (.aload_n 0, 1) := by decide +kernel
theorem dX8_can_88 : decode cX8_can 88 = .ok (.getfield 15, 3) := by decide +kernel
theorem dX8_can_91 : decode cX8_can 91 = .ok (.iload_n 2, 1) := by decide +kernel
theorem dX8_can_92 : decode cX8_can 92 = .ok (.invokevirtual 250, 3) := by decide +kernel
theorem dX8_can_95 : decode cX8_can 95 = .ok (.ifCond .eq 10, 3) := by decide +kernel
theorem dX8_can_98 : decode cX8_can 98 = .ok (.iinc 4 1, 3) := by decide +kernel
theorem dX8_can_101 : decode cX8_can 101 = .ok (.iload 6, 2) := by decide +kernel
theorem dX8_can_103 : decode cX8_can 103 = .ok (.istore 5, 2) := by decide +kernel
theorem dX8_can_105 : decode cX8_can 105 = .ok (.iinc 6 (-1), 3) := by decide +kernel
theorem dX8_can_108 : decode cX8_can 108 = .ok (.goto (-49), 3) := by decide +kernel
theorem dX8_can_111 : decode cX8_can 111 = .ok (.iload_n 3, 1) := by decide +kernel
theorem dX8_can_112 : decode cX8_can 112 = .ok (.ifCond .ne 8, 3) := by decide +kernel
theorem dX8_can_115 : decode cX8_can 115 = .ok (.iload 4, 2) := by decide +kernel
theorem dX8_can_117 : decode cX8_can 117 = .ok (.goto 5, 3) := by decide +kernel
theorem dX8_can_120 : decode cX8_can 120 = .ok (.iload 5, 2) := by decide +kernel
theorem dX8_can_122 : decode cX8_can 122 = .ok (.ireturn, 1) := by decide +kernel
theorem dX8_lowest_0 : decode cX8_lowest 0 = .ok (.lload_n 0, 1) := by decide +kernel
theorem dX8_lowest_1 : decode cX8_lowest 1 = .ok (.lstore 5, 2) := by decide +kernel
theorem dX8_lowest_3 : decode cX8_lowest 3 = .ok (.lload_n 2, 1) := by decide +kernel
theorem dX8_lowest_4 : decode cX8_lowest 4 = .ok (.lstore 7, 2) := by decide +kernel
theorem dX8_lowest_6 : decode cX8_lowest 6 = .ok (.lload 7, 2) := by decide +kernel
theorem dX8_lowest_8 : decode cX8_lowest 8 = .ok (.lconst 0, 1) := by decide +kernel
theorem dX8_lowest_9 : decode cX8_lowest 9 = .ok (.lcmp, 1) := by decide +kernel
theorem dX8_lowest_10 : decode cX8_lowest 10 = .ok (.ifCond .eq 21, 3) := by decide +kernel
theorem dX8_lowest_13 : decode cX8_lowest 13 = .ok (.lload 5, 2) := by decide +kernel
theorem dX8_lowest_15 : decode cX8_lowest 15 = .ok (.lload 7, 2) := by decide +kernel
theorem dX8_lowest_17 : decode cX8_lowest 17 = .ok (.lrem, 1) := by decide +kernel
theorem dX8_lowest_18 : decode cX8_lowest 18 = .ok (.lstore 9, 2) := by decide +kernel
theorem dX8_lowest_20 : decode cX8_lowest 20 = .ok (.lload 7, 2) := by decide +kernel
theorem dX8_lowest_22 : decode cX8_lowest 22 = .ok (.lstore 5, 2) := by decide +kernel
theorem dX8_lowest_24 : decode cX8_lowest 24 = .ok (.lload 9, 2) := by decide +kernel
theorem dX8_lowest_26 : decode cX8_lowest 26 = .ok (.lstore 7, 2) := by decide +kernel
theorem dX8_lowest_28 : decode cX8_lowest 28 = .ok (.goto (-22), 3) := by decide +kernel
theorem dX8_lowest_31 : decode cX8_lowest 31 = .ok (.iload 4, 2) := by decide +kernel
theorem dX8_lowest_33 : decode cX8_lowest 33 = .ok (.ifCond .ne 7, 3) := by decide +kernel
theorem dX8_lowest_36 : decode cX8_lowest 36 = .ok (.lload_n 0, 1) := by decide +kernel
theorem dX8_lowest_37 : decode cX8_lowest 37 = .ok (.goto 4, 3) := by decide +kernel
theorem dX8_lowest_40 : decode cX8_lowest 40 = .ok (.lload_n 2, 1) := by decide +kernel
theorem dX8_lowest_41 : decode cX8_lowest 41 = .ok (.lload 5, 2) := by decide +kernel
theorem dX8_lowest_43 : decode cX8_lowest 43 = .ok (.ldiv, 1) := by decide +kernel
theorem dX8_lowest_44 : decode cX8_lowest 44 = .ok (.lreturn, 1) := by decide +kernel
theorem dX8_odds_0 : decode cX8_odds 0 = .ok (.aload_n 0, 1) := by decide +kernel
theorem dX8_odds_1 : decode cX8_odds 1 = .ok (.iload_n 1, 1) := by decide +kernel
theorem dX8_odds_2 : decode cX8_odds 2 = .ok (.invokevirtual 65, 3) := by decide +kernel
theorem dX8_odds_5 : decode cX8_odds 5 = .ok (.ifCond .eq 13, 3) := by decide +kernel
theorem dX8_odds_8 : decode cX8_odds 8 = .ok (.iload_n 2, 1) := by decide +kernel
theorem dX8_odds_9 : decode cX8_odds 9 = .ok (.i2l, 1) := by decide +kernel
theorem dX8_odds_10 : decode cX8_odds 10 = .ok (.lconst 0, 1) := by decide +kernel
theorem dX8_odds_11 : decode cX8_odds 11 = .ok (.lconst 1, 1) := by decide +kernel
theorem dX8_odds_12 : decode cX8_odds 12 = .ok (.invokestatic 57, 3) := by decide +kernel
theorem dX8_odds_15 : decode cX8_odds 15 = .ok (.ifCond .ne 7, 3) := by decide +kernel
theorem dX8_odds_18 : decode cX8_odds 18 = .ok (.ldc2_w 254, 3) := by decide +kernel
theorem dX8_odds_21 : decode cX8_odds 21 = .ok (.lreturn, 1) := by decide +kernel
theorem dX8_odds_22 : decode cX8_odds 22 = .ok (.lconst 0, 1) := by decide +kernel
theorem dX8_odds_23 : decode cX8_odds 23 = .ok (.lstore_n 3, 1) := by decide +kernel
theorem dX8_odds_24 : decode cX8_odds 24 = .ok (.lconst 0, 1) := by decide +kernel
theorem dX8_odds_25 : decode cX8_odds 25 = .ok (.lstore 5, 2) := by decide +kernel
theorem dX8_odds_27 : decode cX8_odds 27 = .ok (.iconst 0, 1) := by decide +kernel
theorem dX8_odds_28 : decode cX8_odds 28 = .ok (.istore 7, 2) := by decide +kernel
theorem dX8_odds_30 : decode cX8_odds 30 = .ok (.iload 7, 2) := by decide +kernel
theorem dX8_odds_32 : decode cX8_odds 32 = .ok (.bipush 24, 2) := by decide +kernel
theorem dX8_odds_34 : decode cX8_odds 34 = .ok (.if_icmp .ge 69, 3) := by decide +kernel
theorem dX8_odds_37 : decode cX8_odds 37 = .ok (.iconst 0, 1) := by decide +kernel
theorem dX8_odds_38 : decode cX8_odds 38 = .ok (.istore 8, 2) := by decide +kernel
theorem dX8_odds_40 : decode cX8_odds 40 = .ok (.aload_n 0, 1) := by decide +kernel
theorem dX8_odds_41 : decode cX8_odds 41 = .ok (.iload 7, 2) := by decide +kernel
theorem dX8_odds_43 : decode cX8_odds 43 = .ok (.iload 8, 2) := by decide +kernel
theorem dX8_odds_45 : decode cX8_odds 45 = .ok (.invokevirtual 96, 3) := by decide +kernel
theorem dX8_odds_48 : decode cX8_odds 48 = .ok (.ifCond .eq 49, 3) := by decide +kernel
theorem dX8_odds_51 : decode cX8_odds 51 = .ok (.aload_n 0, 1) := by decide +kernel
theorem dX8_odds_52 : decode cX8_odds 52 = .ok (.getfield 11, 3) := by decide +kernel
theorem dX8_odds_55 : decode cX8_odds 55 = .ok (.iload 7, 2) := by decide +kernel
theorem dX8_odds_57 : decode cX8_odds 57 = .ok (.iload 8, 2) := by decide +kernel
theorem dX8_odds_59 : decode cX8_odds 59 = .ok (.invokestatic 85, 3) := by decide +kernel
theorem dX8_odds_62 : decode cX8_odds 62 = .ok (.ifCond .lt 29, 3) := by decide +kernel
theorem dX8_odds_65 : decode cX8_odds 65 = .ok (.lload_n 3, 1) := by decide +kernel
theorem dX8_odds_66 : decode cX8_odds 66 = .ok (.lconst 1, 1) := by decide +kernel
theorem dX8_odds_67 : decode cX8_odds 67 = .ok (.ladd, 1) := by decide +kernel
theorem dX8_odds_68 : decode cX8_odds 68 = .ok (.lstore_n 3, 1) := by decide +kernel
theorem dX8_odds_69 : decode cX8_odds 69 = .ok (.lload 5, 2) := by decide +kernel
theorem dX8_odds_71 : decode cX8_odds 71 = .ok (.aload_n 0, 1) := by decide +kernel
theorem dX8_odds_72 : decode cX8_odds 72 = .ok (.iload 7, 2) := by decide +kernel
theorem dX8_odds_74 : decode cX8_odds 74 = .ok (.iload 8, 2) := by decide +kernel
theorem dX8_odds_76 : decode cX8_odds 76 = .ok (.iload_n 1, 1) := by decide +kernel
theorem dX8_odds_77 : decode cX8_odds 77 = .ok (.invokevirtual 102, 3) := by decide +kernel
theorem dX8_odds_80 : decode cX8_odds 80 = .ok (.ifCond .eq 7, 3) := by decide +kernel
theorem dX8_odds_83 : decode cX8_odds 83 = .ok (.lconst 1, 1) := by decide +kernel
theorem dX8_odds_84 : decode cX8_odds 84 = .ok (.goto 4, 3) := by decide +kernel
theorem dX8_odds_87 : decode cX8_odds 87 = .ok (.lconst 0, 1) := by decide +kernel
theorem dX8_odds_88 : decode cX8_odds 88 = .ok (.ladd, 1) := by decide +kernel
theorem dX8_odds_89 : decode cX8_odds 89 = .ok (.lstore 5, 2) := by decide +kernel
theorem dX8_odds_91 : decode cX8_odds 91 = .ok (.iinc 8 1, 3) := by decide +kernel
theorem dX8_odds_94 : decode cX8_odds 94 = .ok (.goto (-54), 3) := by decide +kernel
theorem dX8_odds_97 : decode cX8_odds 97 = .ok (.iinc 7 1, 3) := by decide +kernel
theorem dX8_odds_100 : decode cX8_odds 100 = .ok (.goto (-70), 3) := by decide +kernel
theorem dX8_odds_103 : decode cX8_odds 103 = .ok (.lload_n 3, 1) := by decide +kernel
theorem dX8_odds_104 : decode cX8_odds 104 = .ok (.lconst 0, 1) := by decide +kernel
theorem dX8_odds_105 : decode cX8_odds 105 = .ok (.lcmp, 1) := by decide +kernel
theorem dX8_odds_106 : decode cX8_odds 106 = .ok (.ifCond .ne 9, 3) := by decide +kernel
theorem dX8_odds_109 : decode cX8_odds 109 = .ok (.ldc2_w 254, 3) := by decide +kernel
theorem dX8_odds_112 : decode cX8_odds 112 = .ok (.goto 10, 3) := by decide +kernel
theorem dX8_odds_115 : decode cX8_odds 115 = .ok (.lload 5, 2) := by decide +kernel
theorem dX8_odds_117 : decode cX8_odds 117 = .ok (.lload_n 3, 1) := by decide +kernel
theorem dX8_odds_118 : decode cX8_odds 118 = .ok (.iload_n 2, 1) := by decide +kernel
theorem dX8_odds_119 : decode cX8_odds 119 = .ok (.invokestatic 256, 3) := by decide +kernel
theorem dX8_odds_122 : decode cX8_odds 122 = .ok (.lreturn, 1) := by decide +kernel
theorem dX8_mean_0 : decode cX8_mean 0 = .ok (.aload_n 0, 1) := by decide +kernel
theorem dX8_mean_1 : decode cX8_mean 1 = .ok (.getfield 11, 3) := by decide +kernel
theorem dX8_mean_4 : decode cX8_mean 4 = .ok (.invokestatic 99, 3) := by decide +kernel
theorem dX8_mean_7 : decode cX8_mean 7 = .ok (.istore_n 2, 1) := by decide +kernel
theorem dX8_mean_8 : decode cX8_mean 8 = .ok (.iload_n 1, 1) := by decide +kernel
theorem dX8_mean_9 : decode cX8_mean 9 = .ok (.i2l, 1) := by decide +kernel
theorem dX8_mean_10 : decode cX8_mean 10 = .ok (.lconst 0, 1) := by decide +kernel
theorem dX8_mean_11 : decode cX8_mean 11 = .ok (.lconst 1, 1) := by decide +kernel
theorem dX8_mean_12 : decode cX8_mean 12 = .ok (.invokestatic 57, 3) := by decide +kernel
theorem dX8_mean_15 : decode cX8_mean 15 = .ok (.ifCond .eq 7, 3) := by decide +kernel
theorem dX8_mean_18 : decode cX8_mean 18 = .ok (.iload_n 2, 1) := by decide +kernel
theorem dX8_mean_19 : decode cX8_mean 19 = .ok (.ifCond .ne 7, 3) := by decide +kernel
theorem dX8_mean_22 : decode cX8_mean 22 = .ok (.ldc2_w 254, 3) := by decide +kernel
theorem dX8_mean_25 : decode cX8_mean 25 = .ok (.lreturn, 1) := by decide +kernel
theorem dX8_mean_26 : decode cX8_mean 26 = .ok (.lconst 0, 1) := by decide +kernel
theorem dX8_mean_27 : decode cX8_mean 27 = .ok (.lstore_n 3, 1) := by decide +kernel
theorem dX8_mean_28 : decode cX8_mean 28 = .ok (.iconst 0, 1) := by decide +kernel
theorem dX8_mean_29 : decode cX8_mean 29 = .ok (.istore 5, 2) := by decide +kernel
theorem dX8_mean_31 : decode cX8_mean 31 = .ok (.iload 5, 2) := by decide +kernel
theorem dX8_mean_33 : decode cX8_mean 33 = .ok (.bipush 24, 2) := by decide +kernel
theorem dX8_mean_35 : decode cX8_mean 35 = .ok (.if_icmp .ge 35, 3) := by decide +kernel
theorem dX8_mean_38 : decode cX8_mean 38 = .ok (.lload_n 3, 1) := by decide +kernel
theorem dX8_mean_39 : decode cX8_mean 39 = .ok (.iload_n 2, 1) := by decide +kernel
theorem dX8_mean_40 : decode cX8_mean 40 = .ok (.iload 5, 2) := by decide +kernel
theorem dX8_mean_42 : decode cX8_mean 42 = .ok (.invokestatic 61, 3) := by decide +kernel
theorem dX8_mean_45 : decode cX8_mean 45 = .ok (.ifCond .eq 16, 3) := by decide +kernel
theorem dX8_mean_48 : decode cX8_mean 48 = .ok (.aload_n 0, 1) := by decide +kernel
theorem dX8_mean_49 : decode cX8_mean 49 = .ok (.getfield 11, 3) := by decide +kernel
theorem dX8_mean_52 : decode cX8_mean 52 = .ok (.iload 5, 2) := by decide +kernel
theorem dX8_mean_54 : decode cX8_mean 54 = .ok (.invokestatic 114, 3) := by decide +kernel
theorem dX8_mean_57 : decode cX8_mean 57 = .ok (.i2l, 1) := by decide +kernel
theorem dX8_mean_58 : decode cX8_mean 58 = .ok (.goto 4, 3) := by decide +kernel
theorem dX8_mean_61 : decode cX8_mean 61 = .ok (.lconst 0, 1) := by decide +kernel
theorem dX8_mean_62 : decode cX8_mean 62 = .ok (.ladd, 1) := by decide +kernel
theorem dX8_mean_63 : decode cX8_mean 63 = .ok (.lstore_n 3, 1) := by decide +kernel
theorem dX8_mean_64 : decode cX8_mean 64 = .ok (.iinc 5 1, 3) := by decide +kernel
theorem dX8_mean_67 : decode cX8_mean 67 = .ok (.goto (-36), 3) := by decide +kernel
theorem dX8_mean_70 : decode cX8_mean 70 = .ok (.lload_n 3, 1) := by decide +kernel
theorem dX8_mean_71 : decode cX8_mean 71 = .ok (.iload_n 2, 1) := by decide +kernel
theorem dX8_mean_72 : decode cX8_mean 72 = .ok (.invokestatic 205, 3) := by decide +kernel
theorem dX8_mean_75 : decode cX8_mean 75 = .ok (.i2l, 1) := by decide +kernel
theorem dX8_mean_76 : decode cX8_mean 76 = .ok (.iload_n 1, 1) := by decide +kernel
theorem dX8_mean_77 : decode cX8_mean 77 = .ok (.invokestatic 256, 3) := by decide +kernel
theorem dX8_mean_80 : decode cX8_mean 80 = .ok (.lreturn, 1) := by decide +kernel
theorem dX8_isPlanned_0 : decode cX8_isPlanned 0 = .ok (.iload_n 1, 1) := by decide +kernel
theorem dX8_isPlanned_1 : decode cX8_isPlanned 1 = .ok (.ifCond .ne 22, 3) := by decide +kernel
theorem dX8_isPlanned_4 : decode cX8_isPlanned 4 = .ok (.iload_n 2, 1) := by decide +kernel
theorem dX8_isPlanned_5 : decode cX8_isPlanned 5 = .ok (.ifCond .lt 18, 3) := by decide +kernel
theorem dX8_isPlanned_8 : decode cX8_isPlanned 8 = .ok (.aload_n 0, 1) := by decide +kernel
theorem dX8_isPlanned_9 : decode cX8_isPlanned 9 = .ok (.iload_n 2, 1) := by decide +kernel
theorem dX8_isPlanned_10 : decode cX8_isPlanned 10 = .ok (.bipush 10, 2) := by decide +kernel
theorem dX8_isPlanned_12 : decode cX8_isPlanned 12 = .ok (.idiv, 1) := by decide +kernel
theorem dX8_isPlanned_13 : decode cX8_isPlanned 13 = .ok (.iload_n 2, 1) := by decide +kernel
theorem dX8_isPlanned_14 : decode cX8_isPlanned 14 = .ok (.bipush 10, 2) := by decide +kernel
theorem dX8_isPlanned_16 : decode cX8_isPlanned 16 = .ok (.irem, 1) := by decide +kernel
theorem dX8_isPlanned_17 : decode cX8_isPlanned 17 = .ok (.invokevirtual 96, 3) := by decide +kernel
theorem dX8_isPlanned_20 : decode cX8_isPlanned 20 = .ok (.ifCond .ne 33, 3) := by decide +kernel
theorem dX8_isPlanned_23 : decode cX8_isPlanned 23 = .ok (.iload_n 1, 1) := by decide +kernel
theorem dX8_isPlanned_24 : decode cX8_isPlanned 24 = .ok (.iconst 1, 1) := by decide +kernel
theorem dX8_isPlanned_25 : decode cX8_isPlanned 25 = .ok (.if_icmp .ne 15, 3) := by decide +kernel
theorem dX8_isPlanned_28 : decode cX8_isPlanned 28 = .ok (.iload_n 2, 1) := by decide +kernel
theorem dX8_isPlanned_29 : decode cX8_isPlanned 29 = .ok (.i2l, 1) := by decide +kernel
theorem dX8_isPlanned_30 : decode cX8_isPlanned 30 = .ok (.lconst 0, 1) := by decide +kernel
theorem dX8_isPlanned_31 : decode cX8_isPlanned 31 = .ok (.ldc2_w 135, 3) := by decide +kernel
theorem dX8_isPlanned_34 : decode cX8_isPlanned 34 = .ok (.invokestatic 57, 3) := by decide +kernel
theorem dX8_isPlanned_37 : decode cX8_isPlanned 37 = .ok (.ifCond .ne 16, 3) := by decide +kernel
theorem dX8_isPlanned_40 : decode cX8_isPlanned 40 = .ok (.iload_n 1, 1) := by decide +kernel
theorem dX8_isPlanned_41 : decode cX8_isPlanned 41 = .ok (.iconst 2, 1) := by decide +kernel
theorem dX8_isPlanned_42 : decode cX8_isPlanned 42 = .ok (.if_icmp .ne 15, 3) := by decide +kernel
theorem dX8_isPlanned_45 : decode cX8_isPlanned 45 = .ok (.aload_n 0, 1) := by decide +kernel
theorem dX8_isPlanned_46 : decode cX8_isPlanned 46 = .ok (.iload_n 2, 1) := by decide +kernel
theorem dX8_isPlanned_47 : decode cX8_isPlanned 47 = .ok (.invokevirtual 65, 3) := by decide +kernel
theorem dX8_isPlanned_50 : decode cX8_isPlanned 50 = .ok (.ifCond .eq 7, 3) := by decide +kernel
theorem dX8_isPlanned_53 : decode cX8_isPlanned 53 = .ok (.iconst 1, 1) := by decide +kernel
theorem dX8_isPlanned_54 : decode cX8_isPlanned 54 = .ok (.goto 4, 3) := by decide +kernel
theorem dX8_isPlanned_57 : decode cX8_isPlanned 57 = .ok (.iconst 0, 1) := by decide +kernel
theorem dX8_isPlanned_58 : decode cX8_isPlanned 58 = .ok (.ireturn, 1) := by decide +kernel
theorem dX8_plan_0 : decode cX8_plan 0 = .ok (.iload_n 1, 1) := by decide +kernel
theorem dX8_plan_1 : decode cX8_plan 1 = .ok (.iconst (-1), 1) := by decide +kernel
theorem dX8_plan_2 : decode cX8_plan 2 = .ok (.if_icmp .ne 14, 3) := by decide +kernel
theorem dX8_plan_5 : decode cX8_plan 5 = .ok (.aload_n 0, 1) := by decide +kernel
theorem dX8_plan_6 : decode cX8_plan 6 = .ok (.getfield 11, 3) := by decide +kernel
theorem dX8_plan_9 : decode cX8_plan 9 = .ok (.sipush 320, 3) := by decide +kernel
theorem dX8_plan_12 : decode cX8_plan 12 = .ok (.iconst 0, 1) := by decide +kernel
theorem dX8_plan_13 : decode cX8_plan 13 = .ok (.iastore, 1) := by decide +kernel
theorem dX8_plan_14 : decode cX8_plan 14 = .ok (.iconst 0, 1) := by decide +kernel
theorem dX8_plan_15 : decode cX8_plan 15 = .ok (.ireturn, 1) := by decide +kernel
theorem dX8_plan_16 : decode cX8_plan 16 = .ok (.aload_n 0, 1) := by decide +kernel
theorem dX8_plan_17 : decode cX8_plan 17 = .ok (.iload_n 1, 1) := by decide +kernel
theorem dX8_plan_18 : decode cX8_plan 18 = .ok (.iload_n 2, 1) := by decide +kernel
theorem dX8_plan_19 : decode cX8_plan 19 = .ok (.invokevirtual 260, 3) := by decide +kernel
theorem dX8_plan_22 : decode cX8_plan 22 = .ok (.ifCond .ne 5, 3) := by decide +kernel
theorem dX8_plan_25 : decode cX8_plan 25 = .ok (.iconst (-1), 1) := by decide +kernel
theorem dX8_plan_26 : decode cX8_plan 26 = .ok (.ireturn, 1) := by decide +kernel
theorem dX8_plan_27 : decode cX8_plan 27 = .ok (.aload_n 0, 1) := by decide +kernel
theorem dX8_plan_28 : decode cX8_plan 28 = .ok (.getfield 11, 3) := by decide +kernel
theorem dX8_plan_31 : decode cX8_plan 31 = .ok (.sipush 320, 3) := by decide +kernel
theorem dX8_plan_34 : decode cX8_plan 34 = .ok (.iaload, 1) := by decide +kernel
theorem dX8_plan_35 : decode cX8_plan 35 = .ok (.istore_n 3, 1) := by decide +kernel
theorem dX8_plan_36 : decode cX8_plan 36 = .ok (.iload_n 3, 1) := by decide +kernel
theorem dX8_plan_37 : decode cX8_plan 37 = .ok (.bipush 10, 2) := by decide +kernel
theorem dX8_plan_39 : decode cX8_plan 39 = .ok (.if_icmp .ne 6, 3) := by decide +kernel
theorem dX8_plan_42 : decode cX8_plan 42 = .ok (.bipush (-4), 2) := by decide +kernel
theorem dX8_plan_44 : decode cX8_plan 44 = .ok (.ireturn, 1) := by decide +kernel
theorem dX8_plan_45 : decode cX8_plan 45 = .ok (.aload_n 0, 1) := by decide +kernel
theorem dX8_plan_46 : decode cX8_plan 46 = .ok (.getfield 11, 3) := by decide +kernel
theorem dX8_plan_49 : decode cX8_plan 49 = .ok (.sipush 300, 3) := by decide +kernel
theorem dX8_plan_52 : decode cX8_plan 52 = .ok (.iconst 2, 1) := by decide +kernel
theorem dX8_plan_53 : decode cX8_plan 53 = .ok (.iload_n 3, 1) := by decide +kernel
theorem dX8_plan_54 : decode cX8_plan 54 = .ok (.imul, 1) := by decide +kernel
theorem dX8_plan_55 : decode cX8_plan 55 = .ok (.iadd, 1) := by decide +kernel
theorem dX8_plan_56 : decode cX8_plan 56 = .ok (.iload_n 1, 1) := by decide +kernel
theorem dX8_plan_57 : decode cX8_plan 57 = .ok (.iastore, 1) := by decide +kernel
theorem dX8_plan_58 : decode cX8_plan 58 = .ok (.aload_n 0, 1) := by decide +kernel
theorem dX8_plan_59 : decode cX8_plan 59 = .ok (.getfield 11, 3) := by decide +kernel
theorem dX8_plan_62 : decode cX8_plan 62 = .ok (.sipush 300, 3) := by decide +kernel
theorem dX8_plan_65 : decode cX8_plan 65 = .ok (.iconst 2, 1) := by decide +kernel
theorem dX8_plan_66 : decode cX8_plan 66 = .ok (.iload_n 3, 1) := by decide +kernel
theorem dX8_plan_67 : decode cX8_plan 67 = .ok (.imul, 1) := by decide +kernel
theorem dX8_plan_68 : decode cX8_plan 68 = .ok (.iadd, 1) := by decide +kernel
theorem dX8_plan_69 : decode cX8_plan 69 = .ok (.iconst 1, 1) := by decide +kernel
theorem dX8_plan_70 : decode cX8_plan 70 = .ok (.iadd, 1) := by decide +kernel
theorem dX8_plan_71 : decode cX8_plan 71 = .ok (.iload_n 2, 1) := by decide +kernel
theorem dX8_plan_72 : decode cX8_plan 72 = .ok (.iastore, 1) := by decide +kernel
theorem dX8_plan_73 : decode cX8_plan 73 = .ok (.aload_n 0, 1) := by decide +kernel
theorem dX8_plan_74 : decode cX8_plan 74 = .ok (.getfield 11, 3) := by decide +kernel
theorem dX8_plan_77 : decode cX8_plan 77 = .ok (.sipush 320, 3) := by decide +kernel
theorem dX8_plan_80 : decode cX8_plan 80 = .ok (.iload_n 3, 1) := by decide +kernel
theorem dX8_plan_81 : decode cX8_plan 81 = .ok (.iconst 1, 1) := by decide +kernel
theorem dX8_plan_82 : decode cX8_plan 82 = .ok (.iadd, 1) := by decide +kernel
theorem dX8_plan_83 : decode cX8_plan 83 = .ok (.iastore, 1) := by decide +kernel
theorem dX8_plan_84 : decode cX8_plan 84 = .ok (.iload_n 3, 1) := by decide +kernel
theorem dX8_plan_85 : decode cX8_plan 85 = .ok (.iconst 1, 1) := by decide +kernel
theorem dX8_plan_86 : decode cX8_plan 86 = .ok (.iadd, 1) := by decide +kernel
theorem dX8_plan_87 : decode cX8_plan 87 = .ok (.ireturn, 1) := by decide +kernel
theorem dX8_ends_0 : decode cX8_ends 0 = .ok (.aload_n 0, 1) := by decide +kernel
theorem dX8_ends_1 : decode cX8_ends 1 = .ok (.getfield 11, 3) := by decide +kernel
theorem dX8_ends_4 : decode cX8_ends 4 = .ok (.aload_n 0, 1) := by decide +kernel
theorem dX8_ends_5 : decode cX8_ends 5 = .ok (.getfield 15, 3) := by decide +kernel
theorem dX8_ends_8 : decode cX8_ends 8 = .ok (.invokestatic 224, 3) := by decide +kernel
theorem dX8_ends_11 : decode cX8_ends 11 = .ok (.iconst 0, 1) := by decide +kernel
theorem dX8_ends_12 : decode cX8_ends 12 = .ok (.istore_n 1, 1) := by decide +kernel
theorem dX8_ends_13 : decode cX8_ends 13 = .ok (.iload_n 1, 1) := by decide +kernel
theorem dX8_ends_14 : decode cX8_ends 14 = .ok (.aload_n 0, 1) := by decide +kernel
theorem dX8_ends_15 : decode cX8_ends 15 = .ok (.getfield 11, 3) := by decide +kernel
theorem dX8_ends_18 : decode cX8_ends 18 = .ok (.sipush 320, 3) := by decide +kernel
theorem dX8_ends_21 : decode cX8_ends 21 = .ok (.iaload, 1) := by decide +kernel
theorem dX8_ends_22 : decode cX8_ends 22 = .ok (.if_icmp .ge 99, 3) := by decide +kernel
theorem dX8_ends_25 : decode cX8_ends 25 = .ok (.aload_n 0, 1) := by decide +kernel
theorem dX8_ends_26 : decode cX8_ends 26 = .ok (.getfield 11, 3) := by decide +kernel
theorem dX8_ends_29 : decode cX8_ends 29 = .ok (.sipush 300, 3) := by decide +kernel
theorem dX8_ends_32 : decode cX8_ends 32 = .ok (.iconst 2, 1) := by decide +kernel
theorem dX8_ends_33 : decode cX8_ends 33 = .ok (.iload_n 1, 1) := by decide +kernel
theorem dX8_ends_34 : decode cX8_ends 34 = .ok (.imul, 1) := by decide +kernel
theorem dX8_ends_35 : decode cX8_ends 35 = .ok (.iadd, 1) := by decide +kernel
theorem dX8_ends_36 : decode cX8_ends 36 = .ok (.iaload, 1) := by decide +kernel
theorem dX8_ends_37 : decode cX8_ends 37 = .ok (.istore_n 2, 1) := by decide +kernel
theorem dX8_ends_38 : decode cX8_ends 38 = .ok (.aload_n 0, 1) := by decide +kernel
theorem dX8_ends_39 : decode cX8_ends 39 = .ok (.getfield 11, 3) := by decide +kernel
theorem dX8_ends_42 : decode cX8_ends 42 = .ok (.sipush 300, 3) := by decide +kernel
theorem dX8_ends_45 : decode cX8_ends 45 = .ok (.iconst 2, 1) := by decide +kernel
theorem dX8_ends_46 : decode cX8_ends 46 = .ok (.iload_n 1, 1) := by decide +kernel
theorem dX8_ends_47 : decode cX8_ends 47 = .ok (.imul, 1) := by decide +kernel
theorem dX8_ends_48 : decode cX8_ends 48 = .ok (.iadd, 1) := by decide +kernel
theorem dX8_ends_49 : decode cX8_ends 49 = .ok (.iconst 1, 1) := by decide +kernel
theorem dX8_ends_50 : decode cX8_ends 50 = .ok (.iadd, 1) := by decide +kernel
theorem dX8_ends_51 : decode cX8_ends 51 = .ok (.iaload, 1) := by decide +kernel
theorem dX8_ends_52 : decode cX8_ends 52 = .ok (.istore_n 3, 1) := by decide +kernel
theorem dX8_ends_53 : decode cX8_ends 53 = .ok (.iload_n 2, 1) := by decide +kernel
theorem dX8_ends_54 : decode cX8_ends 54 = .ok (.ifCond .ne 29, 3) := by decide +kernel
theorem dX8_ends_57 : decode cX8_ends 57 = .ok (.aload_n 0, 1) := by decide +kernel
theorem dX8_ends_58 : decode cX8_ends 58 = .ok (.getfield 15, 3) := by decide +kernel
theorem dX8_ends_61 : decode cX8_ends 61 = .ok (.sipush 140, 3) := by decide +kernel
theorem dX8_ends_64 : decode cX8_ends 64 = .ok (.bipush 6, 2) := by decide +kernel
theorem dX8_ends_66 : decode cX8_ends 66 = .ok (.iload_n 3, 1) := by decide +kernel
theorem dX8_ends_67 : decode cX8_ends 67 = .ok (.bipush 10, 2) := by decide +kernel
theorem dX8_ends_69 : decode cX8_ends 69 = .ok (.idiv, 1) := by decide +kernel
theorem dX8_ends_70 : decode cX8_ends 70 = .ok (.imul, 1) := by decide +kernel
theorem dX8_ends_71 : decode cX8_ends 71 = .ok (.iadd, 1) := by decide +kernel
theorem dX8_ends_72 : decode cX8_ends 72 = .ok (.iload_n 3, 1) := by decide +kernel
theorem dX8_ends_73 : decode cX8_ends 73 = .ok (.bipush 10, 2) := by decide +kernel
theorem dX8_ends_75 : decode cX8_ends 75 = .ok (.irem, 1) := by decide +kernel
theorem dX8_ends_76 : decode cX8_ends 76 = .ok (.iadd, 1) := by decide +kernel
theorem dX8_ends_77 : decode cX8_ends 77 = .ok (.bipush (-5), 2) := by decide +kernel
theorem dX8_ends_79 : decode cX8_ends 79 = .ok (.iastore, 1) := by decide +kernel
theorem dX8_ends_80 : decode cX8_ends 80 = .ok (.goto 35, 3) := by decide +kernel
theorem dX8_ends_83 : decode cX8_ends 83 = .ok (.aload_n 0, 1) := by decide +kernel
theorem dX8_ends_84 : decode cX8_ends 84 = .ok (.getfield 15, 3) := by decide +kernel
theorem dX8_ends_87 : decode cX8_ends 87 = .ok (.iload_n 2, 1) := by decide +kernel
theorem dX8_ends_88 : decode cX8_ends 88 = .ok (.iconst 1, 1) := by decide +kernel
theorem dX8_ends_89 : decode cX8_ends 89 = .ok (.if_icmp .ne 10, 3) := by decide +kernel
theorem dX8_ends_92 : decode cX8_ends 92 = .ok (.bipush 16, 2) := by decide +kernel
theorem dX8_ends_94 : decode cX8_ends 94 = .ok (.iload_n 3, 1) := by decide +kernel
theorem dX8_ends_95 : decode cX8_ends 95 = .ok (.iadd, 1) := by decide +kernel
theorem dX8_ends_96 : decode cX8_ends 96 = .ok (.goto 7, 3) := by decide +kernel
theorem dX8_ends_99 : decode cX8_ends 99 = .ok (.bipush 44, 2) := by decide +kernel
theorem dX8_ends_101 : decode cX8_ends 101 = .ok (.iload_n 3, 1) := by decide +kernel
theorem dX8_ends_102 : decode cX8_ends 102 = .ok (.iadd, 1) := by decide +kernel
theorem dX8_ends_103 : decode cX8_ends 103 = .ok (.iload_n 2, 1) := by decide +kernel
theorem dX8_ends_104 : decode cX8_ends 104 = .ok (.iconst 1, 1) := by decide +kernel
theorem dX8_ends_105 : decode cX8_ends 105 = .ok (.if_icmp .ne 8, 3) := by decide +kernel
theorem dX8_ends_108 : decode cX8_ends 108 = .ok (.bipush (-5), 2) := by decide +kernel
theorem dX8_ends_110 : decode cX8_ends 110 = .ok (.goto 4, 3) := by decide +kernel
theorem dX8_ends_113 : decode cX8_ends 113 = .ok (.iconst 0, 1) := by decide +kernel
theorem dX8_ends_114 : decode cX8_ends 114 = .ok (.iastore, 1) := by decide +kernel
theorem dX8_ends_115 : decode cX8_ends 115 = .ok (.iinc 1 1, 3) := by decide +kernel
theorem dX8_ends_118 : decode cX8_ends 118 = .ok (.goto (-105), 3) := by decide +kernel
theorem dX8_ends_121 : decode cX8_ends 121 = .ok (.aload_n 0, 1) := by decide +kernel
theorem dX8_ends_122 : decode cX8_ends 122 = .ok (.getfield 15, 3) := by decide +kernel
theorem dX8_ends_125 : decode cX8_ends 125 = .ok (.invokestatic 99, 3) := by decide +kernel
theorem dX8_ends_128 : decode cX8_ends 128 = .ok (.ireturn, 1) := by decide +kernel
theorem dX8_book_0 : decode cX8_book 0 = .ok (.iload_n 1, 1) := by decide +kernel
theorem dX8_book_1 : decode cX8_book 1 = .ok (.iconst (-1), 1) := by decide +kernel
theorem dX8_book_2 : decode cX8_book 2 = .ok (.if_icmp .ne 14, 3) := by decide +kernel
theorem dX8_book_5 : decode cX8_book 5 = .ok (.aload_n 0, 1) := by decide +kernel
theorem dX8_book_6 : decode cX8_book 6 = .ok (.getfield 11, 3) := by decide +kernel
theorem dX8_book_9 : decode cX8_book 9 = .ok (.sipush 345, 3) := by decide +kernel
theorem dX8_book_12 : decode cX8_book 12 = .ok (.iconst 0, 1) := by decide +kernel
theorem dX8_book_13 : decode cX8_book 13 = .ok (.iastore, 1) := by decide +kernel
theorem dX8_book_14 : decode cX8_book 14 = .ok (.iconst 0, 1) := by decide +kernel
theorem dX8_book_15 : decode cX8_book 15 = .ok (.ireturn, 1) := by decide +kernel
theorem dX8_book_16 : decode cX8_book 16 = .ok (.aload_n 0, 1) := by decide +kernel
theorem dX8_book_17 : decode cX8_book 17 = .ok (.iload_n 1, 1) := by decide +kernel
theorem dX8_book_18 : decode cX8_book 18 = .ok (.iload_n 2, 1) := by decide +kernel
theorem dX8_book_19 : decode cX8_book 19 = .ok (.invokevirtual 96, 3) := by decide +kernel
theorem dX8_book_22 : decode cX8_book 22 = .ok (.ifCond .eq 16, 3) := by decide +kernel
theorem dX8_book_25 : decode cX8_book 25 = .ok (.iload_n 3, 1) := by decide +kernel
theorem dX8_book_26 : decode cX8_book 26 = .ok (.iconst (-1), 1) := by decide +kernel
theorem dX8_book_27 : decode cX8_book 27 = .ok (.if_icmp .eq 13, 3) := by decide +kernel
theorem dX8_book_30 : decode cX8_book 30 = .ok (.aload_n 0, 1) := by decide +kernel
theorem dX8_book_31 : decode cX8_book 31 = .ok (.iload_n 3, 1) := by decide +kernel
theorem dX8_book_32 : decode cX8_book 32 = .ok (.invokevirtual 65, 3) := by decide +kernel
theorem dX8_book_35 : decode cX8_book 35 = .ok (.ifCond .ne 5, 3) := by decide +kernel
theorem dX8_book_38 : decode cX8_book 38 = .ok (.iconst (-1), 1) := by decide +kernel
theorem dX8_book_39 : decode cX8_book 39 = .ok (.ireturn, 1) := by decide +kernel
theorem dX8_book_40 : decode cX8_book 40 = .ok (.aload_n 0, 1) := by decide +kernel
theorem dX8_book_41 : decode cX8_book 41 = .ok (.getfield 11, 3) := by decide +kernel
theorem dX8_book_44 : decode cX8_book 44 = .ok (.sipush 345, 3) := by decide +kernel
theorem dX8_book_47 : decode cX8_book 47 = .ok (.iaload, 1) := by decide +kernel
theorem dX8_book_48 : decode cX8_book 48 = .ok (.istore 4, 2) := by decide +kernel
theorem dX8_book_50 : decode cX8_book 50 = .ok (.iload 4, 2) := by decide +kernel
theorem dX8_book_52 : decode cX8_book 52 = .ok (.bipush 8, 2) := by decide +kernel
theorem dX8_book_54 : decode cX8_book 54 = .ok (.if_icmp .ne 6, 3) := by decide +kernel
theorem dX8_book_57 : decode cX8_book 57 = .ok (.bipush (-4), 2) := by decide +kernel
theorem dX8_book_59 : decode cX8_book 59 = .ok (.ireturn, 1) := by decide +kernel
theorem dX8_book_60 : decode cX8_book 60 = .ok (.aload_n 0, 1) := by decide +kernel
theorem dX8_book_61 : decode cX8_book 61 = .ok (.getfield 11, 3) := by decide +kernel
theorem dX8_book_64 : decode cX8_book 64 = .ok (.sipush 321, 3) := by decide +kernel
theorem dX8_book_67 : decode cX8_book 67 = .ok (.iconst 3, 1) := by decide +kernel
theorem dX8_book_68 : decode cX8_book 68 = .ok (.iload 4, 2) := by decide +kernel
theorem dX8_book_70 : decode cX8_book 70 = .ok (.imul, 1) := by decide +kernel
theorem dX8_book_71 : decode cX8_book 71 = .ok (.iadd, 1) := by decide +kernel
theorem dX8_book_72 : decode cX8_book 72 = .ok (.iload_n 1, 1) := by decide +kernel
theorem dX8_book_73 : decode cX8_book 73 = .ok (.iastore, 1) := by decide +kernel
theorem dX8_book_74 : decode cX8_book 74 = .ok (.aload_n 0, 1) := by decide +kernel
theorem dX8_book_75 : decode cX8_book 75 = .ok (.getfield 11, 3) := by decide +kernel
theorem dX8_book_78 : decode cX8_book 78 = .ok (.sipush 321, 3) := by decide +kernel
theorem dX8_book_81 : decode cX8_book 81 = .ok (.iconst 3, 1) := by decide +kernel
theorem dX8_book_82 : decode cX8_book 82 = .ok (.iload 4, 2) := by decide +kernel
theorem dX8_book_84 : decode cX8_book 84 = .ok (.imul, 1) := by decide +kernel
theorem dX8_book_85 : decode cX8_book 85 = .ok (.iadd, 1) := by decide +kernel
theorem dX8_book_86 : decode cX8_book 86 = .ok (.iconst 1, 1) := by decide +kernel
theorem dX8_book_87 : decode cX8_book 87 = .ok (.iadd, 1) := by decide +kernel
theorem dX8_book_88 : decode cX8_book 88 = .ok (.iload_n 2, 1) := by decide +kernel
theorem dX8_book_89 : decode cX8_book 89 = .ok (.iastore, 1) := by decide +kernel
theorem dX8_book_90 : decode cX8_book 90 = .ok (.aload_n 0, 1) := by decide +kernel
theorem dX8_book_91 : decode cX8_book 91 = .ok (.getfield 11, 3) := by decide +kernel
theorem dX8_book_94 : decode cX8_book 94 = .ok (.sipush 321, 3) := by decide +kernel
theorem dX8_book_97 : decode cX8_book 97 = .ok (.iconst 3, 1) := by decide +kernel
theorem dX8_book_98 : decode cX8_book 98 = .ok (.iload 4, 2) := by decide +kernel
theorem dX8_book_100 : decode cX8_book 100 = .ok (.imul, 1) := by decide +kernel
theorem dX8_book_101 : decode cX8_book 101 = .ok (.iadd, 1) := by decide +kernel
theorem dX8_book_102 : decode cX8_book 102 = .ok (.iconst 2, 1) := by decide +kernel
theorem dX8_book_103 : decode cX8_book 103 = .ok (.iadd, 1) := by decide +kernel
theorem dX8_book_104 : decode cX8_book 104 = .ok (.iload_n 3, 1) := by decide +kernel
theorem dX8_book_105 : decode cX8_book 105 = .ok (.iconst (-1), 1) := by decide +kernel
theorem dX8_book_106 : decode cX8_book 106 = .ok (.if_icmp .ne 8, 3) := by decide +kernel
theorem dX8_book_109 : decode cX8_book 109 = .ok (.bipush (-5), 2) := by decide +kernel
theorem dX8_book_111 : decode cX8_book 111 = .ok (.goto 4, 3) := by decide +kernel
theorem dX8_book_114 : decode cX8_book 114 = .ok (.iload_n 3, 1) := by decide +kernel
theorem dX8_book_115 : decode cX8_book 115 = .ok (.iastore, 1) := by decide +kernel
theorem dX8_book_116 : decode cX8_book 116 = .ok (.aload_n 0, 1) := by decide +kernel
theorem dX8_book_117 : decode cX8_book 117 = .ok (.getfield 11, 3) := by decide +kernel
theorem dX8_book_120 : decode cX8_book 120 = .ok (.sipush 345, 3) := by decide +kernel
theorem dX8_book_123 : decode cX8_book 123 = .ok (.iload 4, 2) := by decide +kernel
theorem dX8_book_125 : decode cX8_book 125 = .ok (.iconst 1, 1) := by decide +kernel
theorem dX8_book_126 : decode cX8_book 126 = .ok (.iadd, 1) := by decide +kernel
theorem dX8_book_127 : decode cX8_book 127 = .ok (.iastore, 1) := by decide +kernel
theorem dX8_book_128 : decode cX8_book 128 = .ok (.iload 4, 2) := by decide +kernel
theorem dX8_book_130 : decode cX8_book 130 = .ok (.iconst 1, 1) := by decide +kernel
theorem dX8_book_131 : decode cX8_book 131 = .ok (.iadd, 1) := by decide +kernel
theorem dX8_book_132 : decode cX8_book 132 = .ok (.ireturn, 1) := by decide +kernel
theorem dX8_looked_0 : decode cX8_looked 0 = .ok (.iconst 0, 1) := by decide +kernel
theorem dX8_looked_1 : decode cX8_looked 1 = .ok (.istore_n 1, 1) := by decide +kernel
theorem dX8_looked_2 : decode cX8_looked 2 = .ok (.iload_n 1, 1) := by decide +kernel
theorem dX8_looked_3 : decode cX8_looked 3 = .ok (.aload_n 0, 1) := by decide +kernel
theorem dX8_looked_4 : decode cX8_looked 4 = .ok (.getfield 11, 3) := by decide +kernel
theorem dX8_looked_7 : decode cX8_looked 7 = .ok (.sipush 345, 3) := by decide +kernel
theorem dX8_looked_10 : decode cX8_looked 10 = .ok (.iaload, 1) := by decide +kernel
theorem dX8_looked_11 : decode cX8_looked 11 = .ok (.if_icmp .ge 77, 3) := by decide +kernel
theorem dX8_looked_14 : decode cX8_looked 14 = .ok (.aload_n 0, 1) := by decide +kernel
theorem dX8_looked_15 : decode cX8_looked 15 = .ok (.getfield 11, 3) := by decide +kernel
theorem dX8_looked_18 : decode cX8_looked 18 = .ok (.sipush 321, 3) := by decide +kernel
theorem dX8_looked_21 : decode cX8_looked 21 = .ok (.iconst 3, 1) := by decide +kernel
theorem dX8_looked_22 : decode cX8_looked 22 = .ok (.iload_n 1, 1) := by decide +kernel
theorem dX8_looked_23 : decode cX8_looked 23 = .ok (.imul, 1) := by decide +kernel
theorem dX8_looked_24 : decode cX8_looked 24 = .ok (.iadd, 1) := by decide +kernel
theorem dX8_looked_25 : decode cX8_looked 25 = .ok (.iaload, 1) := by decide +kernel
theorem dX8_looked_26 : decode cX8_looked 26 = .ok (.istore_n 2, 1) := by decide +kernel
theorem dX8_looked_27 : decode cX8_looked 27 = .ok (.aload_n 0, 1) := by decide +kernel
theorem dX8_looked_28 : decode cX8_looked 28 = .ok (.iload_n 2, 1) := by decide +kernel
theorem dX8_looked_29 : decode cX8_looked 29 = .ok (.invokevirtual 65, 3) := by decide +kernel
theorem dX8_looked_32 : decode cX8_looked 32 = .ok (.ifCond .eq 48, 3) := by decide +kernel
theorem dX8_looked_35 : decode cX8_looked 35 = .ok (.aload_n 0, 1) := by decide +kernel
theorem dX8_looked_36 : decode cX8_looked 36 = .ok (.getfield 11, 3) := by decide +kernel
theorem dX8_looked_39 : decode cX8_looked 39 = .ok (.sipush 140, 3) := by decide +kernel
theorem dX8_looked_42 : decode cX8_looked 42 = .ok (.bipush 6, 2) := by decide +kernel
theorem dX8_looked_44 : decode cX8_looked 44 = .ok (.iload_n 2, 1) := by decide +kernel
theorem dX8_looked_45 : decode cX8_looked 45 = .ok (.imul, 1) := by decide +kernel
theorem dX8_looked_46 : decode cX8_looked 46 = .ok (.iadd, 1) := by decide +kernel
theorem dX8_looked_47 : decode cX8_looked 47 = .ok (.aload_n 0, 1) := by decide +kernel
theorem dX8_looked_48 : decode cX8_looked 48 = .ok (.getfield 11, 3) := by decide +kernel
theorem dX8_looked_51 : decode cX8_looked 51 = .ok (.sipush 321, 3) := by decide +kernel
theorem dX8_looked_54 : decode cX8_looked 54 = .ok (.iconst 3, 1) := by decide +kernel
theorem dX8_looked_55 : decode cX8_looked 55 = .ok (.iload_n 1, 1) := by decide +kernel
theorem dX8_looked_56 : decode cX8_looked 56 = .ok (.imul, 1) := by decide +kernel
theorem dX8_looked_57 : decode cX8_looked 57 = .ok (.iadd, 1) := by decide +kernel
theorem dX8_looked_58 : decode cX8_looked 58 = .ok (.iconst 1, 1) := by decide +kernel
theorem dX8_looked_59 : decode cX8_looked 59 = .ok (.iadd, 1) := by decide +kernel
theorem dX8_looked_60 : decode cX8_looked 60 = .ok (.iaload, 1) := by decide +kernel
theorem dX8_looked_61 : decode cX8_looked 61 = .ok (.iadd, 1) := by decide +kernel
theorem dX8_looked_62 : decode cX8_looked 62 = .ok (.iaload, 1) := by decide +kernel
theorem dX8_looked_63 : decode cX8_looked 63 = .ok (.aload_n 0, 1) := by decide +kernel
theorem dX8_looked_64 : decode cX8_looked 64 = .ok (.getfield 11, 3) := by decide +kernel
theorem dX8_looked_67 : decode cX8_looked 67 = .ok (.sipush 321, 3) := by decide +kernel
theorem dX8_looked_70 : decode cX8_looked 70 = .ok (.iconst 3, 1) := by decide +kernel
theorem dX8_looked_71 : decode cX8_looked 71 = .ok (.iload_n 1, 1) := by decide +kernel
theorem dX8_looked_72 : decode cX8_looked 72 = .ok (.imul, 1) := by decide +kernel
theorem dX8_looked_73 : decode cX8_looked 73 = .ok (.iadd, 1) := by decide +kernel
theorem dX8_looked_74 : decode cX8_looked 74 = .ok (.iconst 2, 1) := by decide +kernel
theorem dX8_looked_75 : decode cX8_looked 75 = .ok (.iadd, 1) := by decide +kernel
theorem dX8_looked_76 : decode cX8_looked 76 = .ok (.iaload, 1) := by decide +kernel
theorem dX8_looked_77 : decode cX8_looked 77 = .ok (.if_icmp .eq 5, 3) := by decide +kernel
theorem dX8_looked_80 : decode cX8_looked 80 = .ok (.iload_n 1, 1) := by decide +kernel
theorem dX8_looked_81 : decode cX8_looked 81 = .ok (.ireturn, 1) := by decide +kernel
theorem dX8_looked_82 : decode cX8_looked 82 = .ok (.iinc 1 1, 3) := by decide +kernel
theorem dX8_looked_85 : decode cX8_looked 85 = .ok (.goto (-83), 3) := by decide +kernel
theorem dX8_looked_88 : decode cX8_looked 88 = .ok (.bipush (-5), 2) := by decide +kernel
theorem dX8_looked_90 : decode cX8_looked 90 = .ok (.ireturn, 1) := by decide +kernel
theorem dX8_judge_0 : decode cX8_judge 0 = .ok (.iload_n 1, 1) := by decide +kernel
theorem dX8_judge_1 : decode cX8_judge 1 = .ok (.i2l, 1) := by decide +kernel
theorem dX8_judge_2 : decode cX8_judge 2 = .ok (.lconst 0, 1) := by decide +kernel
theorem dX8_judge_3 : decode cX8_judge 3 = .ok (.ldc2_w 263, 3) := by decide +kernel
theorem dX8_judge_6 : decode cX8_judge 6 = .ok (.invokestatic 57, 3) := by decide +kernel
theorem dX8_judge_9 : decode cX8_judge 9 = .ok (.ifCond .ne 5, 3) := by decide +kernel
theorem dX8_judge_12 : decode cX8_judge 12 = .ok (.iconst (-1), 1) := by decide +kernel
theorem dX8_judge_13 : decode cX8_judge 13 = .ok (.ireturn, 1) := by decide +kernel
theorem dX8_judge_14 : decode cX8_judge 14 = .ok (.aload_n 0, 1) := by decide +kernel
theorem dX8_judge_15 : decode cX8_judge 15 = .ok (.getfield 45, 3) := by decide +kernel
theorem dX8_judge_18 : decode cX8_judge 18 = .ok (.iload_n 1, 1) := by decide +kernel
theorem dX8_judge_19 : decode cX8_judge 19 = .ok (.iaload, 1) := by decide +kernel
theorem dX8_judge_20 : decode cX8_judge 20 = .ok (.iconst (-1), 1) := by decide +kernel
theorem dX8_judge_21 : decode cX8_judge 21 = .ok (.if_icmp .eq 16, 3) := by decide +kernel
theorem dX8_judge_24 : decode cX8_judge 24 = .ok (.aload_n 0, 1) := by decide +kernel
theorem dX8_judge_25 : decode cX8_judge 25 = .ok (.getfield 45, 3) := by decide +kernel
theorem dX8_judge_28 : decode cX8_judge 28 = .ok (.iload_n 1, 1) := by decide +kernel
theorem dX8_judge_29 : decode cX8_judge 29 = .ok (.iaload, 1) := by decide +kernel
theorem dX8_judge_30 : decode cX8_judge 30 = .ok (.iconst 4, 1) := by decide +kernel
theorem dX8_judge_31 : decode cX8_judge 31 = .ok (.if_icmp .eq 6, 3) := by decide +kernel
theorem dX8_judge_34 : decode cX8_judge 34 = .ok (.bipush (-12), 2) := by decide +kernel
theorem dX8_judge_36 : decode cX8_judge 36 = .ok (.ireturn, 1) := by decide +kernel
theorem dX8_judge_37 : decode cX8_judge 37 = .ok (.iconst 0, 1) := by decide +kernel
theorem dX8_judge_38 : decode cX8_judge 38 = .ok (.istore_n 3, 1) := by decide +kernel
theorem dX8_judge_39 : decode cX8_judge 39 = .ok (.iload_n 3, 1) := by decide +kernel
theorem dX8_judge_40 : decode cX8_judge 40 = .ok (.aload_n 0, 1) := by decide +kernel
theorem dX8_judge_41 : decode cX8_judge 41 = .ok (.getfield 11, 3) := by decide +kernel
theorem dX8_judge_44 : decode cX8_judge 44 = .ok (.iconst 0, 1) := by decide +kernel
theorem dX8_judge_45 : decode cX8_judge 45 = .ok (.iaload, 1) := by decide +kernel
theorem dX8_judge_46 : decode cX8_judge 46 = .ok (.if_icmp .ge 78, 3) := by decide +kernel
theorem dX8_judge_49 : decode cX8_judge 49 = .ok (.aload_n 0, 1) := by decide +kernel
theorem dX8_judge_50 : decode cX8_judge 50 = .ok (.getfield 45, 3) := by decide +kernel
theorem dX8_judge_53 : decode cX8_judge 53 = .ok (.iload_n 1, 1) := by decide +kernel
theorem dX8_judge_54 : decode cX8_judge 54 = .ok (.iaload, 1) := by decide +kernel
theorem dX8_judge_55 : decode cX8_judge 55 = .ok (.iconst (-1), 1) := by decide +kernel
theorem dX8_judge_56 : decode cX8_judge 56 = .ok (.if_icmp .eq 19, 3) := by decide +kernel
theorem dX8_judge_59 : decode cX8_judge 59 = .ok (.iload_n 2, 1) := by decide +kernel
theorem dX8_judge_60 : decode cX8_judge 60 = .ok (.ifCond .lt 15, 3) := by decide +kernel
theorem dX8_judge_63 : decode cX8_judge 63 = .ok (.iload_n 3, 1) := by decide +kernel
theorem dX8_judge_64 : decode cX8_judge 64 = .ok (.aload_n 0, 1) := by decide +kernel
theorem dX8_judge_65 : decode cX8_judge 65 = .ok (.getfield 48, 3) := by decide +kernel
theorem dX8_judge_68 : decode cX8_judge 68 = .ok (.iload_n 1, 1) := by decide +kernel
theorem dX8_judge_69 : decode cX8_judge 69 = .ok (.iaload, 1) := by decide +kernel
theorem dX8_judge_70 : decode cX8_judge 70 = .ok (.iload_n 2, 1) := by decide +kernel
theorem dX8_judge_71 : decode cX8_judge 71 = .ok (.isub, 1) := by decide +kernel
theorem dX8_judge_72 : decode cX8_judge 72 = .ok (.if_icmp .lt 8, 3) := by decide +kernel
theorem dX8_judge_75 : decode cX8_judge 75 = .ok (.bipush 100, 2) := by decide +kernel
theorem dX8_judge_77 : decode cX8_judge 77 = .ok (.iload_n 3, 1) := by decide +kernel
theorem dX8_judge_78 : decode cX8_judge 78 = .ok (.iadd, 1) := by decide +kernel
theorem dX8_judge_79 : decode cX8_judge 79 = .ok (.ireturn, 1) := by decide +kernel
theorem dX8_judge_80 : decode cX8_judge 80 = .ok (.aload_n 0, 1) := by decide +kernel
theorem dX8_judge_81 : decode cX8_judge 81 = .ok (.getfield 51, 3) := by decide +kernel
theorem dX8_judge_84 : decode cX8_judge 84 = .ok (.bipush 60, 2) := by decide +kernel
theorem dX8_judge_86 : decode cX8_judge 86 = .ok (.iload_n 1, 1) := by decide +kernel
theorem dX8_judge_87 : decode cX8_judge 87 = .ok (.imul, 1) := by decide +kernel
theorem dX8_judge_88 : decode cX8_judge 88 = .ok (.iload_n 2, 1) := by decide +kernel
theorem dX8_judge_89 : decode cX8_judge 89 = .ok (.iadd, 1) := by decide +kernel
theorem dX8_judge_90 : decode cX8_judge 90 = .ok (.iload_n 3, 1) := by decide +kernel
theorem dX8_judge_91 : decode cX8_judge 91 = .ok (.iadd, 1) := by decide +kernel
theorem dX8_judge_92 : decode cX8_judge 92 = .ok (.laload, 1) := by decide +kernel
theorem dX8_judge_93 : decode cX8_judge 93 = .ok (.aload_n 0, 1) := by decide +kernel
theorem dX8_judge_94 : decode cX8_judge 94 = .ok (.getfield 11, 3) := by decide +kernel
theorem dX8_judge_97 : decode cX8_judge 97 = .ok (.bipush 12, 2) := by decide +kernel
theorem dX8_judge_99 : decode cX8_judge 99 = .ok (.iaload, 1) := by decide +kernel
theorem dX8_judge_100 : decode cX8_judge 100 = .ok (.iload_n 3, 1) := by decide +kernel
theorem dX8_judge_101 : decode cX8_judge 101 = .ok (.invokestatic 61, 3) := by decide +kernel
theorem dX8_judge_104 : decode cX8_judge 104 = .ok (.ifCond .eq 7, 3) := by decide +kernel
theorem dX8_judge_107 : decode cX8_judge 107 = .ok (.lconst 1, 1) := by decide +kernel
theorem dX8_judge_108 : decode cX8_judge 108 = .ok (.goto 4, 3) := by decide +kernel
theorem dX8_judge_111 : decode cX8_judge 111 = .ok (.lconst 0, 1) := by decide +kernel
theorem dX8_judge_112 : decode cX8_judge 112 = .ok (.lcmp, 1) := by decide +kernel
theorem dX8_judge_113 : decode cX8_judge 113 = .ok (.ifCond .eq 5, 3) := by decide +kernel
theorem dX8_judge_116 : decode cX8_judge 116 = .ok (.iload_n 3, 1) := by decide +kernel
theorem dX8_judge_117 : decode cX8_judge 117 = .ok (.ireturn, 1) := by decide +kernel
theorem dX8_judge_118 : decode cX8_judge 118 = .ok (.iinc 3 1, 3) := by decide +kernel
theorem dX8_judge_121 : decode cX8_judge 121 = .ok (.goto (-82), 3) := by decide +kernel
theorem dX8_judge_124 : decode cX8_judge 124 = .ok (.bipush (-5), 2) := by decide +kernel
theorem dX8_judge_126 : decode cX8_judge 126 = .ok (.ireturn, 1) := by decide +kernel
theorem dX8_image_0 : decode cX8_image 0 = .ok (.aload_n 0, 1) := by decide +kernel
theorem dX8_image_1 : decode cX8_image 1 = .ok (.getfield 11, 3) := by decide +kernel
theorem dX8_image_4 : decode cX8_image 4 = .ok (.aload_n 0, 1) := by decide +kernel
theorem dX8_image_5 : decode cX8_image 5 = .ok (.getfield 18, 3) := by decide +kernel
theorem dX8_image_8 : decode cX8_image 8 = .ok (.invokestatic 224, 3) := by decide +kernel
theorem dX8_image_11 : decode cX8_image 11 = .ok (.aload_n 0, 1) := by decide +kernel
theorem dX8_image_12 : decode cX8_image 12 = .ok (.iconst 1, 1) := by decide +kernel
theorem dX8_image_13 : decode cX8_image 13 = .ok (.putfield 265, 3) := by decide +kernel
theorem dX8_image_16 : decode cX8_image 16 = .ok (.aload_n 0, 1) := by decide +kernel
theorem dX8_image_17 : decode cX8_image 17 = .ok (.invokevirtual 215, 3) := by decide +kernel
theorem dX8_image_20 : decode cX8_image 20 = .ok (.ireturn, 1) := by decide +kernel
theorem dX8_undo_0 : decode cX8_undo 0 = .ok (.aload_n 0, 1) := by decide +kernel
theorem dX8_undo_1 : decode cX8_undo 1 = .ok (.getfield 265, 3) := by decide +kernel
theorem dX8_undo_4 : decode cX8_undo 4 = .ok (.ifCond .ne 6, 3) := by decide +kernel
theorem dX8_undo_7 : decode cX8_undo 7 = .ok (.bipush (-3), 2) := by decide +kernel
theorem dX8_undo_9 : decode cX8_undo 9 = .ok (.ireturn, 1) := by decide +kernel
theorem dX8_undo_10 : decode cX8_undo 10 = .ok (.aload_n 0, 1) := by decide +kernel
theorem dX8_undo_11 : decode cX8_undo 11 = .ok (.getfield 18, 3) := by decide +kernel
theorem dX8_undo_14 : decode cX8_undo 14 = .ok (.aload_n 0, 1) := by decide +kernel
theorem dX8_undo_15 : decode cX8_undo 15 = .ok (.getfield 11, 3) := by decide +kernel
theorem dX8_undo_18 : decode cX8_undo 18 = .ok (.invokestatic 224, 3) := by decide +kernel
theorem dX8_undo_21 : decode cX8_undo 21 = .ok (.aload_n 0, 1) := by decide +kernel
theorem dX8_undo_22 : decode cX8_undo 22 = .ok (.invokevirtual 215, 3) := by decide +kernel
theorem dX8_undo_25 : decode cX8_undo 25 = .ok (.ireturn, 1) := by decide +kernel
theorem dX8_taken_0 : decode cX8_taken 0 = .ok (.iload_n 2, 1) := by decide +kernel
theorem dX8_taken_1 : decode cX8_taken 1 = .ok (.i2l, 1) := by decide +kernel
theorem dX8_taken_2 : decode cX8_taken 2 = .ok (.lconst 0, 1) := by decide +kernel
theorem dX8_taken_3 : decode cX8_taken 3 = .ok (.ldc2_w 69, 3) := by decide +kernel
theorem dX8_taken_6 : decode cX8_taken 6 = .ok (.invokestatic 57, 3) := by decide +kernel
theorem dX8_taken_9 : decode cX8_taken 9 = .ok (.ifCond .ne 6, 3) := by decide +kernel
theorem dX8_taken_12 : decode cX8_taken 12 = .ok (.bipush (-2), 2) := by decide +kernel
theorem dX8_taken_14 : decode cX8_taken 14 = .ok (.ireturn, 1) := by decide +kernel
theorem dX8_taken_15 : decode cX8_taken 15 = .ok (.aload_n 0, 1) := by decide +kernel
theorem dX8_taken_16 : decode cX8_taken 16 = .ok (.iload_n 1, 1) := by decide +kernel
theorem dX8_taken_17 : decode cX8_taken 17 = .ok (.invokevirtual 65, 3) := by decide +kernel
theorem dX8_taken_20 : decode cX8_taken 20 = .ok (.ifCond .ne 6, 3) := by decide +kernel
theorem dX8_taken_23 : decode cX8_taken 23 = .ok (.bipush (-11), 2) := by decide +kernel
theorem dX8_taken_25 : decode cX8_taken 25 = .ok (.ireturn, 1) := by decide +kernel
theorem dX8_taken_26 : decode cX8_taken 26 = .ok (.aload_n 0, 1) := by decide +kernel
theorem dX8_taken_27 : decode cX8_taken 27 = .ok (.getfield 11, 3) := by decide +kernel
theorem dX8_taken_30 : decode cX8_taken 30 = .ok (.bipush 20, 2) := by decide +kernel
theorem dX8_taken_32 : decode cX8_taken 32 = .ok (.iload_n 1, 1) := by decide +kernel
theorem dX8_taken_33 : decode cX8_taken 33 = .ok (.iadd, 1) := by decide +kernel
theorem dX8_taken_34 : decode cX8_taken 34 = .ok (.iaload, 1) := by decide +kernel
theorem dX8_taken_35 : decode cX8_taken 35 = .ok (.istore_n 3, 1) := by decide +kernel
theorem dX8_taken_36 : decode cX8_taken 36 = .ok (.iload_n 2, 1) := by decide +kernel
theorem dX8_taken_37 : decode cX8_taken 37 = .ok (.ifCond .eq 39, 3) := by decide +kernel
theorem dX8_taken_40 : decode cX8_taken 40 = .ok (.iload_n 2, 1) := by decide +kernel
theorem dX8_taken_41 : decode cX8_taken 41 = .ok (.iload_n 3, 1) := by decide +kernel
theorem dX8_taken_42 : decode cX8_taken 42 = .ok (.if_icmp .eq 34, 3) := by decide +kernel
theorem dX8_taken_45 : decode cX8_taken 45 = .ok (.iload_n 2, 1) := by decide +kernel
theorem dX8_taken_46 : decode cX8_taken 46 = .ok (.iconst 3, 1) := by decide +kernel
theorem dX8_taken_47 : decode cX8_taken 47 = .ok (.if_icmp .ne 8, 3) := by decide +kernel
theorem dX8_taken_50 : decode cX8_taken 50 = .ok (.iload_n 3, 1) := by decide +kernel
theorem dX8_taken_51 : decode cX8_taken 51 = .ok (.iconst 4, 1) := by decide +kernel
theorem dX8_taken_52 : decode cX8_taken 52 = .ok (.if_icmp .eq 24, 3) := by decide +kernel
theorem dX8_taken_55 : decode cX8_taken 55 = .ok (.iload_n 2, 1) := by decide +kernel
theorem dX8_taken_56 : decode cX8_taken 56 = .ok (.iconst 2, 1) := by decide +kernel
theorem dX8_taken_57 : decode cX8_taken 57 = .ok (.if_icmp .ne 8, 3) := by decide +kernel
theorem dX8_taken_60 : decode cX8_taken 60 = .ok (.iload_n 3, 1) := by decide +kernel
theorem dX8_taken_61 : decode cX8_taken 61 = .ok (.iconst 5, 1) := by decide +kernel
theorem dX8_taken_62 : decode cX8_taken 62 = .ok (.if_icmp .eq 14, 3) := by decide +kernel
theorem dX8_taken_65 : decode cX8_taken 65 = .ok (.iload_n 2, 1) := by decide +kernel
theorem dX8_taken_66 : decode cX8_taken 66 = .ok (.iconst 1, 1) := by decide +kernel
theorem dX8_taken_67 : decode cX8_taken 67 = .ok (.if_icmp .ne 13, 3) := by decide +kernel
theorem dX8_taken_70 : decode cX8_taken 70 = .ok (.iload_n 3, 1) := by decide +kernel
theorem dX8_taken_71 : decode cX8_taken 71 = .ok (.bipush 6, 2) := by decide +kernel
theorem dX8_taken_73 : decode cX8_taken 73 = .ok (.if_icmp .ne 7, 3) := by decide +kernel
theorem dX8_taken_76 : decode cX8_taken 76 = .ok (.iconst 1, 1) := by decide +kernel
theorem dX8_taken_77 : decode cX8_taken 77 = .ok (.goto 4, 3) := by decide +kernel
theorem dX8_taken_80 : decode cX8_taken 80 = .ok (.iconst 0, 1) := by decide +kernel
theorem dX8_taken_81 : decode cX8_taken 81 = .ok (.istore 4, 2) := by decide +kernel
theorem dX8_taken_83 : decode cX8_taken 83 = .ok (.iload 4, 2) := by decide +kernel
theorem dX8_taken_85 : decode cX8_taken 85 = .ok (.ifCond .eq 7, 3) := by decide +kernel
theorem dX8_taken_88 : decode cX8_taken 88 = .ok (.iload_n 3, 1) := by decide +kernel
theorem dX8_taken_89 : decode cX8_taken 89 = .ok (.goto 5, 3) := by decide +kernel
theorem dX8_taken_92 : decode cX8_taken 92 = .ok (.bipush (-12), 2) := by decide +kernel
theorem dX8_taken_94 : decode cX8_taken 94 = .ok (.ireturn, 1) := by decide +kernel
theorem dX8_count_0 : decode cX8_count 0 = .ok (.iload_n 1, 1) := by decide +kernel
theorem dX8_count_1 : decode cX8_count 1 = .ok (.tableswitch 74 0 4 #[35, 42, 51, 60, 69], 35) := by decide +kernel
theorem dX8_count_36 : decode cX8_count 36 = .ok (.aload_n 0, 1) := by decide +kernel
theorem dX8_count_37 : decode cX8_count 37 = .ok (.getfield 11, 3) := by decide +kernel
theorem dX8_count_40 : decode cX8_count 40 = .ok (.iconst 0, 1) := by decide +kernel
theorem dX8_count_41 : decode cX8_count 41 = .ok (.iaload, 1) := by decide +kernel
theorem dX8_count_42 : decode cX8_count 42 = .ok (.ireturn, 1) := by decide +kernel
theorem dX8_count_43 : decode cX8_count 43 = .ok (.aload_n 0, 1) := by decide +kernel
theorem dX8_count_44 : decode cX8_count 44 = .ok (.getfield 11, 3) := by decide +kernel
theorem dX8_count_47 : decode cX8_count 47 = .ok (.sipush 299, 3) := by decide +kernel
theorem dX8_count_50 : decode cX8_count 50 = .ok (.iaload, 1) := by decide +kernel
theorem dX8_count_51 : decode cX8_count 51 = .ok (.ireturn, 1) := by decide +kernel
theorem dX8_count_52 : decode cX8_count 52 = .ok (.aload_n 0, 1) := by decide +kernel
theorem dX8_count_53 : decode cX8_count 53 = .ok (.getfield 11, 3) := by decide +kernel
theorem dX8_count_56 : decode cX8_count 56 = .ok (.sipush 320, 3) := by decide +kernel
theorem dX8_count_59 : decode cX8_count 59 = .ok (.iaload, 1) := by decide +kernel
theorem dX8_count_60 : decode cX8_count 60 = .ok (.ireturn, 1) := by decide +kernel
theorem dX8_count_61 : decode cX8_count 61 = .ok (.aload_n 0, 1) := by decide +kernel
theorem dX8_count_62 : decode cX8_count 62 = .ok (.getfield 11, 3) := by decide +kernel
theorem dX8_count_65 : decode cX8_count 65 = .ok (.sipush 345, 3) := by decide +kernel
theorem dX8_count_68 : decode cX8_count 68 = .ok (.iaload, 1) := by decide +kernel
theorem dX8_count_69 : decode cX8_count 69 = .ok (.ireturn, 1) := by decide +kernel
theorem dX8_count_70 : decode cX8_count 70 = .ok (.aload_n 0, 1) := by decide +kernel
theorem dX8_count_71 : decode cX8_count 71 = .ok (.getfield 139, 3) := by decide +kernel
theorem dX8_count_74 : decode cX8_count 74 = .ok (.ireturn, 1) := by decide +kernel
theorem dX8_count_75 : decode cX8_count 75 = .ok (.bipush (-2), 2) := by decide +kernel
theorem dX8_count_77 : decode cX8_count 77 = .ok (.ireturn, 1) := by decide +kernel
theorem dX8_tape_0 : decode cX8_tape 0 = .ok (.iload_n 1, 1) := by decide +kernel
theorem dX8_tape_1 : decode cX8_tape 1 = .ok (.i2l, 1) := by decide +kernel
theorem dX8_tape_2 : decode cX8_tape 2 = .ok (.lconst 0, 1) := by decide +kernel
theorem dX8_tape_3 : decode cX8_tape 3 = .ok (.ldc2_w 263, 3) := by decide +kernel
theorem dX8_tape_6 : decode cX8_tape 6 = .ok (.invokestatic 57, 3) := by decide +kernel
theorem dX8_tape_9 : decode cX8_tape 9 = .ok (.ifCond .ne 5, 3) := by decide +kernel
theorem dX8_tape_12 : decode cX8_tape 12 = .ok (.iconst (-1), 1) := by decide +kernel
theorem dX8_tape_13 : decode cX8_tape 13 = .ok (.ireturn, 1) := by decide +kernel
theorem dX8_tape_14 : decode cX8_tape 14 = .ok (.iload_n 2, 1) := by decide +kernel
theorem dX8_tape_15 : decode cX8_tape 15 = .ok (.i2l, 1) := by decide +kernel
theorem dX8_tape_16 : decode cX8_tape 16 = .ok (.ldc2_w 268, 3) := by decide +kernel
theorem dX8_tape_19 : decode cX8_tape 19 = .ok (.ldc2_w 241, 3) := by decide +kernel
theorem dX8_tape_22 : decode cX8_tape 22 = .ok (.invokestatic 57, 3) := by decide +kernel
theorem dX8_tape_25 : decode cX8_tape 25 = .ok (.ifCond .eq 14, 3) := by decide +kernel
theorem dX8_tape_28 : decode cX8_tape 28 = .ok (.iload_n 2, 1) := by decide +kernel
theorem dX8_tape_29 : decode cX8_tape 29 = .ok (.iconst (-1), 1) := by decide +kernel
theorem dX8_tape_30 : decode cX8_tape 30 = .ok (.if_icmp .eq 12, 3) := by decide +kernel
theorem dX8_tape_33 : decode cX8_tape 33 = .ok (.iload_n 3, 1) := by decide +kernel
theorem dX8_tape_34 : decode cX8_tape 34 = .ok (.bipush 60, 2) := by decide +kernel
theorem dX8_tape_36 : decode cX8_tape 36 = .ok (.if_icmp .le 6, 3) := by decide +kernel
theorem dX8_tape_39 : decode cX8_tape 39 = .ok (.bipush (-2), 2) := by decide +kernel
theorem dX8_tape_41 : decode cX8_tape 41 = .ok (.ireturn, 1) := by decide +kernel
theorem dX8_tape_42 : decode cX8_tape 42 = .ok (.iload_n 2, 1) := by decide +kernel
theorem dX8_tape_43 : decode cX8_tape 43 = .ok (.iconst (-1), 1) := by decide +kernel
theorem dX8_tape_44 : decode cX8_tape 44 = .ok (.if_icmp .eq 10, 3) := by decide +kernel
theorem dX8_tape_47 : decode cX8_tape 47 = .ok (.iload_n 3, 1) := by decide +kernel
theorem dX8_tape_48 : decode cX8_tape 48 = .ok (.ifCond .ge 6, 3) := by decide +kernel
theorem dX8_tape_51 : decode cX8_tape 51 = .ok (.bipush (-14), 2) := by decide +kernel
theorem dX8_tape_53 : decode cX8_tape 53 = .ok (.ireturn, 1) := by decide +kernel
theorem dX8_tape_54 : decode cX8_tape 54 = .ok (.aload_n 0, 1) := by decide +kernel
theorem dX8_tape_55 : decode cX8_tape 55 = .ok (.getfield 45, 3) := by decide +kernel
theorem dX8_tape_58 : decode cX8_tape 58 = .ok (.iload_n 1, 1) := by decide +kernel
theorem dX8_tape_59 : decode cX8_tape 59 = .ok (.iload_n 2, 1) := by decide +kernel
theorem dX8_tape_60 : decode cX8_tape 60 = .ok (.iastore, 1) := by decide +kernel
theorem dX8_tape_61 : decode cX8_tape 61 = .ok (.aload_n 0, 1) := by decide +kernel
theorem dX8_tape_62 : decode cX8_tape 62 = .ok (.getfield 48, 3) := by decide +kernel
theorem dX8_tape_65 : decode cX8_tape 65 = .ok (.iload_n 1, 1) := by decide +kernel
theorem dX8_tape_66 : decode cX8_tape 66 = .ok (.iload_n 2, 1) := by decide +kernel
theorem dX8_tape_67 : decode cX8_tape 67 = .ok (.iconst (-1), 1) := by decide +kernel
theorem dX8_tape_68 : decode cX8_tape 68 = .ok (.if_icmp .ne 7, 3) := by decide +kernel
theorem dX8_tape_71 : decode cX8_tape 71 = .ok (.iconst 0, 1) := by decide +kernel
theorem dX8_tape_72 : decode cX8_tape 72 = .ok (.goto 4, 3) := by decide +kernel
theorem dX8_tape_75 : decode cX8_tape 75 = .ok (.iload_n 3, 1) := by decide +kernel
theorem dX8_tape_76 : decode cX8_tape 76 = .ok (.iastore, 1) := by decide +kernel
theorem dX8_tape_77 : decode cX8_tape 77 = .ok (.iconst 0, 1) := by decide +kernel
theorem dX8_tape_78 : decode cX8_tape 78 = .ok (.istore 4, 2) := by decide +kernel
theorem dX8_tape_80 : decode cX8_tape 80 = .ok (.iload 4, 2) := by decide +kernel
theorem dX8_tape_82 : decode cX8_tape 82 = .ok (.bipush 60, 2) := by decide +kernel
theorem dX8_tape_84 : decode cX8_tape 84 = .ok (.if_icmp .ge 22, 3) := by decide +kernel
theorem dX8_tape_87 : decode cX8_tape 87 = .ok (.aload_n 0, 1) := by decide +kernel
theorem dX8_tape_88 : decode cX8_tape 88 = .ok (.getfield 51, 3) := by decide +kernel
theorem dX8_tape_91 : decode cX8_tape 91 = .ok (.bipush 60, 2) := by decide +kernel
theorem dX8_tape_93 : decode cX8_tape 93 = .ok (.iload_n 1, 1) := by decide +kernel
theorem dX8_tape_94 : decode cX8_tape 94 = .ok (.imul, 1) := by decide +kernel
theorem dX8_tape_95 : decode cX8_tape 95 = .ok (.iload 4, 2) := by decide +kernel
theorem dX8_tape_97 : decode cX8_tape 97 = .ok (.iadd, 1) := by decide +kernel
theorem dX8_tape_98 : decode cX8_tape 98 = .ok (.lconst 0, 1) := by decide +kernel
theorem dX8_tape_99 : decode cX8_tape 99 = .ok (.lastore, 1) := by decide +kernel
theorem dX8_tape_100 : decode cX8_tape 100 = .ok (.iinc 4 1, 3) := by decide +kernel
theorem dX8_tape_103 : decode cX8_tape 103 = .ok (.goto (-23), 3) := by decide +kernel
theorem dX8_tape_106 : decode cX8_tape 106 = .ok (.iconst 1, 1) := by decide +kernel
theorem dX8_tape_107 : decode cX8_tape 107 = .ok (.ireturn, 1) := by decide +kernel
theorem dX8_lowestBits_0 : decode cX8_lowestBits 0 = .ok (.iload_n 0, 1) := by decide +kernel
theorem dX8_lowestBits_1 : decode cX8_lowestBits 1 = .ok (.tableswitch 47 0 3 #[31, 36, 41, 45], 31) := by decide +kernel
theorem dX8_lowestBits_32 : decode cX8_lowestBits 32 = .ok (.lload_n 1, 1) := by decide +kernel
theorem dX8_lowestBits_33 : decode cX8_lowestBits 33 = .ok (.l2i, 1) := by decide +kernel
theorem dX8_lowestBits_34 : decode cX8_lowestBits 34 = .ok (.i2b, 1) := by decide +kernel
theorem dX8_lowestBits_35 : decode cX8_lowestBits 35 = .ok (.i2l, 1) := by decide +kernel
theorem dX8_lowestBits_36 : decode cX8_lowestBits 36 = .ok (.lreturn, 1) := by decide +kernel
theorem dX8_lowestBits_37 : decode cX8_lowestBits 37 = .ok (.lload_n 1, 1) := by decide +kernel
theorem dX8_lowestBits_38 : decode cX8_lowestBits 38 = .ok (.l2i, 1) := by decide +kernel
theorem dX8_lowestBits_39 : decode cX8_lowestBits 39 = .ok (.i2s, 1) := by decide +kernel
theorem dX8_lowestBits_40 : decode cX8_lowestBits 40 = .ok (.i2l, 1) := by decide +kernel
theorem dX8_lowestBits_41 : decode cX8_lowestBits 41 = .ok (.lreturn, 1) := by decide +kernel
theorem dX8_lowestBits_42 : decode cX8_lowestBits 42 = .ok (.lload_n 1, 1) := by decide +kernel
theorem dX8_lowestBits_43 : decode cX8_lowestBits 43 = .ok (.l2i, 1) := by decide +kernel
theorem dX8_lowestBits_44 : decode cX8_lowestBits 44 = .ok (.i2l, 1) := by decide +kernel
theorem dX8_lowestBits_45 : decode cX8_lowestBits 45 = .ok (.lreturn, 1) := by decide +kernel
theorem dX8_lowestBits_46 : decode cX8_lowestBits 46 = .ok (.lload_n 1, 1) := by decide +kernel
theorem dX8_lowestBits_47 : decode cX8_lowestBits 47 = .ok (.lreturn, 1) := by decide +kernel
theorem dX8_lowestBits_48 : decode cX8_lowestBits 48 = .ok (.lload_n 1, 1) := by decide +kernel
theorem dX8_lowestBits_49 : decode cX8_lowestBits 49 = .ok (.lconst 0, 1) := by decide +kernel
theorem dX8_lowestBits_50 : decode cX8_lowestBits 50 = .ok (.lcmp, 1) := by decide +kernel
theorem dX8_lowestBits_51 : decode cX8_lowestBits 51 = .ok (.ifCond .ne 7, 3) := by decide +kernel
theorem dX8_lowestBits_54 : decode cX8_lowestBits 54 = .ok (.lconst 0, 1) := by decide +kernel
theorem dX8_lowestBits_55 : decode cX8_lowestBits 55 = .ok (.goto 4, 3) := by decide +kernel
theorem dX8_lowestBits_58 : decode cX8_lowestBits 58 = .ok (.lconst 1, 1) := by decide +kernel
theorem dX8_lowestBits_59 : decode cX8_lowestBits 59 = .ok (.lreturn, 1) := by decide +kernel
theorem dX8_item_0 : decode cX8_item 0 = .ok (.iload_n 1, 1) := by decide +kernel
theorem dX8_item_1 : decode cX8_item 1 = .ok (.i2l, 1) := by decide +kernel
theorem dX8_item_2 : decode cX8_item 2 = .ok (.lconst 0, 1) := by decide +kernel
theorem dX8_item_3 : decode cX8_item 3 = .ok (.ldc2_w 263, 3) := by decide +kernel
theorem dX8_item_6 : decode cX8_item 6 = .ok (.invokestatic 57, 3) := by decide +kernel
theorem dX8_item_9 : decode cX8_item 9 = .ok (.ifCond .ne 5, 3) := by decide +kernel
theorem dX8_item_12 : decode cX8_item 12 = .ok (.iconst (-1), 1) := by decide +kernel
theorem dX8_item_13 : decode cX8_item 13 = .ok (.ireturn, 1) := by decide +kernel
theorem dX8_item_14 : decode cX8_item 14 = .ok (.aload_n 0, 1) := by decide +kernel
theorem dX8_item_15 : decode cX8_item 15 = .ok (.getfield 45, 3) := by decide +kernel
theorem dX8_item_18 : decode cX8_item 18 = .ok (.iload_n 1, 1) := by decide +kernel
theorem dX8_item_19 : decode cX8_item 19 = .ok (.iaload, 1) := by decide +kernel
theorem dX8_item_20 : decode cX8_item 20 = .ok (.iconst (-1), 1) := by decide +kernel
theorem dX8_item_21 : decode cX8_item 21 = .ok (.if_icmp .ne 6, 3) := by decide +kernel
theorem dX8_item_24 : decode cX8_item 24 = .ok (.bipush (-11), 2) := by decide +kernel
theorem dX8_item_26 : decode cX8_item 26 = .ok (.ireturn, 1) := by decide +kernel
theorem dX8_item_27 : decode cX8_item 27 = .ok (.iload_n 2, 1) := by decide +kernel
theorem dX8_item_28 : decode cX8_item 28 = .ok (.i2l, 1) := by decide +kernel
theorem dX8_item_29 : decode cX8_item 29 = .ok (.lconst 0, 1) := by decide +kernel
theorem dX8_item_30 : decode cX8_item 30 = .ok (.aload_n 0, 1) := by decide +kernel
theorem dX8_item_31 : decode cX8_item 31 = .ok (.getfield 48, 3) := by decide +kernel
theorem dX8_item_34 : decode cX8_item 34 = .ok (.iload_n 1, 1) := by decide +kernel
theorem dX8_item_35 : decode cX8_item 35 = .ok (.iaload, 1) := by decide +kernel
theorem dX8_item_36 : decode cX8_item 36 = .ok (.iconst 1, 1) := by decide +kernel
theorem dX8_item_37 : decode cX8_item 37 = .ok (.isub, 1) := by decide +kernel
theorem dX8_item_38 : decode cX8_item 38 = .ok (.i2l, 1) := by decide +kernel
theorem dX8_item_39 : decode cX8_item 39 = .ok (.invokestatic 57, 3) := by decide +kernel
theorem dX8_item_42 : decode cX8_item 42 = .ok (.ifCond .ne 6, 3) := by decide +kernel
theorem dX8_item_45 : decode cX8_item 45 = .ok (.bipush (-13), 2) := by decide +kernel
theorem dX8_item_47 : decode cX8_item 47 = .ok (.ireturn, 1) := by decide +kernel
theorem dX8_item_48 : decode cX8_item 48 = .ok (.aload_n 0, 1) := by decide +kernel
theorem dX8_item_49 : decode cX8_item 49 = .ok (.getfield 51, 3) := by decide +kernel
theorem dX8_item_52 : decode cX8_item 52 = .ok (.bipush 60, 2) := by decide +kernel
theorem dX8_item_54 : decode cX8_item 54 = .ok (.iload_n 1, 1) := by decide +kernel
theorem dX8_item_55 : decode cX8_item 55 = .ok (.imul, 1) := by decide +kernel
theorem dX8_item_56 : decode cX8_item 56 = .ok (.iload_n 2, 1) := by decide +kernel
theorem dX8_item_57 : decode cX8_item 57 = .ok (.iadd, 1) := by decide +kernel
theorem dX8_item_58 : decode cX8_item 58 = .ok (.aload_n 0, 1) := by decide +kernel
theorem dX8_item_59 : decode cX8_item 59 = .ok (.getfield 45, 3) := by decide +kernel
theorem dX8_item_62 : decode cX8_item 62 = .ok (.iload_n 1, 1) := by decide +kernel
theorem dX8_item_63 : decode cX8_item 63 = .ok (.iaload, 1) := by decide +kernel
theorem dX8_item_64 : decode cX8_item 64 = .ok (.lload_n 3, 1) := by decide +kernel
theorem dX8_item_65 : decode cX8_item 65 = .ok (.invokestatic 270, 3) := by decide +kernel
theorem dX8_item_68 : decode cX8_item 68 = .ok (.lastore, 1) := by decide +kernel
theorem dX8_item_69 : decode cX8_item 69 = .ok (.iconst 1, 1) := by decide +kernel
theorem dX8_item_70 : decode cX8_item 70 = .ok (.ireturn, 1) := by decide +kernel
theorem dX8_read_0 : decode cX8_read 0 = .ok (.iload_n 1, 1) := by decide +kernel
theorem dX8_read_1 : decode cX8_read 1 = .ok (.i2l, 1) := by decide +kernel
theorem dX8_read_2 : decode cX8_read 2 = .ok (.lconst 0, 1) := by decide +kernel
theorem dX8_read_3 : decode cX8_read 3 = .ok (.ldc2_w 263, 3) := by decide +kernel
theorem dX8_read_6 : decode cX8_read 6 = .ok (.invokestatic 57, 3) := by decide +kernel
theorem dX8_read_9 : decode cX8_read 9 = .ok (.ifCond .eq 35, 3) := by decide +kernel
theorem dX8_read_12 : decode cX8_read 12 = .ok (.iload_n 2, 1) := by decide +kernel
theorem dX8_read_13 : decode cX8_read 13 = .ok (.i2l, 1) := by decide +kernel
theorem dX8_read_14 : decode cX8_read 14 = .ok (.lconst 0, 1) := by decide +kernel
theorem dX8_read_15 : decode cX8_read 15 = .ok (.aload_n 0, 1) := by decide +kernel
theorem dX8_read_16 : decode cX8_read 16 = .ok (.getfield 48, 3) := by decide +kernel
theorem dX8_read_19 : decode cX8_read 19 = .ok (.iload_n 1, 1) := by decide +kernel
theorem dX8_read_20 : decode cX8_read 20 = .ok (.iaload, 1) := by decide +kernel
theorem dX8_read_21 : decode cX8_read 21 = .ok (.iconst 1, 1) := by decide +kernel
theorem dX8_read_22 : decode cX8_read 22 = .ok (.isub, 1) := by decide +kernel
theorem dX8_read_23 : decode cX8_read 23 = .ok (.i2l, 1) := by decide +kernel
theorem dX8_read_24 : decode cX8_read 24 = .ok (.invokestatic 57, 3) := by decide +kernel
theorem dX8_read_27 : decode cX8_read 27 = .ok (.ifCond .eq 17, 3) := by decide +kernel
theorem dX8_read_30 : decode cX8_read 30 = .ok (.aload_n 0, 1) := by decide +kernel
theorem dX8_read_31 : decode cX8_read 31 = .ok (.getfield 51, 3) := by decide +kernel
theorem dX8_read_34 : decode cX8_read 34 = .ok (.bipush 60, 2) := by decide +kernel
theorem dX8_read_36 : decode cX8_read 36 = .ok (.iload_n 1, 1) := by decide +kernel
theorem dX8_read_37 : decode cX8_read 37 = .ok (.imul, 1) := by decide +kernel
theorem dX8_read_38 : decode cX8_read 38 = .ok (.iload_n 2, 1) := by decide +kernel
theorem dX8_read_39 : decode cX8_read 39 = .ok (.iadd, 1) := by decide +kernel
theorem dX8_read_40 : decode cX8_read 40 = .ok (.laload, 1) := by decide +kernel
theorem dX8_read_41 : decode cX8_read 41 = .ok (.goto 6, 3) := by decide +kernel
theorem dX8_read_44 : decode cX8_read 44 = .ok (.ldc2_w 254, 3) := by decide +kernel
theorem dX8_read_47 : decode cX8_read 47 = .ok (.lreturn, 1) := by decide +kernel
theorem dX8_shift_0 : decode cX8_shift 0 = .ok (.iload_n 1, 1) := by decide +kernel
theorem dX8_shift_1 : decode cX8_shift 1 = .ok (.i2l, 1) := by decide +kernel
theorem dX8_shift_2 : decode cX8_shift 2 = .ok (.lconst 0, 1) := by decide +kernel
theorem dX8_shift_3 : decode cX8_shift 3 = .ok (.ldc2_w 263, 3) := by decide +kernel
theorem dX8_shift_6 : decode cX8_shift 6 = .ok (.invokestatic 57, 3) := by decide +kernel
theorem dX8_shift_9 : decode cX8_shift 9 = .ok (.ifCond .eq 15, 3) := by decide +kernel
theorem dX8_shift_12 : decode cX8_shift 12 = .ok (.iload_n 3, 1) := by decide +kernel
theorem dX8_shift_13 : decode cX8_shift 13 = .ok (.i2l, 1) := by decide +kernel
theorem dX8_shift_14 : decode cX8_shift 14 = .ok (.lconst 0, 1) := by decide +kernel
theorem dX8_shift_15 : decode cX8_shift 15 = .ok (.ldc2_w 263, 3) := by decide +kernel
theorem dX8_shift_18 : decode cX8_shift 18 = .ok (.invokestatic 57, 3) := by decide +kernel
theorem dX8_shift_21 : decode cX8_shift 21 = .ok (.ifCond .ne 5, 3) := by decide +kernel
theorem dX8_shift_24 : decode cX8_shift 24 = .ok (.iconst (-1), 1) := by decide +kernel
theorem dX8_shift_25 : decode cX8_shift 25 = .ok (.ireturn, 1) := by decide +kernel
theorem dX8_shift_26 : decode cX8_shift 26 = .ok (.aload_n 0, 1) := by decide +kernel
theorem dX8_shift_27 : decode cX8_shift 27 = .ok (.getfield 45, 3) := by decide +kernel
theorem dX8_shift_30 : decode cX8_shift 30 = .ok (.iload_n 1, 1) := by decide +kernel
theorem dX8_shift_31 : decode cX8_shift 31 = .ok (.iaload, 1) := by decide +kernel
theorem dX8_shift_32 : decode cX8_shift 32 = .ok (.iconst (-1), 1) := by decide +kernel
theorem dX8_shift_33 : decode cX8_shift 33 = .ok (.if_icmp .eq 13, 3) := by decide +kernel
theorem dX8_shift_36 : decode cX8_shift 36 = .ok (.aload_n 0, 1) := by decide +kernel
theorem dX8_shift_37 : decode cX8_shift 37 = .ok (.getfield 45, 3) := by decide +kernel
theorem dX8_shift_40 : decode cX8_shift 40 = .ok (.iload_n 3, 1) := by decide +kernel
theorem dX8_shift_41 : decode cX8_shift 41 = .ok (.iaload, 1) := by decide +kernel
theorem dX8_shift_42 : decode cX8_shift 42 = .ok (.iconst (-1), 1) := by decide +kernel
theorem dX8_shift_43 : decode cX8_shift 43 = .ok (.if_icmp .ne 6, 3) := by decide +kernel
theorem dX8_shift_46 : decode cX8_shift 46 = .ok (.bipush (-11), 2) := by decide +kernel
theorem dX8_shift_48 : decode cX8_shift 48 = .ok (.ireturn, 1) := by decide +kernel
theorem dX8_shift_49 : decode cX8_shift 49 = .ok (.aload_n 0, 1) := by decide +kernel
theorem dX8_shift_50 : decode cX8_shift 50 = .ok (.getfield 45, 3) := by decide +kernel
theorem dX8_shift_53 : decode cX8_shift 53 = .ok (.iload_n 1, 1) := by decide +kernel
theorem dX8_shift_54 : decode cX8_shift 54 = .ok (.iaload, 1) := by decide +kernel
theorem dX8_shift_55 : decode cX8_shift 55 = .ok (.aload_n 0, 1) := by decide +kernel
theorem dX8_shift_56 : decode cX8_shift 56 = .ok (.getfield 45, 3) := by decide +kernel
theorem dX8_shift_59 : decode cX8_shift 59 = .ok (.iload_n 3, 1) := by decide +kernel
theorem dX8_shift_60 : decode cX8_shift 60 = .ok (.iaload, 1) := by decide +kernel
theorem dX8_shift_61 : decode cX8_shift 61 = .ok (.if_icmp .eq 6, 3) := by decide +kernel
theorem dX8_shift_64 : decode cX8_shift 64 = .ok (.bipush (-12), 2) := by decide +kernel
theorem dX8_shift_66 : decode cX8_shift 66 = .ok (.ireturn, 1) := by decide +kernel
theorem dX8_shift_67 : decode cX8_shift 67 = .ok (.iload 5, 2) := by decide +kernel
theorem dX8_shift_69 : decode cX8_shift 69 = .ok (.ifCond .lt 60, 3) := by decide +kernel
theorem dX8_shift_72 : decode cX8_shift 72 = .ok (.iload_n 2, 1) := by decide +kernel
theorem dX8_shift_73 : decode cX8_shift 73 = .ok (.ifCond .lt 56, 3) := by decide +kernel
theorem dX8_shift_76 : decode cX8_shift 76 = .ok (.iload 4, 2) := by decide +kernel
theorem dX8_shift_78 : decode cX8_shift 78 = .ok (.ifCond .lt 51, 3) := by decide +kernel
theorem dX8_shift_81 : decode cX8_shift 81 = .ok (.iload_n 2, 1) := by decide +kernel
theorem dX8_shift_82 : decode cX8_shift 82 = .ok (.aload_n 0, 1) := by decide +kernel
theorem dX8_shift_83 : decode cX8_shift 83 = .ok (.getfield 48, 3) := by decide +kernel
theorem dX8_shift_86 : decode cX8_shift 86 = .ok (.iload_n 1, 1) := by decide +kernel
theorem dX8_shift_87 : decode cX8_shift 87 = .ok (.iaload, 1) := by decide +kernel
theorem dX8_shift_88 : decode cX8_shift 88 = .ok (.if_icmp .gt 41, 3) := by decide +kernel
theorem dX8_shift_91 : decode cX8_shift 91 = .ok (.iload 4, 2) := by decide +kernel
theorem dX8_shift_93 : decode cX8_shift 93 = .ok (.aload_n 0, 1) := by decide +kernel
theorem dX8_shift_94 : decode cX8_shift 94 = .ok (.getfield 48, 3) := by decide +kernel
theorem dX8_shift_97 : decode cX8_shift 97 = .ok (.iload_n 3, 1) := by decide +kernel
theorem dX8_shift_98 : decode cX8_shift 98 = .ok (.iaload, 1) := by decide +kernel
theorem dX8_shift_99 : decode cX8_shift 99 = .ok (.if_icmp .gt 30, 3) := by decide +kernel
theorem dX8_shift_102 : decode cX8_shift 102 = .ok (.iload 5, 2) := by decide +kernel
theorem dX8_shift_104 : decode cX8_shift 104 = .ok (.aload_n 0, 1) := by decide +kernel
theorem dX8_shift_105 : decode cX8_shift 105 = .ok (.getfield 48, 3) := by decide +kernel
theorem dX8_shift_108 : decode cX8_shift 108 = .ok (.iload_n 1, 1) := by decide +kernel
theorem dX8_shift_109 : decode cX8_shift 109 = .ok (.iaload, 1) := by decide +kernel
theorem dX8_shift_110 : decode cX8_shift 110 = .ok (.iload_n 2, 1) := by decide +kernel
theorem dX8_shift_111 : decode cX8_shift 111 = .ok (.isub, 1) := by decide +kernel
theorem dX8_shift_112 : decode cX8_shift 112 = .ok (.if_icmp .gt 17, 3) := by decide +kernel
theorem dX8_shift_115 : decode cX8_shift 115 = .ok (.iload 5, 2) := by decide +kernel
theorem dX8_shift_117 : decode cX8_shift 117 = .ok (.aload_n 0, 1) := by decide +kernel
theorem dX8_shift_118 : decode cX8_shift 118 = .ok (.getfield 48, 3) := by decide +kernel
theorem dX8_shift_121 : decode cX8_shift 121 = .ok (.iload_n 3, 1) := by decide +kernel
theorem dX8_shift_122 : decode cX8_shift 122 = .ok (.iaload, 1) := by decide +kernel
theorem dX8_shift_123 : decode cX8_shift 123 = .ok (.iload 4, 2) := by decide +kernel
theorem dX8_shift_125 : decode cX8_shift 125 = .ok (.isub, 1) := by decide +kernel
theorem dX8_shift_126 : decode cX8_shift 126 = .ok (.if_icmp .le 6, 3) := by decide +kernel
theorem dX8_shift_129 : decode cX8_shift 129 = .ok (.bipush (-13), 2) := by decide +kernel
theorem dX8_shift_131 : decode cX8_shift 131 = .ok (.ireturn, 1) := by decide +kernel
theorem dX8_shift_132 : decode cX8_shift 132 = .ok (.iconst 0, 1) := by decide +kernel
theorem dX8_shift_133 : decode cX8_shift 133 = .ok (.istore 6, 2) := by decide +kernel
theorem dX8_shift_135 : decode cX8_shift 135 = .ok (.iload 6, 2) := by decide +kernel
theorem dX8_shift_137 : decode cX8_shift 137 = .ok (.iload 5, 2) := by decide +kernel
theorem dX8_shift_139 : decode cX8_shift 139 = .ok (.if_icmp .ge 58, 3) := by decide +kernel
theorem dX8_shift_142 : decode cX8_shift 142 = .ok (.iload_n 2, 1) := by decide +kernel
theorem dX8_shift_143 : decode cX8_shift 143 = .ok (.iload 4, 2) := by decide +kernel
theorem dX8_shift_145 : decode cX8_shift 145 = .ok (.if_icmp .ge 13, 3) := by decide +kernel
theorem dX8_shift_148 : decode cX8_shift 148 = .ok (.iload 5, 2) := by decide +kernel
theorem dX8_shift_150 : decode cX8_shift 150 = .ok (.iconst 1, 1) := by decide +kernel
theorem dX8_shift_151 : decode cX8_shift 151 = .ok (.isub, 1) := by decide +kernel
theorem dX8_shift_152 : decode cX8_shift 152 = .ok (.iload 6, 2) := by decide +kernel
theorem dX8_shift_154 : decode cX8_shift 154 = .ok (.isub, 1) := by decide +kernel
theorem dX8_shift_155 : decode cX8_shift 155 = .ok (.goto 5, 3) := by decide +kernel
theorem dX8_shift_158 : decode cX8_shift 158 = .ok (.iload 6, 2) := by decide +kernel
theorem dX8_shift_160 : decode cX8_shift 160 = .ok (.istore 7, 2) := by decide +kernel
theorem dX8_shift_162 : decode cX8_shift 162 = .ok (.aload_n 0, 1) := by decide +kernel
theorem dX8_shift_163 : decode cX8_shift 163 = .ok (.getfield 51, 3) := by decide +kernel
theorem dX8_shift_166 : decode cX8_shift 166 = .ok (.bipush 60, 2) := by decide +kernel
theorem dX8_shift_168 : decode cX8_shift 168 = .ok (.iload_n 3, 1) := by decide +kernel
theorem dX8_shift_169 : decode cX8_shift 169 = .ok (.imul, 1) := by decide +kernel
theorem dX8_shift_170 : decode cX8_shift 170 = .ok (.iload 4, 2) := by decide +kernel
theorem dX8_shift_172 : decode cX8_shift 172 = .ok (.iadd, 1) := by decide +kernel
theorem dX8_shift_173 : decode cX8_shift 173 = .ok (.iload 7, 2) := by decide +kernel
theorem dX8_shift_175 : decode cX8_shift 175 = .ok (.iadd, 1) := by decide +kernel
theorem dX8_shift_176 : decode cX8_shift 176 = .ok (.aload_n 0, 1) := by decide +kernel
theorem dX8_shift_177 : decode cX8_shift 177 = .ok (.getfield 51, 3) := by decide +kernel
theorem dX8_shift_180 : decode cX8_shift 180 = .ok (.bipush 60, 2) := by decide +kernel
theorem dX8_shift_182 : decode cX8_shift 182 = .ok (.iload_n 1, 1) := by decide +kernel
theorem dX8_shift_183 : decode cX8_shift 183 = .ok (.imul, 1) := by decide +kernel
theorem dX8_shift_184 : decode cX8_shift 184 = .ok (.iload_n 2, 1) := by decide +kernel
theorem dX8_shift_185 : decode cX8_shift 185 = .ok (.iadd, 1) := by decide +kernel
theorem dX8_shift_186 : decode cX8_shift 186 = .ok (.iload 7, 2) := by decide +kernel
theorem dX8_shift_188 : decode cX8_shift 188 = .ok (.iadd, 1) := by decide +kernel
theorem dX8_shift_189 : decode cX8_shift 189 = .ok (.laload, 1) := by decide +kernel
theorem dX8_shift_190 : decode cX8_shift 190 = .ok (.lastore, 1) := by decide +kernel
theorem dX8_shift_191 : decode cX8_shift 191 = .ok (.iinc 6 1, 3) := by decide +kernel
theorem dX8_shift_194 : decode cX8_shift 194 = .ok (.goto (-59), 3) := by decide +kernel
theorem dX8_shift_197 : decode cX8_shift 197 = .ok (.iload 5, 2) := by decide +kernel
theorem dX8_shift_199 : decode cX8_shift 199 = .ok (.ireturn, 1) := by decide +kernel
