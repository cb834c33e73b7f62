theorem dX9_init_0 : decode cX9_init 0 = .ok (.aload_n 0, 1) := by decide +kernel
theorem dX9_init_1 : decode cX9_init 1 = .ok (.invokespecial 1, 3) := by decide +kernel
theorem dX9_init_4 : decode cX9_init 4 = .ok (.aload_n 0, 1) := by decide +kernel
theorem dX9_init_5 : decode cX9_init 5 = .ok (.bipush 9, 2) := by decide +kernel
theorem dX9_init_7 : decode cX9_init 7 = .ok (.putfield 7, 3) := by decide +kernel
theorem dX9_init_10 : decode cX9_init 10 = .ok (.aload_n 0, 1) := by decide +kernel
theorem dX9_init_11 : decode cX9_init 11 = .ok (.bipush 10, 2) := by decide +kernel
theorem dX9_init_13 : decode cX9_init 13 = .ok (.putfield 13, 3) := by decide +kernel
theorem dX9_init_16 : decode cX9_init 16 = .ok (.aload_n 0, 1) := by decide +kernel
theorem dX9_init_17 : decode cX9_init 17 = .ok (.iconst (-1), 1) := by decide +kernel
theorem dX9_init_18 : decode cX9_init 18 = .ok (.putfield 16, 3) := by decide +kernel
theorem dX9_init_21 : decode cX9_init 21 = .ok (.aload_n 0, 1) := by decide +kernel
theorem dX9_init_22 : decode cX9_init 22 = .ok (.iconst (-1), 1) := by decide +kernel
theorem dX9_init_23 : decode cX9_init 23 = .ok (.putfield 19, 3) := by decide +kernel
theorem dX9_init_26 : decode cX9_init 26 = .ok (.aload_n 0, 1) := by decide +kernel
theorem dX9_init_27 : decode cX9_init 27 = .ok (.iconst (-1), 1) := by decide +kernel
theorem dX9_init_28 : decode cX9_init 28 = .ok (.putfield 22, 3) := by decide +kernel
theorem dX9_init_31 : decode cX9_init 31 = .ok (.aload_n 0, 1) := by decide +kernel
theorem dX9_init_32 : decode cX9_init 32 = .ok (.bipush 8, 2) := by decide +kernel
theorem dX9_init_34 : decode cX9_init 34 = .ok (.newarray .int, 2) := by decide +kernel
theorem dX9_init_36 : decode cX9_init 36 = .ok (.putfield 25, 3) := by decide +kernel
theorem dX9_init_39 : decode cX9_init 39 = .ok (.aload_n 0, 1) := by decide +kernel
theorem dX9_init_40 : decode cX9_init 40 = .ok (.sipush 1400, 3) := by decide +kernel
theorem dX9_init_43 : decode cX9_init 43 = .ok (.newarray .int, 2) := by decide +kernel
theorem dX9_init_45 : decode cX9_init 45 = .ok (.putfield 29, 3) := by decide +kernel
theorem dX9_init_48 : decode cX9_init 48 = .ok (.aload_n 0, 1) := by decide +kernel
theorem dX9_init_49 : decode cX9_init 49 = .ok (.sipush 700, 3) := by decide +kernel
theorem dX9_init_52 : decode cX9_init 52 = .ok (.newarray .int, 2) := by decide +kernel
theorem dX9_init_54 : decode cX9_init 54 = .ok (.putfield 32, 3) := by decide +kernel
theorem dX9_init_57 : decode cX9_init 57 = .ok (.aload_n 0, 1) := by decide +kernel
theorem dX9_init_58 : decode cX9_init 58 = .ok (.iconst (-1), 1) := by decide +kernel
theorem dX9_init_59 : decode cX9_init 59 = .ok (.putfield 35, 3) := by decide +kernel
theorem dX9_init_62 : decode cX9_init 62 = .ok (.aload_n 0, 1) := by decide +kernel
theorem dX9_init_63 : decode cX9_init 63 = .ok (.iconst 3, 1) := by decide +kernel
theorem dX9_init_64 : decode cX9_init 64 = .ok (.newarray .int, 2) := by decide +kernel
theorem dX9_init_66 : decode cX9_init 66 = .ok (.putfield 38, 3) := by decide +kernel
theorem dX9_init_69 : decode cX9_init 69 = .ok (.aload_n 0, 1) := by decide +kernel
theorem dX9_init_70 : decode cX9_init 70 = .ok (.bipush 8, 2) := by decide +kernel
theorem dX9_init_72 : decode cX9_init 72 = .ok (.newarray .int, 2) := by decide +kernel
theorem dX9_init_74 : decode cX9_init 74 = .ok (.putfield 41, 3) := by decide +kernel
theorem dX9_init_77 : decode cX9_init 77 = .ok (.aload_n 0, 1) := by decide +kernel
theorem dX9_init_78 : decode cX9_init 78 = .ok (.bipush 54, 2) := by decide +kernel
theorem dX9_init_80 : decode cX9_init 80 = .ok (.newarray .int, 2) := by decide +kernel
theorem dX9_init_82 : decode cX9_init 82 = .ok (.putfield 44, 3) := by decide +kernel
theorem dX9_init_85 : decode cX9_init 85 = .ok (.aload_n 0, 1) := by decide +kernel
theorem dX9_init_86 : decode cX9_init 86 = .ok (.bipush 16, 2) := by decide +kernel
theorem dX9_init_88 : decode cX9_init 88 = .ok (.newarray .int, 2) := by decide +kernel
theorem dX9_init_90 : decode cX9_init 90 = .ok (.putfield 47, 3) := by decide +kernel
theorem dX9_init_93 : decode cX9_init 93 = .ok (.aload_n 0, 1) := by decide +kernel
theorem dX9_init_94 : decode cX9_init 94 = .ok (.bipush 16, 2) := by decide +kernel
theorem dX9_init_96 : decode cX9_init 96 = .ok (.newarray .int, 2) := by decide +kernel
theorem dX9_init_98 : decode cX9_init 98 = .ok (.putfield 50, 3) := by decide +kernel
theorem dX9_init_101 : decode cX9_init 101 = .ok (.aload_n 0, 1) := by decide +kernel
theorem dX9_init_102 : decode cX9_init 102 = .ok (.sipush 1400, 3) := by decide +kernel
theorem dX9_init_105 : decode cX9_init 105 = .ok (.newarray .int, 2) := by decide +kernel
theorem dX9_init_107 : decode cX9_init 107 = .ok (.putfield 53, 3) := by decide +kernel
theorem dX9_init_110 : decode cX9_init 110 = .ok (.aload_n 0, 1) := by decide +kernel
theorem dX9_init_111 : decode cX9_init 111 = .ok (.sipush 950, 3) := by decide +kernel
theorem dX9_init_114 : decode cX9_init 114 = .ok (.newarray .int, 2) := by decide +kernel
theorem dX9_init_116 : decode cX9_init 116 = .ok (.putfield 56, 3) := by decide +kernel
theorem dX9_init_119 : decode cX9_init 119 = .ok (.aload_n 0, 1) := by decide +kernel
theorem dX9_init_120 : decode cX9_init 120 = .ok (.bipush 9, 2) := by decide +kernel
theorem dX9_init_122 : decode cX9_init 122 = .ok (.newarray .boolean, 2) := by decide +kernel
theorem dX9_init_124 : decode cX9_init 124 = .ok (.putfield 59, 3) := by decide +kernel
theorem dX9_init_127 : decode cX9_init 127 = .ok (.aload_n 0, 1) := by decide +kernel
theorem dX9_init_128 : decode cX9_init 128 = .ok (.bipush 108, 2) := by decide +kernel
theorem dX9_init_130 : decode cX9_init 130 = .ok (.newarray .int, 2) := by decide +kernel
theorem dX9_init_132 : decode cX9_init 132 = .ok (.putfield 63, 3) := by decide +kernel
theorem dX9_init_135 : decode cX9_init 135 = .ok (.aload_n 0, 1) := by decide +kernel
theorem dX9_init_136 : decode cX9_init 136 = .ok (.sipush 2160, 3) := by decide +kernel
theorem dX9_init_139 : decode cX9_init 139 = .ok (.newarray .int, 2) := by decide +kernel
theorem dX9_init_141 : decode cX9_init 141 = .ok (.putfield 66, 3) := by decide +kernel
theorem dX9_init_144 : decode cX9_init 144 = .ok (.aload_n 0, 1) := by decide +kernel
theorem dX9_init_145 : decode cX9_init 145 = .ok (.bipush 8, 2) := by decide +kernel
theorem dX9_init_147 : decode cX9_init 147 = .ok (.newarray .int, 2) := by decide +kernel
theorem dX9_init_149 : decode cX9_init 149 = .ok (.putfield 69, 3) := by decide +kernel
theorem dX9_init_152 : decode cX9_init 152 = .ok (.aload_n 0, 1) := by decide +kernel
theorem dX9_init_153 : decode cX9_init 153 = .ok (.bipush 9, 2) := by decide +kernel
theorem dX9_init_155 : decode cX9_init 155 = .ok (.newarray .int, 2) := by decide +kernel
theorem dX9_init_157 : decode cX9_init 157 = .ok (.putfield 72, 3) := by decide +kernel
theorem dX9_init_160 : decode cX9_init 160 = .ok (.aload_n 0, 1) := by decide +kernel
theorem dX9_init_161 : decode cX9_init 161 = .ok (.sipush 950, 3) := by decide +kernel
theorem dX9_init_164 : decode cX9_init 164 = .ok (.newarray .int, 2) := by decide +kernel
theorem dX9_init_166 : decode cX9_init 166 = .ok (.putfield 75, 3) := by decide +kernel
theorem dX9_init_169 : decode cX9_init 169 = .ok (.aload_n 0, 1) := by decide +kernel
theorem dX9_init_170 : decode cX9_init 170 = .ok (.iconst (-1), 1) := by decide +kernel
theorem dX9_init_171 : decode cX9_init 171 = .ok (.putfield 78, 3) := by decide +kernel
theorem dX9_init_174 : decode cX9_init 174 = .ok (.aload_n 0, 1) := by decide +kernel
theorem dX9_init_175 : decode cX9_init 175 = .ok (.bipush 8, 2) := by decide +kernel
theorem dX9_init_177 : decode cX9_init 177 = .ok (.newarray .int, 2) := by decide +kernel
theorem dX9_init_179 : decode cX9_init 179 = .ok (.putfield 81, 3) := by decide +kernel
theorem dX9_init_182 : decode cX9_init 182 = .ok (.aload_n 0, 1) := by decide +kernel
theorem dX9_init_183 : decode cX9_init 183 = .ok (.bipush 16, 2) := by decide +kernel
theorem dX9_init_185 : decode cX9_init 185 = .ok (.newarray .int, 2) := by decide +kernel
theorem dX9_init_187 : decode cX9_init 187 = .ok (.putfield 84, 3) := by decide +kernel
theorem dX9_init_190 : decode cX9_init 190 = .ok (.aload_n 0, 1) := by decide +kernel
theorem dX9_init_191 : decode cX9_init 191 = .ok (.iconst 5, 1) := by decide +kernel
theorem dX9_init_192 : decode cX9_init 192 = .ok (.newarray .int, 2) := by decide +kernel
theorem dX9_init_194 : decode cX9_init 194 = .ok (.putfield 87, 3) := by decide +kernel
theorem dX9_init_197 : decode cX9_init 197 = .ok (.aload_n 0, 1) := by decide +kernel
theorem dX9_init_198 : decode cX9_init 198 = .ok (.sipush 720, 3) := by decide +kernel
theorem dX9_init_201 : decode cX9_init 201 = .ok (.newarray .int, 2) := by decide +kernel
theorem dX9_init_203 : decode cX9_init 203 = .ok (.putfield 90, 3) := by decide +kernel
theorem dX9_init_206 : decode cX9_init 206 = .ok (.aload_n 0, 1) := by decide +kernel
theorem dX9_init_207 : decode cX9_init 207 = .ok (.bipush 54, 2) := by decide +kernel
theorem dX9_init_209 : decode cX9_init 209 = .ok (.newarray .int, 2) := by decide +kernel
theorem dX9_init_211 : decode cX9_init 211 = .ok (.putfield 93, 3) := by decide +kernel
theorem dX9_init_214 : decode cX9_init 214 = .ok (.aload_n 0, 1) := by decide +kernel
theorem dX9_init_215 : decode cX9_init 215 = .ok (.sipush 2160, 3) := by decide +kernel
theorem dX9_init_218 : decode cX9_init 218 = .ok (.newarray .int, 2) := by decide +kernel
theorem dX9_init_220 : decode cX9_init 220 = .ok (.putfield 96, 3) := by decide +kernel
theorem dX9_init_223 : decode cX9_init 223 = .ok (.aload_n 0, 1) := by decide +kernel
theorem dX9_init_224 : decode cX9_init 224 = .ok (.bipush 16, 2) := by decide +kernel
theorem dX9_init_226 : decode cX9_init 226 = .ok (.newarray .int, 2) := by decide +kernel
theorem dX9_init_228 : decode cX9_init 228 = .ok (.putfield 99, 3) := by decide +kernel
theorem dX9_init_231 : decode cX9_init 231 = .ok (.return_, 1) := by decide +kernel
theorem dX9_thrown_0 : decode cX9_thrown 0 = .ok (.aload_n 0, 1) := by decide +kernel
theorem dX9_thrown_1 : decode cX9_thrown 1 = .ok (.getfield 102, 3) := by decide +kernel
theorem dX9_thrown_4 : decode cX9_thrown 4 = .ok (.ireturn, 1) := by decide +kernel
theorem dX9_right_0 : decode cX9_right 0 = .ok (.aload_n 0, 1) := by decide +kernel
theorem dX9_right_1 : decode cX9_right 1 = .ok (.getfield 102, 3) := by decide +kernel
theorem dX9_right_4 : decode cX9_right 4 = .ok (.ifCond .ne 12, 3) := by decide +kernel
theorem dX9_right_7 : decode cX9_right 7 = .ok (.iload_n 1, 1) := by decide +kernel
theorem dX9_right_8 : decode cX9_right 8 = .ok (.ifCond .ne 8, 3) := by decide +kernel
theorem dX9_right_11 : decode cX9_right 11 = .ok (.aload_n 0, 1) := by decide +kernel
theorem dX9_right_12 : decode cX9_right 12 = .ok (.iload_n 2, 1) := by decide +kernel
theorem dX9_right_13 : decode cX9_right 13 = .ok (.putfield 102, 3) := by decide +kernel
theorem dX9_right_16 : decode cX9_right 16 = .ok (.aload_n 0, 1) := by decide +kernel
theorem dX9_right_17 : decode cX9_right 17 = .ok (.getfield 102, 3) := by decide +kernel
theorem dX9_right_20 : decode cX9_right 20 = .ok (.ifCond .ne 7, 3) := by decide +kernel
theorem dX9_right_23 : decode cX9_right 23 = .ok (.iconst 1, 1) := by decide +kernel
theorem dX9_right_24 : decode cX9_right 24 = .ok (.goto 4, 3) := by decide +kernel
theorem dX9_right_27 : decode cX9_right 27 = .ok (.iconst 0, 1) := by decide +kernel
theorem dX9_right_28 : decode cX9_right 28 = .ok (.ireturn, 1) := by decide +kernel
theorem dX9_within_0 : decode cX9_within 0 = .ok (.iload_n 0, 1) := by decide +kernel
theorem dX9_within_1 : decode cX9_within 1 = .ok (.iload_n 1, 1) := by decide +kernel
theorem dX9_within_2 : decode cX9_within 2 = .ok (.if_icmp .lt 12, 3) := by decide +kernel
theorem dX9_within_5 : decode cX9_within 5 = .ok (.iload_n 0, 1) := by decide +kernel
theorem dX9_within_6 : decode cX9_within 6 = .ok (.iload_n 2, 1) := by decide +kernel
theorem dX9_within_7 : decode cX9_within 7 = .ok (.if_icmp .gt 7, 3) := by decide +kernel
theorem dX9_within_10 : decode cX9_within 10 = .ok (.iconst 1, 1) := by decide +kernel
theorem dX9_within_11 : decode cX9_within 11 = .ok (.goto 4, 3) := by decide +kernel
theorem dX9_within_14 : decode cX9_within 14 = .ok (.iconst 0, 1) := by decide +kernel
theorem dX9_within_15 : decode cX9_within 15 = .ok (.ireturn, 1) := by decide +kernel
theorem dX9_bounded_0 : decode cX9_bounded 0 = .ok (.iload_n 0, 1) := by decide +kernel
theorem dX9_bounded_1 : decode cX9_bounded 1 = .ok (.iload_n 1, 1) := by decide +kernel
theorem dX9_bounded_2 : decode cX9_bounded 2 = .ok (.if_icmp .ge 7, 3) := by decide +kernel
theorem dX9_bounded_5 : decode cX9_bounded 5 = .ok (.iload_n 1, 1) := by decide +kernel
theorem dX9_bounded_6 : decode cX9_bounded 6 = .ok (.goto 13, 3) := by decide +kernel
theorem dX9_bounded_9 : decode cX9_bounded 9 = .ok (.iload_n 0, 1) := by decide +kernel
theorem dX9_bounded_10 : decode cX9_bounded 10 = .ok (.iload_n 2, 1) := by decide +kernel
theorem dX9_bounded_11 : decode cX9_bounded 11 = .ok (.if_icmp .le 7, 3) := by decide +kernel
theorem dX9_bounded_14 : decode cX9_bounded 14 = .ok (.iload_n 2, 1) := by decide +kernel
theorem dX9_bounded_15 : decode cX9_bounded 15 = .ok (.goto 4, 3) := by decide +kernel
theorem dX9_bounded_18 : decode cX9_bounded 18 = .ok (.iload_n 0, 1) := by decide +kernel
theorem dX9_bounded_19 : decode cX9_bounded 19 = .ok (.ireturn, 1) := by decide +kernel
theorem dX9_differ_0 : decode cX9_differ 0 = .ok (.iload_n 0, 1) := by decide +kernel
theorem dX9_differ_1 : decode cX9_differ 1 = .ok (.iload_n 1, 1) := by decide +kernel
theorem dX9_differ_2 : decode cX9_differ 2 = .ok (.if_icmp .ge 9, 3) := by decide +kernel
theorem dX9_differ_5 : decode cX9_differ 5 = .ok (.iload_n 1, 1) := by decide +kernel
theorem dX9_differ_6 : decode cX9_differ 6 = .ok (.iload_n 0, 1) := by decide +kernel
theorem dX9_differ_7 : decode cX9_differ 7 = .ok (.isub, 1) := by decide +kernel
theorem dX9_differ_8 : decode cX9_differ 8 = .ok (.goto 6, 3) := by decide +kernel
theorem dX9_differ_11 : decode cX9_differ 11 = .ok (.iload_n 0, 1) := by decide +kernel
theorem dX9_differ_12 : decode cX9_differ 12 = .ok (.iload_n 1, 1) := by decide +kernel
theorem dX9_differ_13 : decode cX9_differ 13 = .ok (.isub, 1) := by decide +kernel
theorem dX9_differ_14 : decode cX9_differ 14 = .ok (.ireturn, 1) := by decide +kernel
theorem dX9_copies_0 : decode cX9_copies 0 = .ok (.iconst 0, 1) := by decide +kernel
theorem dX9_copies_1 : decode cX9_copies 1 = .ok (.istore_n 3, 1) := by decide +kernel
theorem dX9_copies_2 : decode cX9_copies 2 = .ok (.iload_n 3, 1) := by decide +kernel
theorem dX9_copies_3 : decode cX9_copies 3 = .ok (.aload_n 1, 1) := by decide +kernel
theorem dX9_copies_4 : decode cX9_copies 4 = .ok (.arraylength, 1) := by decide +kernel
theorem dX9_copies_5 : decode cX9_copies 5 = .ok (.if_icmp .ge 15, 3) := by decide +kernel
theorem dX9_copies_8 : decode cX9_copies 8 = .ok (.aload_n 2, 1) := by decide +kernel
theorem dX9_copies_9 : decode cX9_copies 9 = .ok (.iload_n 3, 1) := by decide +kernel
theorem dX9_copies_10 : decode cX9_copies 10 = .ok (.aload_n 1, 1) := by decide +kernel
theorem dX9_copies_11 : decode cX9_copies 11 = .ok (.iload_n 3, 1) := by decide +kernel
theorem dX9_copies_12 : decode cX9_copies 12 = .ok (.iaload, 1) := by decide +kernel
theorem dX9_copies_13 : decode cX9_copies 13 = .ok (.iastore, 1) := by decide +kernel
theorem dX9_copies_14 : decode cX9_copies 14 = .ok (.iinc 3 1, 3) := by decide +kernel
theorem dX9_copies_17 : decode cX9_copies 17 = .ok (.goto (-15), 3) := by decide +kernel
theorem dX9_copies_20 : decode cX9_copies 20 = .ok (.return_, 1) := by decide +kernel
theorem dX9_bits_0 : decode cX9_bits 0 = .ok (.iconst 0, 1) := by decide +kernel
theorem dX9_bits_1 : decode cX9_bits 1 = .ok (.istore_n 1, 1) := by decide +kernel
theorem dX9_bits_2 : decode cX9_bits 2 = .ok (.iconst 0, 1) := by decide +kernel
theorem dX9_bits_3 : decode cX9_bits 3 = .ok (.istore_n 2, 1) := by decide +kernel
theorem dX9_bits_4 : decode cX9_bits 4 = .ok (.iload_n 2, 1) := by decide +kernel
theorem dX9_bits_5 : decode cX9_bits 5 = .ok (.bipush 8, 2) := by decide +kernel
theorem dX9_bits_7 : decode cX9_bits 7 = .ok (.if_icmp .ge 17, 3) := by decide +kernel
theorem dX9_bits_10 : decode cX9_bits 10 = .ok (.iload_n 1, 1) := by decide +kernel
theorem dX9_bits_11 : decode cX9_bits 11 = .ok (.iload_n 0, 1) := by decide +kernel
theorem dX9_bits_12 : decode cX9_bits 12 = .ok (.iload_n 2, 1) := by decide +kernel
theorem dX9_bits_13 : decode cX9_bits 13 = .ok (.ishr, 1) := by decide +kernel
theorem dX9_bits_14 : decode cX9_bits 14 = .ok (.iconst 1, 1) := by decide +kernel
theorem dX9_bits_15 : decode cX9_bits 15 = .ok (.iand, 1) := by decide +kernel
theorem dX9_bits_16 : decode cX9_bits 16 = .ok (.iadd, 1) := by decide +kernel
theorem dX9_bits_17 : decode cX9_bits 17 = .ok (.istore_n 1, 1) := by decide +kernel
theorem dX9_bits_18 : decode cX9_bits 18 = .ok (.iinc 2 1, 3) := by decide +kernel
theorem dX9_bits_21 : decode cX9_bits 21 = .ok (.goto (-17), 3) := by decide +kernel
theorem dX9_bits_24 : decode cX9_bits 24 = .ok (.iload_n 1, 1) := by decide +kernel
theorem dX9_bits_25 : decode cX9_bits 25 = .ok (.ireturn, 1) := by decide +kernel
theorem dX9_feed_0 : decode cX9_feed 0 = .ok (.aload_n 0, 1) := by decide +kernel
theorem dX9_feed_1 : decode cX9_feed 1 = .ok (.iconst 0, 1) := by decide +kernel
theorem dX9_feed_2 : decode cX9_feed 2 = .ok (.putfield 102, 3) := by decide +kernel
theorem dX9_feed_5 : decode cX9_feed 5 = .ok (.aload_n 0, 1) := by decide +kernel
theorem dX9_feed_6 : decode cX9_feed 6 = .ok (.getfield 105, 3) := by decide +kernel
theorem dX9_feed_9 : decode cX9_feed 9 = .ok (.bipush 20, 2) := by decide +kernel
theorem dX9_feed_11 : decode cX9_feed 11 = .ok (.iadd, 1) := by decide +kernel
theorem dX9_feed_12 : decode cX9_feed 12 = .ok (.sipush 700, 3) := by decide +kernel
theorem dX9_feed_15 : decode cX9_feed 15 = .ok (.if_icmp .le 5, 3) := by decide +kernel
theorem dX9_feed_18 : decode cX9_feed 18 = .ok (.iconst (-1), 1) := by decide +kernel
theorem dX9_feed_19 : decode cX9_feed 19 = .ok (.ireturn, 1) := by decide +kernel
theorem dX9_feed_20 : decode cX9_feed 20 = .ok (.aload_n 0, 1) := by decide +kernel
theorem dX9_feed_21 : decode cX9_feed 21 = .ok (.iload_n 1, 1) := by decide +kernel
theorem dX9_feed_22 : decode cX9_feed 22 = .ok (.invokevirtual 108, 3) := by decide +kernel
theorem dX9_feed_25 : decode cX9_feed 25 = .ok (.aload_n 0, 1) := by decide +kernel
theorem dX9_feed_26 : decode cX9_feed 26 = .ok (.iload_n 2, 1) := by decide +kernel
theorem dX9_feed_27 : decode cX9_feed 27 = .ok (.invokevirtual 108, 3) := by decide +kernel
theorem dX9_feed_30 : decode cX9_feed 30 = .ok (.aload_n 0, 1) := by decide +kernel
theorem dX9_feed_31 : decode cX9_feed 31 = .ok (.iload_n 3, 1) := by decide +kernel
theorem dX9_feed_32 : decode cX9_feed 32 = .ok (.invokevirtual 108, 3) := by decide +kernel
theorem dX9_feed_35 : decode cX9_feed 35 = .ok (.aload_n 0, 1) := by decide +kernel
theorem dX9_feed_36 : decode cX9_feed 36 = .ok (.iload 4, 2) := by decide +kernel
theorem dX9_feed_38 : decode cX9_feed 38 = .ok (.invokevirtual 108, 3) := by decide +kernel
theorem dX9_feed_41 : decode cX9_feed 41 = .ok (.aload_n 0, 1) := by decide +kernel
theorem dX9_feed_42 : decode cX9_feed 42 = .ok (.iload 5, 2) := by decide +kernel
theorem dX9_feed_44 : decode cX9_feed 44 = .ok (.invokevirtual 108, 3) := by decide +kernel
theorem dX9_feed_47 : decode cX9_feed 47 = .ok (.aload_n 0, 1) := by decide +kernel
theorem dX9_feed_48 : decode cX9_feed 48 = .ok (.getfield 105, 3) := by decide +kernel
theorem dX9_feed_51 : decode cX9_feed 51 = .ok (.ireturn, 1) := by decide +kernel
theorem dX9_lays_0 : decode cX9_lays 0 = .ok (.bipush 24, 2) := by decide +kernel
theorem dX9_lays_2 : decode cX9_lays 2 = .ok (.istore_n 2, 1) := by decide +kernel
theorem dX9_lays_3 : decode cX9_lays 3 = .ok (.iload_n 2, 1) := by decide +kernel
theorem dX9_lays_4 : decode cX9_lays 4 = .ok (.ifCond .lt 35, 3) := by decide +kernel
theorem dX9_lays_7 : decode cX9_lays 7 = .ok (.aload_n 0, 1) := by decide +kernel
theorem dX9_lays_8 : decode cX9_lays 8 = .ok (.getfield 32, 3) := by decide +kernel
theorem dX9_lays_11 : decode cX9_lays 11 = .ok (.aload_n 0, 1) := by decide +kernel
theorem dX9_lays_12 : decode cX9_lays 12 = .ok (.getfield 105, 3) := by decide +kernel
theorem dX9_lays_15 : decode cX9_lays 15 = .ok (.iload_n 1, 1) := by decide +kernel
theorem dX9_lays_16 : decode cX9_lays 16 = .ok (.iload_n 2, 1) := by decide +kernel
theorem dX9_lays_17 : decode cX9_lays 17 = .ok (.ishr, 1) := by decide +kernel
theorem dX9_lays_18 : decode cX9_lays 18 = .ok (.sipush 255, 3) := by decide +kernel
theorem dX9_lays_21 : decode cX9_lays 21 = .ok (.iand, 1) := by decide +kernel
theorem dX9_lays_22 : decode cX9_lays 22 = .ok (.iastore, 1) := by decide +kernel
theorem dX9_lays_23 : decode cX9_lays 23 = .ok (.aload_n 0, 1) := by decide +kernel
theorem dX9_lays_24 : decode cX9_lays 24 = .ok (.dup, 1) := by decide +kernel
theorem dX9_lays_25 : decode cX9_lays 25 = .ok (.getfield 105, 3) := by decide +kernel
theorem dX9_lays_28 : decode cX9_lays 28 = .ok (.iconst 1, 1) := by decide +kernel
theorem dX9_lays_29 : decode cX9_lays 29 = .ok (.iadd, 1) := by decide +kernel
theorem dX9_lays_30 : decode cX9_lays 30 = .ok (.putfield 105, 3) := by decide +kernel
theorem dX9_lays_33 : decode cX9_lays 33 = .ok (.iinc 2 (-8), 3) := by decide +kernel
theorem dX9_lays_36 : decode cX9_lays 36 = .ok (.goto (-33), 3) := by decide +kernel
theorem dX9_lays_39 : decode cX9_lays 39 = .ok (.return_, 1) := by decide +kernel
theorem dX9_byteAt_0 : decode cX9_byteAt 0 = .ok (.iload_n 1, 1) := by decide +kernel
theorem dX9_byteAt_1 : decode cX9_byteAt 1 = .ok (.aload_n 0, 1) := by decide +kernel
theorem dX9_byteAt_2 : decode cX9_byteAt 2 = .ok (.getfield 112, 3) := by decide +kernel
theorem dX9_byteAt_5 : decode cX9_byteAt 5 = .ok (.if_icmp .ge 12, 3) := by decide +kernel
theorem dX9_byteAt_8 : decode cX9_byteAt 8 = .ok (.aload_n 0, 1) := by decide +kernel
theorem dX9_byteAt_9 : decode cX9_byteAt 9 = .ok (.getfield 32, 3) := by decide +kernel
theorem dX9_byteAt_12 : decode cX9_byteAt 12 = .ok (.iload_n 1, 1) := by decide +kernel
theorem dX9_byteAt_13 : decode cX9_byteAt 13 = .ok (.iaload, 1) := by decide +kernel
theorem dX9_byteAt_14 : decode cX9_byteAt 14 = .ok (.goto 4, 3) := by decide +kernel
theorem dX9_byteAt_17 : decode cX9_byteAt 17 = .ok (.iconst 0, 1) := by decide +kernel
theorem dX9_byteAt_18 : decode cX9_byteAt 18 = .ok (.ireturn, 1) := by decide +kernel
theorem dX9_isLetter_0 : decode cX9_isLetter 0 = .ok (.iload_n 0, 1) := by decide +kernel
theorem dX9_isLetter_1 : decode cX9_isLetter 1 = .ok (.bipush 97, 2) := by decide +kernel
theorem dX9_isLetter_3 : decode cX9_isLetter 3 = .ok (.if_icmp .lt 13, 3) := by decide +kernel
theorem dX9_isLetter_6 : decode cX9_isLetter 6 = .ok (.iload_n 0, 1) := by decide +kernel
theorem dX9_isLetter_7 : decode cX9_isLetter 7 = .ok (.bipush 122, 2) := by decide +kernel
theorem dX9_isLetter_9 : decode cX9_isLetter 9 = .ok (.if_icmp .gt 7, 3) := by decide +kernel
theorem dX9_isLetter_12 : decode cX9_isLetter 12 = .ok (.iconst 1, 1) := by decide +kernel
theorem dX9_isLetter_13 : decode cX9_isLetter 13 = .ok (.goto 4, 3) := by decide +kernel
theorem dX9_isLetter_16 : decode cX9_isLetter 16 = .ok (.iconst 0, 1) := by decide +kernel
theorem dX9_isLetter_17 : decode cX9_isLetter 17 = .ok (.ireturn, 1) := by decide +kernel
theorem dX9_isDigit_0 : decode cX9_isDigit 0 = .ok (.iload_n 0, 1) := by decide +kernel
theorem dX9_isDigit_1 : decode cX9_isDigit 1 = .ok (.bipush 48, 2) := by decide +kernel
theorem dX9_isDigit_3 : decode cX9_isDigit 3 = .ok (.if_icmp .lt 13, 3) := by decide +kernel
theorem dX9_isDigit_6 : decode cX9_isDigit 6 = .ok (.iload_n 0, 1) := by decide +kernel
theorem dX9_isDigit_7 : decode cX9_isDigit 7 = .ok (.bipush 57, 2) := by decide +kernel
theorem dX9_isDigit_9 : decode cX9_isDigit 9 = .ok (.if_icmp .gt 7, 3) := by decide +kernel
theorem dX9_isDigit_12 : decode cX9_isDigit 12 = .ok (.iconst 1, 1) := by decide +kernel
theorem dX9_isDigit_13 : decode cX9_isDigit 13 = .ok (.goto 4, 3) := by decide +kernel
theorem dX9_isDigit_16 : decode cX9_isDigit 16 = .ok (.iconst 0, 1) := by decide +kernel
theorem dX9_isDigit_17 : decode cX9_isDigit 17 = .ok (.ireturn, 1) := by decide +kernel
theorem dX9_goes_0 : decode cX9_goes 0 = .ok (.aload_n 0, 1) := by decide +kernel
theorem dX9_goes_1 : decode cX9_goes 1 = .ok (.getfield 115, 3) := by decide +kernel
theorem dX9_goes_4 : decode cX9_goes 4 = .ok (.aload_n 0, 1) := by decide +kernel
theorem dX9_goes_5 : decode cX9_goes 5 = .ok (.getfield 112, 3) := by decide +kernel
theorem dX9_goes_8 : decode cX9_goes 8 = .ok (.if_icmp .ge 42, 3) := by decide +kernel
theorem dX9_goes_11 : decode cX9_goes 11 = .ok (.aload_n 0, 1) := by decide +kernel
theorem dX9_goes_12 : decode cX9_goes 12 = .ok (.aload_n 0, 1) := by decide +kernel
theorem dX9_goes_13 : decode cX9_goes 13 = .ok (.getfield 115, 3) := by decide +kernel
theorem dX9_goes_16 : decode cX9_goes 16 = .ok (.invokevirtual 118, 3) := by decide +kernel
theorem dX9_goes_19 : decode cX9_goes 19 = .ok (.bipush 32, 2) := by decide +kernel
theorem dX9_goes_21 : decode cX9_goes 21 = .ok (.if_icmp .eq 16, 3) := by decide +kernel
theorem dX9_goes_24 : decode cX9_goes 24 = .ok (.aload_n 0, 1) := by decide +kernel
theorem dX9_goes_25 : decode cX9_goes 25 = .ok (.aload_n 0, 1) := by decide +kernel
theorem dX9_goes_26 : decode cX9_goes 26 = .ok (.getfield 115, 3) := by decide +kernel
theorem dX9_goes_29 : decode cX9_goes 29 = .ok (.invokevirtual 118, 3) := by decide +kernel
theorem dX9_goes_32 : decode cX9_goes 32 = .ok (.bipush 10, 2) := by decide +kernel
theorem dX9_goes_34 : decode cX9_goes 34 = .ok (.if_icmp .ne 16, 3) := by decide +kernel
theorem dX9_goes_37 : decode cX9_goes 37 = .ok (.aload_n 0, 1) := by decide +kernel
theorem dX9_goes_38 : decode cX9_goes 38 = .ok (.dup, 1) := by decide +kernel
theorem dX9_goes_39 : decode cX9_goes 39 = .ok (.getfield 115, 3) := by decide +kernel
theorem dX9_goes_42 : decode cX9_goes 42 = .ok (.iconst 1, 1) := by decide +kernel
theorem dX9_goes_43 : decode cX9_goes 43 = .ok (.iadd, 1) := by decide +kernel
theorem dX9_goes_44 : decode cX9_goes 44 = .ok (.putfield 115, 3) := by decide +kernel
theorem dX9_goes_47 : decode cX9_goes 47 = .ok (.goto (-47), 3) := by decide +kernel
theorem dX9_goes_50 : decode cX9_goes 50 = .ok (.aload_n 0, 1) := by decide +kernel
theorem dX9_goes_51 : decode cX9_goes 51 = .ok (.aload_n 0, 1) := by decide +kernel
theorem dX9_goes_52 : decode cX9_goes 52 = .ok (.getfield 115, 3) := by decide +kernel
theorem dX9_goes_55 : decode cX9_goes 55 = .ok (.putfield 122, 3) := by decide +kernel
theorem dX9_goes_58 : decode cX9_goes 58 = .ok (.aload_n 0, 1) := by decide +kernel
theorem dX9_goes_59 : decode cX9_goes 59 = .ok (.lconst 0, 1) := by decide +kernel
theorem dX9_goes_60 : decode cX9_goes 60 = .ok (.putfield 125, 3) := by decide +kernel
theorem dX9_goes_63 : decode cX9_goes 63 = .ok (.aload_n 0, 1) := by decide +kernel
theorem dX9_goes_64 : decode cX9_goes 64 = .ok (.iconst 0, 1) := by decide +kernel
theorem dX9_goes_65 : decode cX9_goes 65 = .ok (.putfield 129, 3) := by decide +kernel
theorem dX9_goes_68 : decode cX9_goes 68 = .ok (.aload_n 0, 1) := by decide +kernel
theorem dX9_goes_69 : decode cX9_goes 69 = .ok (.aload_n 0, 1) := by decide +kernel
theorem dX9_goes_70 : decode cX9_goes 70 = .ok (.getfield 115, 3) := by decide +kernel
theorem dX9_goes_73 : decode cX9_goes 73 = .ok (.invokevirtual 118, 3) := by decide +kernel
theorem dX9_goes_76 : decode cX9_goes 76 = .ok (.istore_n 1, 1) := by decide +kernel
theorem dX9_goes_77 : decode cX9_goes 77 = .ok (.aload_n 0, 1) := by decide +kernel
theorem dX9_goes_78 : decode cX9_goes 78 = .ok (.iload_n 1, 1) := by decide +kernel
theorem dX9_goes_79 : decode cX9_goes 79 = .ok (.putfield 132, 3) := by decide +kernel
theorem dX9_goes_82 : decode cX9_goes 82 = .ok (.aload_n 0, 1) := by decide +kernel
theorem dX9_goes_83 : decode cX9_goes 83 = .ok (.getfield 115, 3) := by decide +kernel
theorem dX9_goes_86 : decode cX9_goes 86 = .ok (.aload_n 0, 1) := by decide +kernel
theorem dX9_goes_87 : decode cX9_goes 87 = .ok (.getfield 112, 3) := by decide +kernel
theorem dX9_goes_90 : decode cX9_goes 90 = .ok (.if_icmp .lt 11, 3) := by decide +kernel
theorem dX9_goes_93 : decode cX9_goes 93 = .ok (.aload_n 0, 1) := by decide +kernel
theorem dX9_goes_94 : decode cX9_goes 94 = .ok (.iconst 0, 1) := by decide +kernel
theorem dX9_goes_95 : decode cX9_goes 95 = .ok (.putfield 135, 3) := by decide +kernel
theorem dX9_goes_98 : decode cX9_goes 98 = .ok (.goto 233, 3) := by decide +kernel
theorem dX9_goes_101 : decode cX9_goes 101 = .ok (.iload_n 1, 1) := by decide +kernel
theorem dX9_goes_102 : decode cX9_goes 102 = .ok (.invokestatic 138, 3) := by decide +kernel
theorem dX9_goes_105 : decode cX9_goes 105 = .ok (.ifCond .eq 75, 3) := by decide +kernel
theorem dX9_goes_108 : decode cX9_goes 108 = .ok (.aload_n 0, 1) := by decide +kernel
theorem dX9_goes_109 : decode cX9_goes 109 = .ok (.aload_n 0, 1) := by decide +kernel
theorem dX9_goes_110 : decode cX9_goes 110 = .ok (.getfield 115, 3) := by decide +kernel
theorem dX9_goes_113 : decode cX9_goes 113 = .ok (.invokevirtual 118, 3) := by decide +kernel
theorem dX9_goes_116 : decode cX9_goes 116 = .ok (.invokestatic 138, 3) := by decide +kernel
theorem dX9_goes_119 : decode cX9_goes 119 = .ok (.ifCond .eq 53, 3) := by decide +kernel
theorem dX9_goes_122 : decode cX9_goes 122 = .ok (.aload_n 0, 1) := by decide +kernel
theorem dX9_goes_123 : decode cX9_goes 123 = .ok (.getfield 115, 3) := by decide +kernel
theorem dX9_goes_126 : decode cX9_goes 126 = .ok (.aload_n 0, 1) := by decide +kernel
theorem dX9_goes_127 : decode cX9_goes 127 = .ok (.getfield 122, 3) := by decide +kernel
theorem dX9_goes_130 : decode cX9_goes 130 = .ok (.isub, 1) := by decide +kernel
theorem dX9_goes_131 : decode cX9_goes 131 = .ok (.bipush 8, 2) := by decide +kernel
theorem dX9_goes_133 : decode cX9_goes 133 = .ok (.if_icmp .ge 26, 3) := by decide +kernel
theorem dX9_goes_136 : decode cX9_goes 136 = .ok (.aload_n 0, 1) := by decide +kernel
theorem dX9_goes_137 : decode cX9_goes 137 = .ok (.aload_n 0, 1) := by decide +kernel
theorem dX9_goes_138 : decode cX9_goes 138 = .ok (.getfield 125, 3) := by decide +kernel
theorem dX9_goes_141 : decode cX9_goes 141 = .ok (.iconst 5, 1) := by decide +kernel
theorem dX9_goes_142 : decode cX9_goes 142 = .ok (.lshl, 1) := by decide +kernel
theorem dX9_goes_143 : decode cX9_goes 143 = .ok (.aload_n 0, 1) := by decide +kernel
theorem dX9_goes_144 : decode cX9_goes 144 = .ok (.aload_n 0, 1) := by decide +kernel
theorem dX9_goes_145 : decode cX9_goes 145 = .ok (.getfield 115, 3) := by decide +kernel
theorem dX9_goes_148 : decode cX9_goes 148 = .ok (.invokevirtual 118, 3) := by decide +kernel
theorem dX9_goes_151 : decode cX9_goes 151 = .ok (.bipush 96, 2) := by decide +kernel
theorem dX9_goes_153 : decode cX9_goes 153 = .ok (.isub, 1) := by decide +kernel
theorem dX9_goes_154 : decode cX9_goes 154 = .ok (.i2l, 1) := by decide +kernel
theorem dX9_goes_155 : decode cX9_goes 155 = .ok (.lor, 1) := by decide +kernel
theorem dX9_goes_156 : decode cX9_goes 156 = .ok (.putfield 125, 3) := by decide +kernel
theorem dX9_goes_159 : decode cX9_goes 159 = .ok (.aload_n 0, 1) := by decide +kernel
theorem dX9_goes_160 : decode cX9_goes 160 = .ok (.dup, 1) := by decide +kernel
theorem dX9_goes_161 : decode cX9_goes 161 = .ok (.getfield 115, 3) := by decide +kernel
theorem dX9_goes_164 : decode cX9_goes 164 = .ok (.iconst 1, 1) := by decide +kernel
theorem dX9_goes_165 : decode cX9_goes 165 = .ok (.iadd, 1) := by decide +kernel
theorem dX9_goes_166 : decode cX9_goes 166 = .ok (.putfield 115, 3) := by decide +kernel
theorem dX9_goes_169 : decode cX9_goes 169 = .ok (.goto (-61), 3) := by decide +kernel
theorem dX9_goes_172 : decode cX9_goes 172 = .ok (.aload_n 0, 1) := by decide +kernel
theorem dX9_goes_173 : decode cX9_goes 173 = .ok (.iconst 1, 1) := by decide +kernel
theorem dX9_goes_174 : decode cX9_goes 174 = .ok (.putfield 135, 3) := by decide +kernel
theorem dX9_goes_177 : decode cX9_goes 177 = .ok (.goto 154, 3) := by decide +kernel
theorem dX9_goes_180 : decode cX9_goes 180 = .ok (.iload_n 1, 1) := by decide +kernel
theorem dX9_goes_181 : decode cX9_goes 181 = .ok (.invokestatic 142, 3) := by decide +kernel
theorem dX9_goes_184 : decode cX9_goes 184 = .ok (.ifCond .eq 74, 3) := by decide +kernel
theorem dX9_goes_187 : decode cX9_goes 187 = .ok (.aload_n 0, 1) := by decide +kernel
theorem dX9_goes_188 : decode cX9_goes 188 = .ok (.aload_n 0, 1) := by decide +kernel
theorem dX9_goes_189 : decode cX9_goes 189 = .ok (.getfield 115, 3) := by decide +kernel
theorem dX9_goes_192 : decode cX9_goes 192 = .ok (.invokevirtual 118, 3) := by decide +kernel
theorem dX9_goes_195 : decode cX9_goes 195 = .ok (.invokestatic 142, 3) := by decide +kernel
theorem dX9_goes_198 : decode cX9_goes 198 = .ok (.ifCond .eq 52, 3) := by decide +kernel
theorem dX9_goes_201 : decode cX9_goes 201 = .ok (.aload_n 0, 1) := by decide +kernel
theorem dX9_goes_202 : decode cX9_goes 202 = .ok (.getfield 115, 3) := by decide +kernel
theorem dX9_goes_205 : decode cX9_goes 205 = .ok (.aload_n 0, 1) := by decide +kernel
theorem dX9_goes_206 : decode cX9_goes 206 = .ok (.getfield 122, 3) := by decide +kernel
theorem dX9_goes_209 : decode cX9_goes 209 = .ok (.isub, 1) := by decide +kernel
theorem dX9_goes_210 : decode cX9_goes 210 = .ok (.iconst 4, 1) := by decide +kernel
theorem dX9_goes_211 : decode cX9_goes 211 = .ok (.if_icmp .ge 26, 3) := by decide +kernel
theorem dX9_goes_214 : decode cX9_goes 214 = .ok (.aload_n 0, 1) := by decide +kernel
theorem dX9_goes_215 : decode cX9_goes 215 = .ok (.bipush 10, 2) := by decide +kernel
theorem dX9_goes_217 : decode cX9_goes 217 = .ok (.aload_n 0, 1) := by decide +kernel
theorem dX9_goes_218 : decode cX9_goes 218 = .ok (.getfield 129, 3) := by decide +kernel
theorem dX9_goes_221 : decode cX9_goes 221 = .ok (.imul, 1) := by decide +kernel
theorem dX9_goes_222 : decode cX9_goes 222 = .ok (.aload_n 0, 1) := by decide +kernel
theorem dX9_goes_223 : decode cX9_goes 223 = .ok (.aload_n 0, 1) := by decide +kernel
theorem dX9_goes_224 : decode cX9_goes 224 = .ok (.getfield 115, 3) := by decide +kernel
theorem dX9_goes_227 : decode cX9_goes 227 = .ok (.invokevirtual 118, 3) := by decide +kernel
theorem dX9_goes_230 : decode cX9_goes 230 = .ok (.iadd, 1) := by decide +kernel
theorem dX9_goes_231 : decode cX9_goes 231 = .ok (.bipush 48, 2) := by decide +kernel
theorem dX9_goes_233 : decode cX9_goes 233 = .ok (.isub, 1) := by decide +kernel
theorem dX9_goes_234 : decode cX9_goes 234 = .ok (.putfield 129, 3) := by decide +kernel
theorem dX9_goes_237 : decode cX9_goes 237 = .ok (.aload_n 0, 1) := by decide +kernel
theorem dX9_goes_238 : decode cX9_goes 238 = .ok (.dup, 1) := by decide +kernel
theorem dX9_goes_239 : decode cX9_goes 239 = .ok (.getfield 115, 3) := by decide +kernel
theorem dX9_goes_242 : decode cX9_goes 242 = .ok (.iconst 1, 1) := by decide +kernel
theorem dX9_goes_243 : decode cX9_goes 243 = .ok (.iadd, 1) := by decide +kernel
theorem dX9_goes_244 : decode cX9_goes 244 = .ok (.putfield 115, 3) := by decide +kernel
theorem dX9_goes_247 : decode cX9_goes 247 = .ok (.goto (-60), 3) := by decide +kernel
theorem dX9_goes_250 : decode cX9_goes 250 = .ok (.aload_n 0, 1) := by decide +kernel
theorem dX9_goes_251 : decode cX9_goes 251 = .ok (.iconst 2, 1) := by decide +kernel
theorem dX9_goes_252 : decode cX9_goes 252 = .ok (.putfield 135, 3) := by decide +kernel
theorem dX9_goes_255 : decode cX9_goes 255 = .ok (.goto 76, 3) := by decide +kernel
theorem dX9_goes_258 : decode cX9_goes 258 = .ok (.aload_n 0, 1) := by decide +kernel
theorem dX9_goes_259 : decode cX9_goes 259 = .ok (.dup, 1) := by decide +kernel
theorem dX9_goes_260 : decode cX9_goes 260 = .ok (.getfield 115, 3) := by decide +kernel
theorem dX9_goes_263 : decode cX9_goes 263 = .ok (.iconst 1, 1) := by decide +kernel
theorem dX9_goes_264 : decode cX9_goes 264 = .ok (.iadd, 1) := by decide +kernel
theorem dX9_goes_265 : decode cX9_goes 265 = .ok (.putfield 115, 3) := by decide +kernel
theorem dX9_goes_268 : decode cX9_goes 268 = .ok (.aload_n 0, 1) := by decide +kernel
theorem dX9_goes_269 : decode cX9_goes 269 = .ok (.iload_n 1, 1) := by decide +kernel
theorem dX9_goes_270 : decode cX9_goes 270 = .ok (.bipush 59, 2) := by decide +kernel
theorem dX9_goes_272 : decode cX9_goes 272 = .ok (.if_icmp .eq 51, 3) := by decide +kernel
theorem dX9_goes_275 : decode cX9_goes 275 = .ok (.iload_n 1, 1) := by decide +kernel
theorem dX9_goes_276 : decode cX9_goes 276 = .ok (.bipush 40, 2) := by decide +kernel
theorem dX9_goes_278 : decode cX9_goes 278 = .ok (.if_icmp .eq 45, 3) := by decide +kernel
theorem dX9_goes_281 : decode cX9_goes 281 = .ok (.iload_n 1, 1) := by decide +kernel
theorem dX9_goes_282 : decode cX9_goes 282 = .ok (.bipush 41, 2) := by decide +kernel
theorem dX9_goes_284 : decode cX9_goes 284 = .ok (.if_icmp .eq 39, 3) := by decide +kernel
theorem dX9_goes_287 : decode cX9_goes 287 = .ok (.iload_n 1, 1) := by decide +kernel
theorem dX9_goes_288 : decode cX9_goes 288 = .ok (.bipush 43, 2) := by decide +kernel
theorem dX9_goes_290 : decode cX9_goes 290 = .ok (.if_icmp .eq 33, 3) := by decide +kernel
theorem dX9_goes_293 : decode cX9_goes 293 = .ok (.iload_n 1, 1) := by decide +kernel
theorem dX9_goes_294 : decode cX9_goes 294 = .ok (.bipush 45, 2) := by decide +kernel
theorem dX9_goes_296 : decode cX9_goes 296 = .ok (.if_icmp .eq 27, 3) := by decide +kernel
theorem dX9_goes_299 : decode cX9_goes 299 = .ok (.iload_n 1, 1) := by decide +kernel
theorem dX9_goes_300 : decode cX9_goes 300 = .ok (.bipush 42, 2) := by decide +kernel
theorem dX9_goes_302 : decode cX9_goes 302 = .ok (.if_icmp .eq 21, 3) := by decide +kernel
theorem dX9_goes_305 : decode cX9_goes 305 = .ok (.iload_n 1, 1) := by decide +kernel
theorem dX9_goes_306 : decode cX9_goes 306 = .ok (.bipush 47, 2) := by decide +kernel
theorem dX9_goes_308 : decode cX9_goes 308 = .ok (.if_icmp .eq 15, 3) := by decide +kernel
theorem dX9_goes_311 : decode cX9_goes 311 = .ok (.iload_n 1, 1) := by decide +kernel
theorem dX9_goes_312 : decode cX9_goes 312 = .ok (.bipush 60, 2) := by decide +kernel
theorem dX9_goes_314 : decode cX9_goes 314 = .ok (.if_icmp .eq 9, 3) := by decide +kernel
theorem dX9_goes_317 : decode cX9_goes 317 = .ok (.iload_n 1, 1) := by decide +kernel
theorem dX9_goes_318 : decode cX9_goes 318 = .ok (.bipush 61, 2) := by decide +kernel
theorem dX9_goes_320 : decode cX9_goes 320 = .ok (.if_icmp .ne 7, 3) := by decide +kernel
theorem dX9_goes_323 : decode cX9_goes 323 = .ok (.iconst 3, 1) := by decide +kernel
theorem dX9_goes_324 : decode cX9_goes 324 = .ok (.goto 4, 3) := by decide +kernel
theorem dX9_goes_327 : decode cX9_goes 327 = .ok (.iconst 4, 1) := by decide +kernel
theorem dX9_goes_328 : decode cX9_goes 328 = .ok (.putfield 135, 3) := by decide +kernel
theorem dX9_goes_331 : decode cX9_goes 331 = .ok (.aload_n 0, 1) := by decide +kernel
theorem dX9_goes_332 : decode cX9_goes 332 = .ok (.aload_n 0, 1) := by decide +kernel
theorem dX9_goes_333 : decode cX9_goes 333 = .ok (.getfield 115, 3) := by decide +kernel
theorem dX9_goes_336 : decode cX9_goes 336 = .ok (.aload_n 0, 1) := by decide +kernel
theorem dX9_goes_337 : decode cX9_goes 337 = .ok (.getfield 122, 3) := by decide +kernel
theorem dX9_goes_340 : decode cX9_goes 340 = .ok (.isub, 1) := by decide +kernel
theorem dX9_goes_341 : decode cX9_goes 341 = .ok (.putfield 145, 3) := by decide +kernel
theorem dX9_goes_344 : decode cX9_goes 344 = .ok (.return_, 1) := by decide +kernel
theorem dX9_spelled_0 : decode cX9_spelled 0 = .ok (.iload_n 0, 1) := by decide +kernel
theorem dX9_spelled_1 : decode cX9_spelled 1 = .ok (.i2l, 1) := by decide +kernel
theorem dX9_spelled_2 : decode cX9_spelled 2 = .ok (.ldc2_w 148, 3) := by decide +kernel
theorem dX9_spelled_5 : decode cX9_spelled 5 = .ok (.lsub, 1) := by decide +kernel
theorem dX9_spelled_6 : decode cX9_spelled 6 = .ok (.iconst 5, 1) := by decide +kernel
theorem dX9_spelled_7 : decode cX9_spelled 7 = .ok (.lshl, 1) := by decide +kernel
theorem dX9_spelled_8 : decode cX9_spelled 8 = .ok (.iload_n 1, 1) := by decide +kernel
theorem dX9_spelled_9 : decode cX9_spelled 9 = .ok (.bipush 96, 2) := by decide +kernel
theorem dX9_spelled_11 : decode cX9_spelled 11 = .ok (.isub, 1) := by decide +kernel
theorem dX9_spelled_12 : decode cX9_spelled 12 = .ok (.i2l, 1) := by decide +kernel
theorem dX9_spelled_13 : decode cX9_spelled 13 = .ok (.lor, 1) := by decide +kernel
theorem dX9_spelled_14 : decode cX9_spelled 14 = .ok (.lstore 8, 2) := by decide +kernel
theorem dX9_spelled_16 : decode cX9_spelled 16 = .ok (.iload_n 2, 1) := by decide +kernel
theorem dX9_spelled_17 : decode cX9_spelled 17 = .ok (.ifCond .eq 15, 3) := by decide +kernel
theorem dX9_spelled_20 : decode cX9_spelled 20 = .ok (.lload 8, 2) := by decide +kernel
theorem dX9_spelled_22 : decode cX9_spelled 22 = .ok (.iconst 5, 1) := by decide +kernel
theorem dX9_spelled_23 : decode cX9_spelled 23 = .ok (.lshl, 1) := by decide +kernel
theorem dX9_spelled_24 : decode cX9_spelled 24 = .ok (.iload_n 2, 1) := by decide +kernel
theorem dX9_spelled_25 : decode cX9_spelled 25 = .ok (.bipush 96, 2) := by decide +kernel
theorem dX9_spelled_27 : decode cX9_spelled 27 = .ok (.isub, 1) := by decide +kernel
theorem dX9_spelled_28 : decode cX9_spelled 28 = .ok (.i2l, 1) := by decide +kernel
theorem dX9_spelled_29 : decode cX9_spelled 29 = .ok (.lor, 1) := by decide +kernel
theorem dX9_spelled_30 : decode cX9_spelled 30 = .ok (.lstore 8, 2) := by decide +kernel
theorem dX9_spelled_32 : decode cX9_spelled 32 = .ok (.iload_n 3, 1) := by decide +kernel
theorem dX9_spelled_33 : decode cX9_spelled 33 = .ok (.ifCond .eq 15, 3) := by decide +kernel
theorem dX9_spelled_36 : decode cX9_spelled 36 = .ok (.lload 8, 2) := by decide +kernel
theorem dX9_spelled_38 : decode cX9_spelled 38 = .ok (.iconst 5, 1) := by decide +kernel
theorem dX9_spelled_39 : decode cX9_spelled 39 = .ok (.lshl, 1) := by decide +kernel
theorem dX9_spelled_40 : decode cX9_spelled 40 = .ok (.iload_n 3, 1) := by decide +kernel
theorem dX9_spelled_41 : decode cX9_spelled 41 = .ok (.bipush 96, 2) := by decide +kernel
theorem dX9_spelled_43 : decode cX9_spelled 43 = .ok (.isub, 1) := by decide +kernel
theorem dX9_spelled_44 : decode cX9_spelled 44 = .ok (.i2l, 1) := by decide +kernel
theorem dX9_spelled_45 : decode cX9_spelled 45 = .ok (.lor, 1) := by decide +kernel
theorem dX9_spelled_46 : decode cX9_spelled 46 = .ok (.lstore 8, 2) := by decide +kernel
theorem dX9_spelled_48 : decode cX9_spelled 48 = .ok (.iload 4, 2) := by decide +kernel
theorem dX9_spelled_50 : decode cX9_spelled 50 = .ok (.ifCond .eq 16, 3) := by decide +kernel
theorem dX9_spelled_53 : decode cX9_spelled 53 = .ok (.lload 8, 2) := by decide +kernel
theorem dX9_spelled_55 : decode cX9_spelled 55 = .ok (.iconst 5, 1) := by decide +kernel
theorem dX9_spelled_56 : decode cX9_spelled 56 = .ok (.lshl, 1) := by decide +kernel
theorem dX9_spelled_57 : decode cX9_spelled 57 = .ok (.iload 4, 2) := by decide +kernel
theorem dX9_spelled_59 : decode cX9_spelled 59 = .ok (.bipush 96, 2) := by decide +kernel
theorem dX9_spelled_61 : decode cX9_spelled 61 = .ok (.isub, 1) := by decide +kernel
theorem dX9_spelled_62 : decode cX9_spelled 62 = .ok (.i2l, 1) := by decide +kernel
theorem dX9_spelled_63 : decode cX9_spelled 63 = .ok (.lor, 1) := by decide +kernel
theorem dX9_spelled_64 : decode cX9_spelled 64 = .ok (.lstore 8, 2) := by decide +kernel
theorem dX9_spelled_66 : decode cX9_spelled 66 = .ok (.iload 5, 2) := by decide +kernel
theorem dX9_spelled_68 : decode cX9_spelled 68 = .ok (.ifCond .eq 16, 3) := by decide +kernel
theorem dX9_spelled_71 : decode cX9_spelled 71 = .ok (.lload 8, 2) := by decide +kernel
theorem dX9_spelled_73 : decode cX9_spelled 73 = .ok (.iconst 5, 1) := by decide +kernel
theorem dX9_spelled_74 : decode cX9_spelled 74 = .ok (.lshl, 1) := by decide +kernel
theorem dX9_spelled_75 : decode cX9_spelled 75 = .ok (.iload 5, 2) := by decide +kernel
theorem dX9_spelled_77 : decode cX9_spelled 77 = .ok (.bipush 96, 2) := by decide +kernel
theorem dX9_spelled_79 : decode cX9_spelled 79 = .ok (.isub, 1) := by decide +kernel
theorem dX9_spelled_80 : decode cX9_spelled 80 = .ok (.i2l, 1) := by decide +kernel
theorem dX9_spelled_81 : decode cX9_spelled 81 = .ok (.lor, 1) := by decide +kernel
theorem dX9_spelled_82 : decode cX9_spelled 82 = .ok (.lstore 8, 2) := by decide +kernel
theorem dX9_spelled_84 : decode cX9_spelled 84 = .ok (.iload 6, 2) := by decide +kernel
theorem dX9_spelled_86 : decode cX9_spelled 86 = .ok (.ifCond .eq 16, 3) := by decide +kernel
theorem dX9_spelled_89 : decode cX9_spelled 89 = .ok (.lload 8, 2) := by decide +kernel
theorem dX9_spelled_91 : decode cX9_spelled 91 = .ok (.iconst 5, 1) := by decide +kernel
theorem dX9_spelled_92 : decode cX9_spelled 92 = .ok (.lshl, 1) := by decide +kernel
theorem dX9_spelled_93 : decode cX9_spelled 93 = .ok (.iload 6, 2) := by decide +kernel
theorem dX9_spelled_95 : decode cX9_spelled 95 = .ok (.bipush 96, 2) := by decide +kernel
theorem dX9_spelled_97 : decode cX9_spelled 97 = .ok (.isub, 1) := by decide +kernel
theorem dX9_spelled_98 : decode cX9_spelled 98 = .ok (.i2l, 1) := by decide +kernel
theorem dX9_spelled_99 : decode cX9_spelled 99 = .ok (.lor, 1) := by decide +kernel
theorem dX9_spelled_100 : decode cX9_spelled 100 = .ok (.lstore 8, 2) := by decide +kernel
theorem dX9_spelled_102 : decode cX9_spelled 102 = .ok (.iload 7, 2) := by decide +kernel
theorem dX9_spelled_104 : decode cX9_spelled 104 = .ok (.ifCond .eq 16, 3) := by decide +kernel
theorem dX9_spelled_107 : decode cX9_spelled 107 = .ok (.lload 8, 2) := by decide +kernel
theorem dX9_spelled_109 : decode cX9_spelled 109 = .ok (.iconst 5, 1) := by decide +kernel
theorem dX9_spelled_110 : decode cX9_spelled 110 = .ok (.lshl, 1) := by decide +kernel
theorem dX9_spelled_111 : decode cX9_spelled 111 = .ok (.iload 7, 2) := by decide +kernel
theorem dX9_spelled_113 : decode cX9_spelled 113 = .ok (.bipush 96, 2) := by decide +kernel
theorem dX9_spelled_115 : decode cX9_spelled 115 = .ok (.isub, 1) := by decide +kernel
theorem dX9_spelled_116 : decode cX9_spelled 116 = .ok (.i2l, 1) := by decide +kernel
theorem dX9_spelled_117 : decode cX9_spelled 117 = .ok (.lor, 1) := by decide +kernel
theorem dX9_spelled_118 : decode cX9_spelled 118 = .ok (.lstore 8, 2) := by decide +kernel
theorem dX9_spelled_120 : decode cX9_spelled 120 = .ok (.lload 8, 2) := by decide +kernel
theorem dX9_spelled_122 : decode cX9_spelled 122 = .ok (.lreturn, 1) := by decide +kernel
theorem dX9_letters_0 : decode cX9_letters 0 = .ok (.iload_n 0, 1) := by decide +kernel
theorem dX9_letters_1 : decode cX9_letters 1 = .ok (.tableswitch 429 0 19 #[95, 111, 129, 147, 163, 181, 196, 213, 230, 246, 262, 278, 296, 312, 328, 346, 363, 380, 400, 415], 95) := by decide +kernel
theorem dX9_letters_96 : decode cX9_letters 96 = .ok (.bipush 119, 2) := by decide +kernel
theorem dX9_letters_98 : decode cX9_letters 98 = .ok (.bipush 105, 2) := by decide +kernel
theorem dX9_letters_100 : decode cX9_letters 100 = .ok (.bipush 110, 2) := by decide +kernel
theorem dX9_letters_102 : decode cX9_letters 102 = .ok (.bipush 100, 2) := by decide +kernel
theorem dX9_letters_104 : decode cX9_letters 104 = .ok (.iconst 0, 1) := by decide +kernel
theorem dX9_letters_105 : decode cX9_letters 105 = .ok (.iconst 0, 1) := by decide +kernel
theorem dX9_letters_106 : decode cX9_letters 106 = .ok (.iconst 0, 1) := by decide +kernel
theorem dX9_letters_107 : decode cX9_letters 107 = .ok (.iconst 0, 1) := by decide +kernel
theorem dX9_letters_108 : decode cX9_letters 108 = .ok (.invokestatic 150, 3) := by decide +kernel
theorem dX9_letters_111 : decode cX9_letters 111 = .ok (.lreturn, 1) := by decide +kernel
theorem dX9_letters_112 : decode cX9_letters 112 = .ok (.bipush 119, 2) := by decide +kernel
theorem dX9_letters_114 : decode cX9_letters 114 = .ok (.bipush 101, 2) := by decide +kernel
theorem dX9_letters_116 : decode cX9_letters 116 = .ok (.bipush 105, 2) := by decide +kernel
theorem dX9_letters_118 : decode cX9_letters 118 = .ok (.bipush 103, 2) := by decide +kernel
theorem dX9_letters_120 : decode cX9_letters 120 = .ok (.bipush 104, 2) := by decide +kernel
theorem dX9_letters_122 : decode cX9_letters 122 = .ok (.bipush 116, 2) := by decide +kernel
theorem dX9_letters_124 : decode cX9_letters 124 = .ok (.iconst 0, 1) := by decide +kernel
theorem dX9_letters_125 : decode cX9_letters 125 = .ok (.iconst 0, 1) := by decide +kernel
theorem dX9_letters_126 : decode cX9_letters 126 = .ok (.invokestatic 150, 3) := by decide +kernel
theorem dX9_letters_129 : decode cX9_letters 129 = .ok (.lreturn, 1) := by decide +kernel
theorem dX9_letters_130 : decode cX9_letters 130 = .ok (.bipush 109, 2) := by decide +kernel
theorem dX9_letters_132 : decode cX9_letters 132 = .ok (.bipush 111, 2) := by decide +kernel
theorem dX9_letters_134 : decode cX9_letters 134 = .ok (.bipush 114, 2) := by decide +kernel
theorem dX9_letters_136 : decode cX9_letters 136 = .ok (.bipush 116, 2) := by decide +kernel
theorem dX9_letters_138 : decode cX9_letters 138 = .ok (.bipush 97, 2) := by decide +kernel
theorem dX9_letters_140 : decode cX9_letters 140 = .ok (.bipush 114, 2) := by decide +kernel
theorem dX9_letters_142 : decode cX9_letters 142 = .ok (.iconst 0, 1) := by decide +kernel
theorem dX9_letters_143 : decode cX9_letters 143 = .ok (.iconst 0, 1) := by decide +kernel
theorem dX9_letters_144 : decode cX9_letters 144 = .ok (.invokestatic 150, 3) := by decide +kernel
theorem dX9_letters_147 : decode cX9_letters 147 = .ok (.lreturn, 1) := by decide +kernel
theorem dX9_letters_148 : decode cX9_letters 148 = .ok (.bipush 108, 2) := by decide +kernel
theorem dX9_letters_150 : decode cX9_letters 150 = .ok (.bipush 101, 2) := by decide +kernel
theorem dX9_letters_152 : decode cX9_letters 152 = .ok (.bipush 97, 2) := by decide +kernel
theorem dX9_letters_154 : decode cX9_letters 154 = .ok (.bipush 110, 2) := by decide +kernel
theorem dX9_letters_156 : decode cX9_letters 156 = .ok (.iconst 0, 1) := by decide +kernel
theorem dX9_letters_157 : decode cX9_letters 157 = .ok (.iconst 0, 1) := by decide +kernel
theorem dX9_letters_158 : decode cX9_letters 158 = .ok (.iconst 0, 1) := by decide +kernel
theorem dX9_letters_159 : decode cX9_letters 159 = .ok (.iconst 0, 1) := by decide +kernel
theorem dX9_letters_160 : decode cX9_letters 160 = .ok (.invokestatic 150, 3) := by decide +kernel
theorem dX9_letters_163 : decode cX9_letters 163 = .ok (.lreturn, 1) := by decide +kernel
theorem dX9_letters_164 : decode cX9_letters 164 = .ok (.bipush 104, 2) := by decide +kernel
theorem dX9_letters_166 : decode cX9_letters 166 = .ok (.bipush 101, 2) := by decide +kernel
theorem dX9_letters_168 : decode cX9_letters 168 = .ok (.bipush 105, 2) := by decide +kernel
theorem dX9_letters_170 : decode cX9_letters 170 = .ok (.bipush 103, 2) := by decide +kernel
theorem dX9_letters_172 : decode cX9_letters 172 = .ok (.bipush 104, 2) := by decide +kernel
theorem dX9_letters_174 : decode cX9_letters 174 = .ok (.bipush 116, 2) := by decide +kernel
theorem dX9_letters_176 : decode cX9_letters 176 = .ok (.iconst 0, 1) := by decide +kernel
theorem dX9_letters_177 : decode cX9_letters 177 = .ok (.iconst 0, 1) := by decide +kernel
theorem dX9_letters_178 : decode cX9_letters 178 = .ok (.invokestatic 150, 3) := by decide +kernel
theorem dX9_letters_181 : decode cX9_letters 181 = .ok (.lreturn, 1) := by decide +kernel
theorem dX9_letters_182 : decode cX9_letters 182 = .ok (.bipush 100, 2) := by decide +kernel
theorem dX9_letters_184 : decode cX9_letters 184 = .ok (.bipush 97, 2) := by decide +kernel
theorem dX9_letters_186 : decode cX9_letters 186 = .ok (.bipush 121, 2) := by decide +kernel
theorem dX9_letters_188 : decode cX9_letters 188 = .ok (.iconst 0, 1) := by decide +kernel
theorem dX9_letters_189 : decode cX9_letters 189 = .ok (.iconst 0, 1) := by decide +kernel
theorem dX9_letters_190 : decode cX9_letters 190 = .ok (.iconst 0, 1) := by decide +kernel
theorem dX9_letters_191 : decode cX9_letters 191 = .ok (.iconst 0, 1) := by decide +kernel
theorem dX9_letters_192 : decode cX9_letters 192 = .ok (.iconst 0, 1) := by decide +kernel
theorem dX9_letters_193 : decode cX9_letters 193 = .ok (.invokestatic 150, 3) := by decide +kernel
theorem dX9_letters_196 : decode cX9_letters 196 = .ok (.lreturn, 1) := by decide +kernel
theorem dX9_letters_197 : decode cX9_letters 197 = .ok (.bipush 102, 2) := by decide +kernel
theorem dX9_letters_199 : decode cX9_letters 199 = .ok (.bipush 97, 2) := by decide +kernel
theorem dX9_letters_201 : decode cX9_letters 201 = .ok (.bipush 105, 2) := by decide +kernel
theorem dX9_letters_203 : decode cX9_letters 203 = .ok (.bipush 116, 2) := by decide +kernel
theorem dX9_letters_205 : decode cX9_letters 205 = .ok (.bipush 104, 2) := by decide +kernel
theorem dX9_letters_207 : decode cX9_letters 207 = .ok (.iconst 0, 1) := by decide +kernel
theorem dX9_letters_208 : decode cX9_letters 208 = .ok (.iconst 0, 1) := by decide +kernel
theorem dX9_letters_209 : decode cX9_letters 209 = .ok (.iconst 0, 1) := by decide +kernel
theorem dX9_letters_210 : decode cX9_letters 210 = .ok (.invokestatic 150, 3) := by decide +kernel
theorem dX9_letters_213 : decode cX9_letters 213 = .ok (.lreturn, 1) := by decide +kernel
theorem dX9_letters_214 : decode cX9_letters 214 = .ok (.bipush 100, 2) := by decide +kernel
theorem dX9_letters_216 : decode cX9_letters 216 = .ok (.bipush 111, 2) := by decide +kernel
theorem dX9_letters_218 : decode cX9_letters 218 = .ok (.bipush 117, 2) := by decide +kernel
theorem dX9_letters_220 : decode cX9_letters 220 = .ok (.bipush 98, 2) := by decide +kernel
theorem dX9_letters_222 : decode cX9_letters 222 = .ok (.bipush 116, 2) := by decide +kernel
theorem dX9_letters_224 : decode cX9_letters 224 = .ok (.iconst 0, 1) := by decide +kernel
theorem dX9_letters_225 : decode cX9_letters 225 = .ok (.iconst 0, 1) := by decide +kernel
theorem dX9_letters_226 : decode cX9_letters 226 = .ok (.iconst 0, 1) := by decide +kernel
theorem dX9_letters_227 : decode cX9_letters 227 = .ok (.invokestatic 150, 3) := by decide +kernel
theorem dX9_letters_230 : decode cX9_letters 230 = .ok (.lreturn, 1) := by decide +kernel
theorem dX9_letters_231 : decode cX9_letters 231 = .ok (.bipush 102, 2) := by decide +kernel
theorem dX9_letters_233 : decode cX9_letters 233 = .ok (.bipush 101, 2) := by decide +kernel
theorem dX9_letters_235 : decode cX9_letters 235 = .ok (.bipush 108, 2) := by decide +kernel
theorem dX9_letters_237 : decode cX9_letters 237 = .ok (.bipush 108, 2) := by decide +kernel
theorem dX9_letters_239 : decode cX9_letters 239 = .ok (.iconst 0, 1) := by decide +kernel
theorem dX9_letters_240 : decode cX9_letters 240 = .ok (.iconst 0, 1) := by decide +kernel
theorem dX9_letters_241 : decode cX9_letters 241 = .ok (.iconst 0, 1) := by decide +kernel
theorem dX9_letters_242 : decode cX9_letters 242 = .ok (.iconst 0, 1) := by decide +kernel
theorem dX9_letters_243 : decode cX9_letters 243 = .ok (.invokestatic 150, 3) := by decide +kernel
theorem dX9_letters_246 : decode cX9_letters 246 = .ok (.lreturn, 1) := by decide +kernel
theorem dX9_letters_247 : decode cX9_letters 247 = .ok (.bipush 104, 2) := by decide +kernel
theorem dX9_letters_249 : decode cX9_letters 249 = .ok (.bipush 117, 2) := by decide +kernel
theorem dX9_letters_251 : decode cX9_letters 251 = .ok (.bipush 110, 2) := by decide +kernel
theorem dX9_letters_253 : decode cX9_letters 253 = .ok (.bipush 103, 2) := by decide +kernel
theorem dX9_letters_255 : decode cX9_letters 255 = .ok (.iconst 0, 1) := by decide +kernel
theorem dX9_letters_256 : decode cX9_letters 256 = .ok (.iconst 0, 1) := by decide +kernel
theorem dX9_letters_257 : decode cX9_letters 257 = .ok (.iconst 0, 1) := by decide +kernel
theorem dX9_letters_258 : decode cX9_letters 258 = .ok (.iconst 0, 1) := by decide +kernel
theorem dX9_letters_259 : decode cX9_letters 259 = .ok (.invokestatic 150, 3) := by decide +kernel
theorem dX9_letters_262 : decode cX9_letters 262 = .ok (.lreturn, 1) := by decide +kernel
theorem dX9_letters_263 : decode cX9_letters 263 = .ok (.bipush 112, 2) := by decide +kernel
theorem dX9_letters_265 : decode cX9_letters 265 = .ok (.bipush 108, 2) := by decide +kernel
theorem dX9_letters_267 : decode cX9_letters 267 = .ok (.bipush 97, 2) := by decide +kernel
theorem dX9_letters_269 : decode cX9_letters 269 = .ok (.bipush 110, 2) := by decide +kernel
theorem dX9_letters_271 : decode cX9_letters 271 = .ok (.iconst 0, 1) := by decide +kernel
theorem dX9_letters_272 : decode cX9_letters 272 = .ok (.iconst 0, 1) := by decide +kernel
theorem dX9_letters_273 : decode cX9_letters 273 = .ok (.iconst 0, 1) := by decide +kernel
theorem dX9_letters_274 : decode cX9_letters 274 = .ok (.iconst 0, 1) := by decide +kernel
theorem dX9_letters_275 : decode cX9_letters 275 = .ok (.invokestatic 150, 3) := by decide +kernel
theorem dX9_letters_278 : decode cX9_letters 278 = .ok (.lreturn, 1) := by decide +kernel
theorem dX9_letters_279 : decode cX9_letters 279 = .ok (.bipush 103, 2) := by decide +kernel
theorem dX9_letters_281 : decode cX9_letters 281 = .ok (.bipush 114, 2) := by decide +kernel
theorem dX9_letters_283 : decode cX9_letters 283 = .ok (.bipush 111, 2) := by decide +kernel
theorem dX9_letters_285 : decode cX9_letters 285 = .ok (.bipush 117, 2) := by decide +kernel
theorem dX9_letters_287 : decode cX9_letters 287 = .ok (.bipush 110, 2) := by decide +kernel
theorem dX9_letters_289 : decode cX9_letters 289 = .ok (.bipush 100, 2) := by decide +kernel
theorem dX9_letters_291 : decode cX9_letters 291 = .ok (.iconst 0, 1) := by decide +kernel
theorem dX9_letters_292 : decode cX9_letters 292 = .ok (.iconst 0, 1) := by decide +kernel
theorem dX9_letters_293 : decode cX9_letters 293 = .ok (.invokestatic 150, 3) := by decide +kernel
theorem dX9_letters_296 : decode cX9_letters 296 = .ok (.lreturn, 1) := by decide +kernel
theorem dX9_letters_297 : decode cX9_letters 297 = .ok (.bipush 99, 2) := by decide +kernel
theorem dX9_letters_299 : decode cX9_letters 299 = .ok (.bipush 111, 2) := by decide +kernel
theorem dX9_letters_301 : decode cX9_letters 301 = .ok (.bipush 115, 2) := by decide +kernel
theorem dX9_letters_303 : decode cX9_letters 303 = .ok (.bipush 116, 2) := by decide +kernel
theorem dX9_letters_305 : decode cX9_letters 305 = .ok (.iconst 0, 1) := by decide +kernel
theorem dX9_letters_306 : decode cX9_letters 306 = .ok (.iconst 0, 1) := by decide +kernel
theorem dX9_letters_307 : decode cX9_letters 307 = .ok (.iconst 0, 1) := by decide +kernel
theorem dX9_letters_308 : decode cX9_letters 308 = .ok (.iconst 0, 1) := by decide +kernel
theorem dX9_letters_309 : decode cX9_letters 309 = .ok (.invokestatic 150, 3) := by decide +kernel
theorem dX9_letters_312 : decode cX9_letters 312 = .ok (.lreturn, 1) := by decide +kernel
theorem dX9_letters_313 : decode cX9_letters 313 = .ok (.bipush 119, 2) := by decide +kernel
theorem dX9_letters_315 : decode cX9_letters 315 = .ok (.bipush 97, 2) := by decide +kernel
theorem dX9_letters_317 : decode cX9_letters 317 = .ok (.bipush 114, 2) := by decide +kernel
theorem dX9_letters_319 : decode cX9_letters 319 = .ok (.bipush 100, 2) := by decide +kernel
theorem dX9_letters_321 : decode cX9_letters 321 = .ok (.iconst 0, 1) := by decide +kernel
theorem dX9_letters_322 : decode cX9_letters 322 = .ok (.iconst 0, 1) := by decide +kernel
theorem dX9_letters_323 : decode cX9_letters 323 = .ok (.iconst 0, 1) := by decide +kernel
theorem dX9_letters_324 : decode cX9_letters 324 = .ok (.iconst 0, 1) := by decide +kernel
theorem dX9_letters_325 : decode cX9_letters 325 = .ok (.invokestatic 150, 3) := by decide +kernel
theorem dX9_letters_328 : decode cX9_letters 328 = .ok (.lreturn, 1) := by decide +kernel
theorem dX9_letters_329 : decode cX9_letters 329 = .ok (.bipush 115, 2) := by decide +kernel
theorem dX9_letters_331 : decode cX9_letters 331 = .ok (.bipush 116, 2) := by decide +kernel
theorem dX9_letters_333 : decode cX9_letters 333 = .ok (.bipush 114, 2) := by decide +kernel
theorem dX9_letters_335 : decode cX9_letters 335 = .ok (.bipush 101, 2) := by decide +kernel
theorem dX9_letters_337 : decode cX9_letters 337 = .ok (.bipush 101, 2) := by decide +kernel
theorem dX9_letters_339 : decode cX9_letters 339 = .ok (.bipush 116, 2) := by decide +kernel
theorem dX9_letters_341 : decode cX9_letters 341 = .ok (.iconst 0, 1) := by decide +kernel
theorem dX9_letters_342 : decode cX9_letters 342 = .ok (.iconst 0, 1) := by decide +kernel
theorem dX9_letters_343 : decode cX9_letters 343 = .ok (.invokestatic 150, 3) := by decide +kernel
theorem dX9_letters_346 : decode cX9_letters 346 = .ok (.lreturn, 1) := by decide +kernel
theorem dX9_letters_347 : decode cX9_letters 347 = .ok (.bipush 108, 2) := by decide +kernel
theorem dX9_letters_349 : decode cX9_letters 349 = .ok (.bipush 101, 2) := by decide +kernel
theorem dX9_letters_351 : decode cX9_letters 351 = .ok (.bipush 97, 2) := by decide +kernel
theorem dX9_letters_353 : decode cX9_letters 353 = .ok (.bipush 110, 2) := by decide +kernel
theorem dX9_letters_355 : decode cX9_letters 355 = .ok (.bipush 115, 2) := by decide +kernel
theorem dX9_letters_357 : decode cX9_letters 357 = .ok (.iconst 0, 1) := by decide +kernel
theorem dX9_letters_358 : decode cX9_letters 358 = .ok (.iconst 0, 1) := by decide +kernel
theorem dX9_letters_359 : decode cX9_letters 359 = .ok (.iconst 0, 1) := by decide +kernel
theorem dX9_letters_360 : decode cX9_letters 360 = .ok (.invokestatic 150, 3) := by decide +kernel
theorem dX9_letters_363 : decode cX9_letters 363 = .ok (.lreturn, 1) := by decide +kernel
theorem dX9_letters_364 : decode cX9_letters 364 = .ok (.bipush 103, 2) := by decide +kernel
theorem dX9_letters_366 : decode cX9_letters 366 = .ok (.bipush 105, 2) := by decide +kernel
theorem dX9_letters_368 : decode cX9_letters 368 = .ok (.bipush 118, 2) := by decide +kernel
theorem dX9_letters_370 : decode cX9_letters 370 = .ok (.bipush 101, 2) := by decide +kernel
theorem dX9_letters_372 : decode cX9_letters 372 = .ok (.bipush 115, 2) := by decide +kernel
theorem dX9_letters_374 : decode cX9_letters 374 = .ok (.iconst 0, 1) := by decide +kernel
theorem dX9_letters_375 : decode cX9_letters 375 = .ok (.iconst 0, 1) := by decide +kernel
theorem dX9_letters_376 : decode cX9_letters 376 = .ok (.iconst 0, 1) := by decide +kernel
theorem dX9_letters_377 : decode cX9_letters 377 = .ok (.invokestatic 150, 3) := by decide +kernel
theorem dX9_letters_380 : decode cX9_letters 380 = .ok (.lreturn, 1) := by decide +kernel
theorem dX9_letters_381 : decode cX9_letters 381 = .ok (.bipush 98, 2) := by decide +kernel
theorem dX9_letters_383 : decode cX9_letters 383 = .ok (.bipush 101, 2) := by decide +kernel
theorem dX9_letters_385 : decode cX9_letters 385 = .ok (.bipush 108, 2) := by decide +kernel
theorem dX9_letters_387 : decode cX9_letters 387 = .ok (.bipush 105, 2) := by decide +kernel
theorem dX9_letters_389 : decode cX9_letters 389 = .ok (.bipush 101, 2) := by decide +kernel
theorem dX9_letters_391 : decode cX9_letters 391 = .ok (.bipush 118, 2) := by decide +kernel
theorem dX9_letters_393 : decode cX9_letters 393 = .ok (.bipush 101, 2) := by decide +kernel
theorem dX9_letters_395 : decode cX9_letters 395 = .ok (.bipush 115, 2) := by decide +kernel
theorem dX9_letters_397 : decode cX9_letters 397 = .ok (.invokestatic 150, 3) := by decide +kernel
theorem dX9_letters_400 : decode cX9_letters 400 = .ok (.lreturn, 1) := by decide +kernel
theorem dX9_letters_401 : decode cX9_letters 401 = .ok (.bipush 97, 2) := by decide +kernel
theorem dX9_letters_403 : decode cX9_letters 403 = .ok (.bipush 110, 2) := by decide +kernel
theorem dX9_letters_405 : decode cX9_letters 405 = .ok (.bipush 100, 2) := by decide +kernel
theorem dX9_letters_407 : decode cX9_letters 407 = .ok (.iconst 0, 1) := by decide +kernel
theorem dX9_letters_408 : decode cX9_letters 408 = .ok (.iconst 0, 1) := by decide +kernel
theorem dX9_letters_409 : decode cX9_letters 409 = .ok (.iconst 0, 1) := by decide +kernel
theorem dX9_letters_410 : decode cX9_letters 410 = .ok (.iconst 0, 1) := by decide +kernel
theorem dX9_letters_411 : decode cX9_letters 411 = .ok (.iconst 0, 1) := by decide +kernel
theorem dX9_letters_412 : decode cX9_letters 412 = .ok (.invokestatic 150, 3) := by decide +kernel
theorem dX9_letters_415 : decode cX9_letters 415 = .ok (.lreturn, 1) := by decide +kernel
theorem dX9_letters_416 : decode cX9_letters 416 = .ok (.bipush 111, 2) := by decide +kernel
theorem dX9_letters_418 : decode cX9_letters 418 = .ok (.bipush 114, 2) := by decide +kernel
theorem dX9_letters_420 : decode cX9_letters 420 = .ok (.iconst 0, 1) := by decide +kernel
theorem dX9_letters_421 : decode cX9_letters 421 = .ok (.iconst 0, 1) := by decide +kernel
theorem dX9_letters_422 : decode cX9_letters 422 = .ok (.iconst 0, 1) := by decide +kernel
theorem dX9_letters_423 : decode cX9_letters 423 = .ok (.iconst 0, 1) := by decide +kernel
theorem dX9_letters_424 : decode cX9_letters 424 = .ok (.iconst 0, 1) := by decide +kernel
theorem dX9_letters_425 : decode cX9_letters 425 = .ok (.iconst 0, 1) := by decide +kernel
theorem dX9_letters_426 : decode cX9_letters 426 = .ok (.invokestatic 150, 3) := by decide +kernel
theorem dX9_letters_429 : decode cX9_letters 429 = .ok (.lreturn, 1) := by decide +kernel
theorem dX9_letters_430 : decode cX9_letters 430 = .ok (.bipush 110, 2) := by decide +kernel
theorem dX9_letters_432 : decode cX9_letters 432 = .ok (.bipush 111, 2) := by decide +kernel
theorem dX9_letters_434 : decode cX9_letters 434 = .ok (.bipush 116, 2) := by decide +kernel
theorem dX9_letters_436 : decode cX9_letters 436 = .ok (.iconst 0, 1) := by decide +kernel
theorem dX9_letters_437 : decode cX9_letters 437 = .ok (.iconst 0, 1) := by decide +kernel
theorem dX9_letters_438 : decode cX9_letters 438 = .ok (.iconst 0, 1) := by decide +kernel
theorem dX9_letters_439 : decode cX9_letters 439 = .ok (.iconst 0, 1) := by decide +kernel
theorem dX9_letters_440 : decode cX9_letters 440 = .ok (.iconst 0, 1) := by decide +kernel
theorem dX9_letters_441 : decode cX9_letters 441 = .ok (.invokestatic 150, 3) := by decide +kernel
theorem dX9_letters_444 : decode cX9_letters 444 = .ok (.lreturn, 1) := by decide +kernel
theorem dX9_knownWord_0 : decode cX9_knownWord 0 = .ok (.aload_n 0, 1) := by decide +kernel
theorem dX9_knownWord_1 : decode cX9_knownWord 1 = .ok (.getfield 135, 3) := by decide +kernel
theorem dX9_knownWord_4 : decode cX9_knownWord 4 = .ok (.iconst 1, 1) := by decide +kernel
theorem dX9_knownWord_5 : decode cX9_knownWord 5 = .ok (.if_icmp .ne 12, 3) := by decide +kernel
theorem dX9_knownWord_8 : decode cX9_knownWord 8 = .ok (.aload_n 0, 1) := by decide +kernel
theorem dX9_knownWord_9 : decode cX9_knownWord 9 = .ok (.getfield 145, 3) := by decide +kernel
theorem dX9_knownWord_12 : decode cX9_knownWord 12 = .ok (.bipush 8, 2) := by decide +kernel
theorem dX9_knownWord_14 : decode cX9_knownWord 14 = .ok (.if_icmp .le 5, 3) := by decide +kernel
theorem dX9_knownWord_17 : decode cX9_knownWord 17 = .ok (.iconst (-1), 1) := by decide +kernel
theorem dX9_knownWord_18 : decode cX9_knownWord 18 = .ok (.ireturn, 1) := by decide +kernel
theorem dX9_knownWord_19 : decode cX9_knownWord 19 = .ok (.iconst 0, 1) := by decide +kernel
theorem dX9_knownWord_20 : decode cX9_knownWord 20 = .ok (.istore_n 1, 1) := by decide +kernel
theorem dX9_knownWord_21 : decode cX9_knownWord 21 = .ok (.iload_n 1, 1) := by decide +kernel
theorem dX9_knownWord_22 : decode cX9_knownWord 22 = .ok (.bipush 21, 2) := by decide +kernel
theorem dX9_knownWord_24 : decode cX9_knownWord 24 = .ok (.if_icmp .ge 23, 3) := by decide +kernel
theorem dX9_knownWord_27 : decode cX9_knownWord 27 = .ok (.iload_n 1, 1) := by decide +kernel
theorem dX9_knownWord_28 : decode cX9_knownWord 28 = .ok (.invokestatic 154, 3) := by decide +kernel
theorem dX9_knownWord_31 : decode cX9_knownWord 31 = .ok (.aload_n 0, 1) := by decide +kernel
theorem dX9_knownWord_32 : decode cX9_knownWord 32 = .ok (.getfield 125, 3) := by decide +kernel
theorem dX9_knownWord_35 : decode cX9_knownWord 35 = .ok (.lcmp, 1) := by decide +kernel
theorem dX9_knownWord_36 : decode cX9_knownWord 36 = .ok (.ifCond .ne 5, 3) := by decide +kernel
theorem dX9_knownWord_39 : decode cX9_knownWord 39 = .ok (.iload_n 1, 1) := by decide +kernel
theorem dX9_knownWord_40 : decode cX9_knownWord 40 = .ok (.ireturn, 1) := by decide +kernel
theorem dX9_knownWord_41 : decode cX9_knownWord 41 = .ok (.iinc 1 1, 3) := by decide +kernel
theorem dX9_knownWord_44 : decode cX9_knownWord 44 = .ok (.goto (-23), 3) := by decide +kernel
theorem dX9_knownWord_47 : decode cX9_knownWord 47 = .ok (.iconst (-1), 1) := by decide +kernel
theorem dX9_knownWord_48 : decode cX9_knownWord 48 = .ok (.ireturn, 1) := by decide +kernel
theorem dX9_wrong_0 : decode cX9_wrong 0 = .ok (.aload_n 0, 1) := by decide +kernel
theorem dX9_wrong_1 : decode cX9_wrong 1 = .ok (.getfield 158, 3) := by decide +kernel
theorem dX9_wrong_4 : decode cX9_wrong 4 = .ok (.ifCond .eq 4, 3) := by decide +kernel
theorem dX9_wrong_7 : decode cX9_wrong 7 = .ok (.return_, 1) := by decide +kernel
theorem dX9_wrong_8 : decode cX9_wrong 8 = .ok (.aload_n 0, 1) := by decide +kernel
theorem dX9_wrong_9 : decode cX9_wrong 9 = .ok (.iload_n 1, 1) := by decide +kernel
theorem dX9_wrong_10 : decode cX9_wrong 10 = .ok (.putfield 158, 3) := by decide +kernel
theorem dX9_wrong_13 : decode cX9_wrong 13 = .ok (.aload_n 0, 1) := by decide +kernel
theorem dX9_wrong_14 : decode cX9_wrong 14 = .ok (.aload_n 0, 1) := by decide +kernel
theorem dX9_wrong_15 : decode cX9_wrong 15 = .ok (.getfield 122, 3) := by decide +kernel
theorem dX9_wrong_18 : decode cX9_wrong 18 = .ok (.putfield 35, 3) := by decide +kernel
theorem dX9_wrong_21 : decode cX9_wrong 21 = .ok (.return_, 1) := by decide +kernel
theorem dX9_isGood_0 : decode cX9_isGood 0 = .ok (.aload_n 0, 1) := by decide +kernel
theorem dX9_isGood_1 : decode cX9_isGood 1 = .ok (.getfield 158, 3) := by decide +kernel
theorem dX9_isGood_4 : decode cX9_isGood 4 = .ok (.ifCond .ne 7, 3) := by decide +kernel
theorem dX9_isGood_7 : decode cX9_isGood 7 = .ok (.iconst 1, 1) := by decide +kernel
theorem dX9_isGood_8 : decode cX9_isGood 8 = .ok (.goto 4, 3) := by decide +kernel
theorem dX9_isGood_11 : decode cX9_isGood 11 = .ok (.iconst 0, 1) := by decide +kernel
theorem dX9_isGood_12 : decode cX9_isGood 12 = .ok (.ireturn, 1) := by decide +kernel
theorem dX9_isSign_0 : decode cX9_isSign 0 = .ok (.aload_n 0, 1) := by decide +kernel
theorem dX9_isSign_1 : decode cX9_isSign 1 = .ok (.getfield 135, 3) := by decide +kernel
theorem dX9_isSign_4 : decode cX9_isSign 4 = .ok (.iconst 3, 1) := by decide +kernel
theorem dX9_isSign_5 : decode cX9_isSign 5 = .ok (.if_icmp .ne 15, 3) := by decide +kernel
theorem dX9_isSign_8 : decode cX9_isSign 8 = .ok (.aload_n 0, 1) := by decide +kernel
theorem dX9_isSign_9 : decode cX9_isSign 9 = .ok (.getfield 132, 3) := by decide +kernel
theorem dX9_isSign_12 : decode cX9_isSign 12 = .ok (.iload_n 1, 1) := by decide +kernel
theorem dX9_isSign_13 : decode cX9_isSign 13 = .ok (.if_icmp .ne 7, 3) := by decide +kernel
theorem dX9_isSign_16 : decode cX9_isSign 16 = .ok (.iconst 1, 1) := by decide +kernel
theorem dX9_isSign_17 : decode cX9_isSign 17 = .ok (.goto 4, 3) := by decide +kernel
theorem dX9_isSign_20 : decode cX9_isSign 20 = .ok (.iconst 0, 1) := by decide +kernel
theorem dX9_isSign_21 : decode cX9_isSign 21 = .ok (.ireturn, 1) := by decide +kernel
theorem dX9_need_0 : decode cX9_need 0 = .ok (.aload_n 0, 1) := by decide +kernel
theorem dX9_need_1 : decode cX9_need 1 = .ok (.invokevirtual 161, 3) := by decide +kernel
theorem dX9_need_4 : decode cX9_need 4 = .ok (.ifCond .ne 4, 3) := by decide +kernel
theorem dX9_need_7 : decode cX9_need 7 = .ok (.return_, 1) := by decide +kernel
theorem dX9_need_8 : decode cX9_need 8 = .ok (.iload_n 1, 1) := by decide +kernel
theorem dX9_need_9 : decode cX9_need 9 = .ok (.ifCond .eq 10, 3) := by decide +kernel
theorem dX9_need_12 : decode cX9_need 12 = .ok (.aload_n 0, 1) := by decide +kernel
theorem dX9_need_13 : decode cX9_need 13 = .ok (.invokevirtual 165, 3) := by decide +kernel
theorem dX9_need_16 : decode cX9_need 16 = .ok (.goto 8, 3) := by decide +kernel
theorem dX9_need_19 : decode cX9_need 19 = .ok (.aload_n 0, 1) := by decide +kernel
theorem dX9_need_20 : decode cX9_need 20 = .ok (.iconst 1, 1) := by decide +kernel
theorem dX9_need_21 : decode cX9_need 21 = .ok (.invokevirtual 168, 3) := by decide +kernel
theorem dX9_need_24 : decode cX9_need 24 = .ok (.return_, 1) := by decide +kernel
theorem dX9_number_0 : decode cX9_number 0 = .ok (.aload_n 0, 1) := by decide +kernel
theorem dX9_number_1 : decode cX9_number 1 = .ok (.invokevirtual 161, 3) := by decide +kernel
theorem dX9_number_4 : decode cX9_number 4 = .ok (.ifCond .ne 5, 3) := by decide +kernel
theorem dX9_number_7 : decode cX9_number 7 = .ok (.iconst 0, 1) := by decide +kernel
theorem dX9_number_8 : decode cX9_number 8 = .ok (.ireturn, 1) := by decide +kernel
theorem dX9_number_9 : decode cX9_number 9 = .ok (.aload_n 0, 1) := by decide +kernel
theorem dX9_number_10 : decode cX9_number 10 = .ok (.getfield 135, 3) := by decide +kernel
theorem dX9_number_13 : decode cX9_number 13 = .ok (.iconst 2, 1) := by decide +kernel
theorem dX9_number_14 : decode cX9_number 14 = .ok (.if_icmp .eq 11, 3) := by decide +kernel
theorem dX9_number_17 : decode cX9_number 17 = .ok (.aload_n 0, 1) := by decide +kernel
theorem dX9_number_18 : decode cX9_number 18 = .ok (.iconst 1, 1) := by decide +kernel
theorem dX9_number_19 : decode cX9_number 19 = .ok (.invokevirtual 168, 3) := by decide +kernel
theorem dX9_number_22 : decode cX9_number 22 = .ok (.goto 32, 3) := by decide +kernel
theorem dX9_number_25 : decode cX9_number 25 = .ok (.aload_n 0, 1) := by decide +kernel
theorem dX9_number_26 : decode cX9_number 26 = .ok (.getfield 145, 3) := by decide +kernel
theorem dX9_number_29 : decode cX9_number 29 = .ok (.iconst 4, 1) := by decide +kernel
theorem dX9_number_30 : decode cX9_number 30 = .ok (.if_icmp .gt 19, 3) := by decide +kernel
theorem dX9_number_33 : decode cX9_number 33 = .ok (.aload_n 0, 1) := by decide +kernel
theorem dX9_number_34 : decode cX9_number 34 = .ok (.getfield 129, 3) := by decide +kernel
theorem dX9_number_37 : decode cX9_number 37 = .ok (.iload_n 1, 1) := by decide +kernel
theorem dX9_number_38 : decode cX9_number 38 = .ok (.if_icmp .lt 11, 3) := by decide +kernel
theorem dX9_number_41 : decode cX9_number 41 = .ok (.aload_n 0, 1) := by decide +kernel
theorem dX9_number_42 : decode cX9_number 42 = .ok (.getfield 129, 3) := by decide +kernel
theorem dX9_number_45 : decode cX9_number 45 = .ok (.iload_n 2, 1) := by decide +kernel
theorem dX9_number_46 : decode cX9_number 46 = .ok (.if_icmp .le 8, 3) := by decide +kernel
theorem dX9_number_49 : decode cX9_number 49 = .ok (.aload_n 0, 1) := by decide +kernel
theorem dX9_number_50 : decode cX9_number 50 = .ok (.iconst 2, 1) := by decide +kernel
theorem dX9_number_51 : decode cX9_number 51 = .ok (.invokevirtual 168, 3) := by decide +kernel
theorem dX9_number_54 : decode cX9_number 54 = .ok (.aload_n 0, 1) := by decide +kernel
theorem dX9_number_55 : decode cX9_number 55 = .ok (.getfield 129, 3) := by decide +kernel
theorem dX9_number_58 : decode cX9_number 58 = .ok (.istore_n 3, 1) := by decide +kernel
theorem dX9_number_59 : decode cX9_number 59 = .ok (.aload_n 0, 1) := by decide +kernel
theorem dX9_number_60 : decode cX9_number 60 = .ok (.invokevirtual 161, 3) := by decide +kernel
theorem dX9_number_63 : decode cX9_number 63 = .ok (.ifCond .eq 7, 3) := by decide +kernel
theorem dX9_number_66 : decode cX9_number 66 = .ok (.aload_n 0, 1) := by decide +kernel
theorem dX9_number_67 : decode cX9_number 67 = .ok (.invokevirtual 165, 3) := by decide +kernel
theorem dX9_number_70 : decode cX9_number 70 = .ok (.iload_n 3, 1) := by decide +kernel
theorem dX9_number_71 : decode cX9_number 71 = .ok (.ireturn, 1) := by decide +kernel
theorem dX9_isWardHere_0 : decode cX9_isWardHere 0 = .ok (.aload_n 0, 1) := by decide +kernel
theorem dX9_isWardHere_1 : decode cX9_isWardHere 1 = .ok (.invokevirtual 161, 3) := by decide +kernel
theorem dX9_isWardHere_4 : decode cX9_isWardHere 4 = .ok (.ifCond .ne 5, 3) := by decide +kernel
theorem dX9_isWardHere_7 : decode cX9_isWardHere 7 = .ok (.iconst 0, 1) := by decide +kernel
theorem dX9_isWardHere_8 : decode cX9_isWardHere 8 = .ok (.ireturn, 1) := by decide +kernel
theorem dX9_isWardHere_9 : decode cX9_isWardHere 9 = .ok (.aload_n 0, 1) := by decide +kernel
theorem dX9_isWardHere_10 : decode cX9_isWardHere 10 = .ok (.getfield 135, 3) := by decide +kernel
theorem dX9_isWardHere_13 : decode cX9_isWardHere 13 = .ok (.iconst 2, 1) := by decide +kernel
theorem dX9_isWardHere_14 : decode cX9_isWardHere 14 = .ok (.if_icmp .eq 11, 3) := by decide +kernel
theorem dX9_isWardHere_17 : decode cX9_isWardHere 17 = .ok (.aload_n 0, 1) := by decide +kernel
theorem dX9_isWardHere_18 : decode cX9_isWardHere 18 = .ok (.iconst 1, 1) := by decide +kernel
theorem dX9_isWardHere_19 : decode cX9_isWardHere 19 = .ok (.invokevirtual 168, 3) := by decide +kernel
theorem dX9_isWardHere_22 : decode cX9_isWardHere 22 = .ok (.goto 35, 3) := by decide +kernel
theorem dX9_isWardHere_25 : decode cX9_isWardHere 25 = .ok (.aload_n 0, 1) := by decide +kernel
theorem dX9_isWardHere_26 : decode cX9_isWardHere 26 = .ok (.getfield 145, 3) := by decide +kernel
theorem dX9_isWardHere_29 : decode cX9_isWardHere 29 = .ok (.iconst 4, 1) := by decide +kernel
theorem dX9_isWardHere_30 : decode cX9_isWardHere 30 = .ok (.if_icmp .le 11, 3) := by decide +kernel
theorem dX9_isWardHere_33 : decode cX9_isWardHere 33 = .ok (.aload_n 0, 1) := by decide +kernel
theorem dX9_isWardHere_34 : decode cX9_isWardHere 34 = .ok (.iconst 2, 1) := by decide +kernel
theorem dX9_isWardHere_35 : decode cX9_isWardHere 35 = .ok (.invokevirtual 168, 3) := by decide +kernel
theorem dX9_isWardHere_38 : decode cX9_isWardHere 38 = .ok (.goto 19, 3) := by decide +kernel
theorem dX9_isWardHere_41 : decode cX9_isWardHere 41 = .ok (.aload_n 0, 1) := by decide +kernel
theorem dX9_isWardHere_42 : decode cX9_isWardHere 42 = .ok (.getfield 129, 3) := by decide +kernel
theorem dX9_isWardHere_45 : decode cX9_isWardHere 45 = .ok (.aload_n 0, 1) := by decide +kernel
theorem dX9_isWardHere_46 : decode cX9_isWardHere 46 = .ok (.getfield 171, 3) := by decide +kernel
theorem dX9_isWardHere_49 : decode cX9_isWardHere 49 = .ok (.if_icmp .lt 8, 3) := by decide +kernel
theorem dX9_isWardHere_52 : decode cX9_isWardHere 52 = .ok (.aload_n 0, 1) := by decide +kernel
theorem dX9_isWardHere_53 : decode cX9_isWardHere 53 = .ok (.iconst 3, 1) := by decide +kernel
theorem dX9_isWardHere_54 : decode cX9_isWardHere 54 = .ok (.invokevirtual 168, 3) := by decide +kernel
theorem dX9_isWardHere_57 : decode cX9_isWardHere 57 = .ok (.aload_n 0, 1) := by decide +kernel
theorem dX9_isWardHere_58 : decode cX9_isWardHere 58 = .ok (.invokevirtual 161, 3) := by decide +kernel
theorem dX9_isWardHere_61 : decode cX9_isWardHere 61 = .ok (.ireturn, 1) := by decide +kernel
theorem dX9_puts_0 : decode cX9_puts 0 = .ok (.aload_n 0, 1) := by decide +kernel
theorem dX9_puts_1 : decode cX9_puts 1 = .ok (.getfield 53, 3) := by decide +kernel
theorem dX9_puts_4 : decode cX9_puts 4 = .ok (.aload_n 0, 1) := by decide +kernel
theorem dX9_puts_5 : decode cX9_puts 5 = .ok (.getfield 174, 3) := by decide +kernel
theorem dX9_puts_8 : decode cX9_puts 8 = .ok (.iload_n 1, 1) := by decide +kernel
theorem dX9_puts_9 : decode cX9_puts 9 = .ok (.iastore, 1) := by decide +kernel
theorem dX9_puts_10 : decode cX9_puts 10 = .ok (.aload_n 0, 1) := by decide +kernel
theorem dX9_puts_11 : decode cX9_puts 11 = .ok (.dup, 1) := by decide +kernel
theorem dX9_puts_12 : decode cX9_puts 12 = .ok (.getfield 174, 3) := by decide +kernel
theorem dX9_puts_15 : decode cX9_puts 15 = .ok (.iconst 1, 1) := by decide +kernel
theorem dX9_puts_16 : decode cX9_puts 16 = .ok (.iadd, 1) := by decide +kernel
theorem dX9_puts_17 : decode cX9_puts 17 = .ok (.putfield 174, 3) := by decide +kernel
theorem dX9_puts_20 : decode cX9_puts 20 = .ok (.return_, 1) := by decide +kernel
theorem dX9_isOpen_0 : decode cX9_isOpen 0 = .ok (.iload_n 0, 1) := by decide +kernel
theorem dX9_isOpen_1 : decode cX9_isOpen 1 = .ok (.bipush 14, 2) := by decide +kernel
theorem dX9_isOpen_3 : decode cX9_isOpen 3 = .ok (.if_icmp .lt 7, 3) := by decide +kernel
theorem dX9_isOpen_6 : decode cX9_isOpen 6 = .ok (.iconst 1, 1) := by decide +kernel
theorem dX9_isOpen_7 : decode cX9_isOpen 7 = .ok (.goto 4, 3) := by decide +kernel
theorem dX9_isOpen_10 : decode cX9_isOpen 10 = .ok (.iconst 0, 1) := by decide +kernel
theorem dX9_isOpen_11 : decode cX9_isOpen 11 = .ok (.ireturn, 1) := by decide +kernel
theorem dX9_strength_0 : decode cX9_strength 0 = .ok (.iload_n 0, 1) := by decide +kernel
theorem dX9_strength_1 : decode cX9_strength 1 = .ok (.iconst 5, 1) := by decide +kernel
theorem dX9_strength_2 : decode cX9_strength 2 = .ok (.if_icmp .ne 7, 3) := by decide +kernel
theorem dX9_strength_5 : decode cX9_strength 5 = .ok (.iconst 1, 1) := by decide +kernel
theorem dX9_strength_6 : decode cX9_strength 6 = .ok (.goto 55, 3) := by decide +kernel
theorem dX9_strength_9 : decode cX9_strength 9 = .ok (.iload_n 0, 1) := by decide +kernel
theorem dX9_strength_10 : decode cX9_strength 10 = .ok (.iconst 4, 1) := by decide +kernel
theorem dX9_strength_11 : decode cX9_strength 11 = .ok (.if_icmp .ne 7, 3) := by decide +kernel
theorem dX9_strength_14 : decode cX9_strength 14 = .ok (.iconst 2, 1) := by decide +kernel
theorem dX9_strength_15 : decode cX9_strength 15 = .ok (.goto 46, 3) := by decide +kernel
theorem dX9_strength_18 : decode cX9_strength 18 = .ok (.iload_n 0, 1) := by decide +kernel
theorem dX9_strength_19 : decode cX9_strength 19 = .ok (.iconst 3, 1) := by decide +kernel
theorem dX9_strength_20 : decode cX9_strength 20 = .ok (.if_icmp .ne 7, 3) := by decide +kernel
theorem dX9_strength_23 : decode cX9_strength 23 = .ok (.iconst 3, 1) := by decide +kernel
theorem dX9_strength_24 : decode cX9_strength 24 = .ok (.goto 37, 3) := by decide +kernel
theorem dX9_strength_27 : decode cX9_strength 27 = .ok (.iload_n 0, 1) := by decide +kernel
theorem dX9_strength_28 : decode cX9_strength 28 = .ok (.bipush 6, 2) := by decide +kernel
theorem dX9_strength_30 : decode cX9_strength 30 = .ok (.if_icmp .eq 9, 3) := by decide +kernel
theorem dX9_strength_33 : decode cX9_strength 33 = .ok (.iload_n 0, 1) := by decide +kernel
theorem dX9_strength_34 : decode cX9_strength 34 = .ok (.bipush 7, 2) := by decide +kernel
theorem dX9_strength_36 : decode cX9_strength 36 = .ok (.if_icmp .ne 7, 3) := by decide +kernel
theorem dX9_strength_39 : decode cX9_strength 39 = .ok (.iconst 4, 1) := by decide +kernel
theorem dX9_strength_40 : decode cX9_strength 40 = .ok (.goto 21, 3) := by decide +kernel
theorem dX9_strength_43 : decode cX9_strength 43 = .ok (.iload_n 0, 1) := by decide +kernel
theorem dX9_strength_44 : decode cX9_strength 44 = .ok (.bipush 8, 2) := by decide +kernel
theorem dX9_strength_46 : decode cX9_strength 46 = .ok (.if_icmp .eq 9, 3) := by decide +kernel
theorem dX9_strength_49 : decode cX9_strength 49 = .ok (.iload_n 0, 1) := by decide +kernel
theorem dX9_strength_50 : decode cX9_strength 50 = .ok (.bipush 9, 2) := by decide +kernel
theorem dX9_strength_52 : decode cX9_strength 52 = .ok (.if_icmp .ne 7, 3) := by decide +kernel
theorem dX9_strength_55 : decode cX9_strength 55 = .ok (.iconst 5, 1) := by decide +kernel
theorem dX9_strength_56 : decode cX9_strength 56 = .ok (.goto 5, 3) := by decide +kernel
theorem dX9_strength_59 : decode cX9_strength 59 = .ok (.bipush 6, 2) := by decide +kernel
theorem dX9_strength_61 : decode cX9_strength 61 = .ok (.ireturn, 1) := by decide +kernel
theorem dX9_drops_0 : decode cX9_drops 0 = .ok (.aload_n 0, 1) := by decide +kernel
theorem dX9_drops_1 : decode cX9_drops 1 = .ok (.getfield 177, 3) := by decide +kernel
theorem dX9_drops_4 : decode cX9_drops 4 = .ok (.ifCond .le 64, 3) := by decide +kernel
theorem dX9_drops_7 : decode cX9_drops 7 = .ok (.aload_n 0, 1) := by decide +kernel
theorem dX9_drops_8 : decode cX9_drops 8 = .ok (.getfield 56, 3) := by decide +kernel
theorem dX9_drops_11 : decode cX9_drops 11 = .ok (.aload_n 0, 1) := by decide +kernel
theorem dX9_drops_12 : decode cX9_drops 12 = .ok (.getfield 177, 3) := by decide +kernel
theorem dX9_drops_15 : decode cX9_drops 15 = .ok (.iconst 1, 1) := by decide +kernel
theorem dX9_drops_16 : decode cX9_drops 16 = .ok (.isub, 1) := by decide +kernel
theorem dX9_drops_17 : decode cX9_drops 17 = .ok (.iaload, 1) := by decide +kernel
theorem dX9_drops_18 : decode cX9_drops 18 = .ok (.invokestatic 180, 3) := by decide +kernel
theorem dX9_drops_21 : decode cX9_drops 21 = .ok (.ifCond .ne 47, 3) := by decide +kernel
theorem dX9_drops_24 : decode cX9_drops 24 = .ok (.aload_n 0, 1) := by decide +kernel
theorem dX9_drops_25 : decode cX9_drops 25 = .ok (.getfield 56, 3) := by decide +kernel
theorem dX9_drops_28 : decode cX9_drops 28 = .ok (.aload_n 0, 1) := by decide +kernel
theorem dX9_drops_29 : decode cX9_drops 29 = .ok (.getfield 177, 3) := by decide +kernel
theorem dX9_drops_32 : decode cX9_drops 32 = .ok (.iconst 1, 1) := by decide +kernel
theorem dX9_drops_33 : decode cX9_drops 33 = .ok (.isub, 1) := by decide +kernel
theorem dX9_drops_34 : decode cX9_drops 34 = .ok (.iaload, 1) := by decide +kernel
theorem dX9_drops_35 : decode cX9_drops 35 = .ok (.invokestatic 183, 3) := by decide +kernel
theorem dX9_drops_38 : decode cX9_drops 38 = .ok (.iload_n 1, 1) := by decide +kernel
theorem dX9_drops_39 : decode cX9_drops 39 = .ok (.if_icmp .lt 29, 3) := by decide +kernel
theorem dX9_drops_42 : decode cX9_drops 42 = .ok (.aload_n 0, 1) := by decide +kernel
theorem dX9_drops_43 : decode cX9_drops 43 = .ok (.dup, 1) := by decide +kernel
theorem dX9_drops_44 : decode cX9_drops 44 = .ok (.getfield 177, 3) := by decide +kernel
theorem dX9_drops_47 : decode cX9_drops 47 = .ok (.iconst 1, 1) := by decide +kernel
theorem dX9_drops_48 : decode cX9_drops 48 = .ok (.isub, 1) := by decide +kernel
theorem dX9_drops_49 : decode cX9_drops 49 = .ok (.putfield 177, 3) := by decide +kernel
theorem dX9_drops_52 : decode cX9_drops 52 = .ok (.aload_n 0, 1) := by decide +kernel
theorem dX9_drops_53 : decode cX9_drops 53 = .ok (.aload_n 0, 1) := by decide +kernel
theorem dX9_drops_54 : decode cX9_drops 54 = .ok (.getfield 56, 3) := by decide +kernel
theorem dX9_drops_57 : decode cX9_drops 57 = .ok (.aload_n 0, 1) := by decide +kernel
theorem dX9_drops_58 : decode cX9_drops 58 = .ok (.getfield 177, 3) := by decide +kernel
theorem dX9_drops_61 : decode cX9_drops 61 = .ok (.iaload, 1) := by decide +kernel
theorem dX9_drops_62 : decode cX9_drops 62 = .ok (.invokevirtual 186, 3) := by decide +kernel
theorem dX9_drops_65 : decode cX9_drops 65 = .ok (.goto (-65), 3) := by decide +kernel
theorem dX9_drops_68 : decode cX9_drops 68 = .ok (.return_, 1) := by decide +kernel
theorem dX9_waitsFor_0 : decode cX9_waitsFor 0 = .ok (.aload_n 0, 1) := by decide +kernel
theorem dX9_waitsFor_1 : decode cX9_waitsFor 1 = .ok (.getfield 56, 3) := by decide +kernel
theorem dX9_waitsFor_4 : decode cX9_waitsFor 4 = .ok (.aload_n 0, 1) := by decide +kernel
theorem dX9_waitsFor_5 : decode cX9_waitsFor 5 = .ok (.getfield 177, 3) := by decide +kernel
theorem dX9_waitsFor_8 : decode cX9_waitsFor 8 = .ok (.iload_n 1, 1) := by decide +kernel
theorem dX9_waitsFor_9 : decode cX9_waitsFor 9 = .ok (.iastore, 1) := by decide +kernel
theorem dX9_waitsFor_10 : decode cX9_waitsFor 10 = .ok (.aload_n 0, 1) := by decide +kernel
theorem dX9_waitsFor_11 : decode cX9_waitsFor 11 = .ok (.dup, 1) := by decide +kernel
theorem dX9_waitsFor_12 : decode cX9_waitsFor 12 = .ok (.getfield 177, 3) := by decide +kernel
theorem dX9_waitsFor_15 : decode cX9_waitsFor 15 = .ok (.iconst 1, 1) := by decide +kernel
theorem dX9_waitsFor_16 : decode cX9_waitsFor 16 = .ok (.iadd, 1) := by decide +kernel
theorem dX9_waitsFor_17 : decode cX9_waitsFor 17 = .ok (.putfield 177, 3) := by decide +kernel
theorem dX9_waitsFor_20 : decode cX9_waitsFor 20 = .ok (.return_, 1) := by decide +kernel
theorem dX9_part_0 : decode cX9_part 0 = .ok (.aload_n 0, 1) := by decide +kernel
theorem dX9_part_1 : decode cX9_part 1 = .ok (.invokevirtual 161, 3) := by decide +kernel
theorem dX9_part_4 : decode cX9_part 4 = .ok (.ifCond .ne 4, 3) := by decide +kernel
theorem dX9_part_7 : decode cX9_part 7 = .ok (.return_, 1) := by decide +kernel
theorem dX9_part_8 : decode cX9_part 8 = .ok (.aload_n 0, 1) := by decide +kernel
theorem dX9_part_9 : decode cX9_part 9 = .ok (.getfield 135, 3) := by decide +kernel
theorem dX9_part_12 : decode cX9_part 12 = .ok (.iconst 2, 1) := by decide +kernel
theorem dX9_part_13 : decode cX9_part 13 = .ok (.if_icmp .ne 32, 3) := by decide +kernel
theorem dX9_part_16 : decode cX9_part 16 = .ok (.aload_n 0, 1) := by decide +kernel
theorem dX9_part_17 : decode cX9_part 17 = .ok (.getfield 145, 3) := by decide +kernel
theorem dX9_part_20 : decode cX9_part 20 = .ok (.iconst 4, 1) := by decide +kernel
theorem dX9_part_21 : decode cX9_part 21 = .ok (.if_icmp .le 8, 3) := by decide +kernel
theorem dX9_part_24 : decode cX9_part 24 = .ok (.aload_n 0, 1) := by decide +kernel
theorem dX9_part_25 : decode cX9_part 25 = .ok (.iconst 2, 1) := by decide +kernel
theorem dX9_part_26 : decode cX9_part 26 = .ok (.invokevirtual 168, 3) := by decide +kernel
theorem dX9_part_29 : decode cX9_part 29 = .ok (.aload_n 0, 1) := by decide +kernel
theorem dX9_part_30 : decode cX9_part 30 = .ok (.iconst 1, 1) := by decide +kernel
theorem dX9_part_31 : decode cX9_part 31 = .ok (.invokevirtual 186, 3) := by decide +kernel
theorem dX9_part_34 : decode cX9_part 34 = .ok (.aload_n 0, 1) := by decide +kernel
theorem dX9_part_35 : decode cX9_part 35 = .ok (.aload_n 0, 1) := by decide +kernel
theorem dX9_part_36 : decode cX9_part 36 = .ok (.getfield 129, 3) := by decide +kernel
theorem dX9_part_39 : decode cX9_part 39 = .ok (.invokevirtual 186, 3) := by decide +kernel
theorem dX9_part_42 : decode cX9_part 42 = .ok (.goto 55, 3) := by decide +kernel
theorem dX9_part_45 : decode cX9_part 45 = .ok (.aload_n 0, 1) := by decide +kernel
theorem dX9_part_46 : decode cX9_part 46 = .ok (.getfield 135, 3) := by decide +kernel
theorem dX9_part_49 : decode cX9_part 49 = .ok (.iconst 1, 1) := by decide +kernel
theorem dX9_part_50 : decode cX9_part 50 = .ok (.if_icmp .ne 42, 3) := by decide +kernel
theorem dX9_part_53 : decode cX9_part 53 = .ok (.aload_n 0, 1) := by decide +kernel
theorem dX9_part_54 : decode cX9_part 54 = .ok (.invokevirtual 189, 3) := by decide +kernel
theorem dX9_part_57 : decode cX9_part 57 = .ok (.istore_n 1, 1) := by decide +kernel
theorem dX9_part_58 : decode cX9_part 58 = .ok (.iload_n 1, 1) := by decide +kernel
theorem dX9_part_59 : decode cX9_part 59 = .ok (.aload_n 0, 1) := by decide +kernel
theorem dX9_part_60 : decode cX9_part 60 = .ok (.getfield 193, 3) := by decide +kernel
theorem dX9_part_63 : decode cX9_part 63 = .ok (.if_icmp .lt 11, 3) := by decide +kernel
theorem dX9_part_66 : decode cX9_part 66 = .ok (.iload_n 1, 1) := by decide +kernel
theorem dX9_part_67 : decode cX9_part 67 = .ok (.aload_n 0, 1) := by decide +kernel
theorem dX9_part_68 : decode cX9_part 68 = .ok (.getfield 196, 3) := by decide +kernel
theorem dX9_part_71 : decode cX9_part 71 = .ok (.if_icmp .le 8, 3) := by decide +kernel
theorem dX9_part_74 : decode cX9_part 74 = .ok (.aload_n 0, 1) := by decide +kernel
theorem dX9_part_75 : decode cX9_part 75 = .ok (.iconst 3, 1) := by decide +kernel
theorem dX9_part_76 : decode cX9_part 76 = .ok (.invokevirtual 168, 3) := by decide +kernel
theorem dX9_part_79 : decode cX9_part 79 = .ok (.aload_n 0, 1) := by decide +kernel
theorem dX9_part_80 : decode cX9_part 80 = .ok (.iconst 2, 1) := by decide +kernel
theorem dX9_part_81 : decode cX9_part 81 = .ok (.invokevirtual 186, 3) := by decide +kernel
theorem dX9_part_84 : decode cX9_part 84 = .ok (.aload_n 0, 1) := by decide +kernel
theorem dX9_part_85 : decode cX9_part 85 = .ok (.iload_n 1, 1) := by decide +kernel
theorem dX9_part_86 : decode cX9_part 86 = .ok (.invokevirtual 186, 3) := by decide +kernel
theorem dX9_part_89 : decode cX9_part 89 = .ok (.goto 8, 3) := by decide +kernel
theorem dX9_part_92 : decode cX9_part 92 = .ok (.aload_n 0, 1) := by decide +kernel
theorem dX9_part_93 : decode cX9_part 93 = .ok (.iconst 1, 1) := by decide +kernel
theorem dX9_part_94 : decode cX9_part 94 = .ok (.invokevirtual 168, 3) := by decide +kernel
theorem dX9_part_97 : decode cX9_part 97 = .ok (.aload_n 0, 1) := by decide +kernel
theorem dX9_part_98 : decode cX9_part 98 = .ok (.invokevirtual 161, 3) := by decide +kernel
theorem dX9_part_101 : decode cX9_part 101 = .ok (.ifCond .eq 7, 3) := by decide +kernel
theorem dX9_part_104 : decode cX9_part 104 = .ok (.aload_n 0, 1) := by decide +kernel
theorem dX9_part_105 : decode cX9_part 105 = .ok (.invokevirtual 165, 3) := by decide +kernel
theorem dX9_part_108 : decode cX9_part 108 = .ok (.return_, 1) := by decide +kernel
theorem dX9_deeper_0 : decode cX9_deeper 0 = .ok (.aload_n 0, 1) := by decide +kernel
theorem dX9_deeper_1 : decode cX9_deeper 1 = .ok (.getfield 199, 3) := by decide +kernel
theorem dX9_deeper_4 : decode cX9_deeper 4 = .ok (.bipush 6, 2) := by decide +kernel
theorem dX9_deeper_6 : decode cX9_deeper 6 = .ok (.if_icmp .ge 24, 3) := by decide +kernel
theorem dX9_deeper_9 : decode cX9_deeper 9 = .ok (.aload_n 0, 1) := by decide +kernel
theorem dX9_deeper_10 : decode cX9_deeper 10 = .ok (.dup, 1) := by decide +kernel
theorem dX9_deeper_11 : decode cX9_deeper 11 = .ok (.getfield 199, 3) := by decide +kernel
theorem dX9_deeper_14 : decode cX9_deeper 14 = .ok (.iconst 1, 1) := by decide +kernel
theorem dX9_deeper_15 : decode cX9_deeper 15 = .ok (.iadd, 1) := by decide +kernel
theorem dX9_deeper_16 : decode cX9_deeper 16 = .ok (.putfield 199, 3) := by decide +kernel
theorem dX9_deeper_19 : decode cX9_deeper 19 = .ok (.aload_n 0, 1) := by decide +kernel
theorem dX9_deeper_20 : decode cX9_deeper 20 = .ok (.getfield 59, 3) := by decide +kernel
theorem dX9_deeper_23 : decode cX9_deeper 23 = .ok (.aload_n 0, 1) := by decide +kernel
theorem dX9_deeper_24 : decode cX9_deeper 24 = .ok (.getfield 199, 3) := by decide +kernel
theorem dX9_deeper_27 : decode cX9_deeper 27 = .ok (.iconst 0, 1) := by decide +kernel
theorem dX9_deeper_28 : decode cX9_deeper 28 = .ok (.bastore, 1) := by decide +kernel
theorem dX9_deeper_29 : decode cX9_deeper 29 = .ok (.return_, 1) := by decide +kernel
theorem dX9_deeper_30 : decode cX9_deeper 30 = .ok (.aload_n 0, 1) := by decide +kernel
theorem dX9_deeper_31 : decode cX9_deeper 31 = .ok (.aload_n 0, 1) := by decide +kernel
theorem dX9_deeper_32 : decode cX9_deeper 32 = .ok (.getfield 135, 3) := by decide +kernel
theorem dX9_deeper_35 : decode cX9_deeper 35 = .ok (.iconst 2, 1) := by decide +kernel
theorem dX9_deeper_36 : decode cX9_deeper 36 = .ok (.if_icmp .eq 20, 3) := by decide +kernel
theorem dX9_deeper_39 : decode cX9_deeper 39 = .ok (.aload_n 0, 1) := by decide +kernel
theorem dX9_deeper_40 : decode cX9_deeper 40 = .ok (.getfield 135, 3) := by decide +kernel
theorem dX9_deeper_43 : decode cX9_deeper 43 = .ok (.iconst 1, 1) := by decide +kernel
theorem dX9_deeper_44 : decode cX9_deeper 44 = .ok (.if_icmp .eq 12, 3) := by decide +kernel
theorem dX9_deeper_47 : decode cX9_deeper 47 = .ok (.aload_n 0, 1) := by decide +kernel
theorem dX9_deeper_48 : decode cX9_deeper 48 = .ok (.bipush 40, 2) := by decide +kernel
theorem dX9_deeper_50 : decode cX9_deeper 50 = .ok (.invokevirtual 202, 3) := by decide +kernel
theorem dX9_deeper_53 : decode cX9_deeper 53 = .ok (.ifCond .eq 7, 3) := by decide +kernel
theorem dX9_deeper_56 : decode cX9_deeper 56 = .ok (.iconst 2, 1) := by decide +kernel
theorem dX9_deeper_57 : decode cX9_deeper 57 = .ok (.goto 4, 3) := by decide +kernel
theorem dX9_deeper_60 : decode cX9_deeper 60 = .ok (.iconst 1, 1) := by decide +kernel
theorem dX9_deeper_61 : decode cX9_deeper 61 = .ok (.invokevirtual 168, 3) := by decide +kernel
theorem dX9_deeper_64 : decode cX9_deeper 64 = .ok (.return_, 1) := by decide +kernel
theorem dX9_operand_0 : decode cX9_operand 0 = .ok (.iload_n 1, 1) := by decide +kernel
theorem dX9_operand_1 : decode cX9_operand 1 = .ok (.istore_n 2, 1) := by decide +kernel
theorem dX9_operand_2 : decode cX9_operand 2 = .ok (.iconst 1, 1) := by decide +kernel
theorem dX9_operand_3 : decode cX9_operand 3 = .ok (.istore_n 3, 1) := by decide +kernel
theorem dX9_operand_4 : decode cX9_operand 4 = .ok (.iload_n 3, 1) := by decide +kernel
theorem dX9_operand_5 : decode cX9_operand 5 = .ok (.ifCond .eq 115, 3) := by decide +kernel
theorem dX9_operand_8 : decode cX9_operand 8 = .ok (.aload_n 0, 1) := by decide +kernel
theorem dX9_operand_9 : decode cX9_operand 9 = .ok (.invokevirtual 161, 3) := by decide +kernel
theorem dX9_operand_12 : decode cX9_operand 12 = .ok (.ifCond .eq 108, 3) := by decide +kernel
theorem dX9_operand_15 : decode cX9_operand 15 = .ok (.iconst 0, 1) := by decide +kernel
theorem dX9_operand_16 : decode cX9_operand 16 = .ok (.istore 4, 2) := by decide +kernel
theorem dX9_operand_18 : decode cX9_operand 18 = .ok (.aload_n 0, 1) := by decide +kernel
theorem dX9_operand_19 : decode cX9_operand 19 = .ok (.invokevirtual 161, 3) := by decide +kernel
theorem dX9_operand_22 : decode cX9_operand 22 = .ok (.ifCond .eq 53, 3) := by decide +kernel
theorem dX9_operand_25 : decode cX9_operand 25 = .ok (.iload_n 2, 1) := by decide +kernel
theorem dX9_operand_26 : decode cX9_operand 26 = .ok (.ifCond .eq 49, 3) := by decide +kernel
theorem dX9_operand_29 : decode cX9_operand 29 = .ok (.aload_n 0, 1) := by decide +kernel
theorem dX9_operand_30 : decode cX9_operand 30 = .ok (.invokevirtual 189, 3) := by decide +kernel
theorem dX9_operand_33 : decode cX9_operand 33 = .ok (.bipush 20, 2) := by decide +kernel
theorem dX9_operand_35 : decode cX9_operand 35 = .ok (.if_icmp .ne 40, 3) := by decide +kernel
theorem dX9_operand_38 : decode cX9_operand 38 = .ok (.iload 4, 2) := by decide +kernel
theorem dX9_operand_40 : decode cX9_operand 40 = .ok (.bipush 6, 2) := by decide +kernel
theorem dX9_operand_42 : decode cX9_operand 42 = .ok (.if_icmp .ne 8, 3) := by decide +kernel
theorem dX9_operand_45 : decode cX9_operand 45 = .ok (.aload_n 0, 1) := by decide +kernel
theorem dX9_operand_46 : decode cX9_operand 46 = .ok (.iconst 2, 1) := by decide +kernel
theorem dX9_operand_47 : decode cX9_operand 47 = .ok (.invokevirtual 168, 3) := by decide +kernel
theorem dX9_operand_50 : decode cX9_operand 50 = .ok (.iinc 4 1, 3) := by decide +kernel
theorem dX9_operand_53 : decode cX9_operand 53 = .ok (.aload_n 0, 1) := by decide +kernel
theorem dX9_operand_54 : decode cX9_operand 54 = .ok (.invokevirtual 161, 3) := by decide +kernel
theorem dX9_operand_57 : decode cX9_operand 57 = .ok (.ifCond .ne 6, 3) := by decide +kernel
theorem dX9_operand_60 : decode cX9_operand 60 = .ok (.goto (-42), 3) := by decide +kernel
theorem dX9_operand_63 : decode cX9_operand 63 = .ok (.aload_n 0, 1) := by decide +kernel
theorem dX9_operand_64 : decode cX9_operand 64 = .ok (.iconst 3, 1) := by decide +kernel
theorem dX9_operand_65 : decode cX9_operand 65 = .ok (.invokevirtual 205, 3) := by decide +kernel
theorem dX9_operand_68 : decode cX9_operand 68 = .ok (.aload_n 0, 1) := by decide +kernel
theorem dX9_operand_69 : decode cX9_operand 69 = .ok (.invokevirtual 165, 3) := by decide +kernel
theorem dX9_operand_72 : decode cX9_operand 72 = .ok (.goto (-54), 3) := by decide +kernel
theorem dX9_operand_75 : decode cX9_operand 75 = .ok (.aload_n 0, 1) := by decide +kernel
theorem dX9_operand_76 : decode cX9_operand 76 = .ok (.invokevirtual 161, 3) := by decide +kernel
theorem dX9_operand_79 : decode cX9_operand 79 = .ok (.ifCond .eq 16, 3) := by decide +kernel
theorem dX9_operand_82 : decode cX9_operand 82 = .ok (.aload_n 0, 1) := by decide +kernel
theorem dX9_operand_83 : decode cX9_operand 83 = .ok (.bipush 40, 2) := by decide +kernel
theorem dX9_operand_85 : decode cX9_operand 85 = .ok (.invokevirtual 202, 3) := by decide +kernel
theorem dX9_operand_88 : decode cX9_operand 88 = .ok (.ifCond .eq 7, 3) := by decide +kernel
theorem dX9_operand_91 : decode cX9_operand 91 = .ok (.iconst 1, 1) := by decide +kernel
theorem dX9_operand_92 : decode cX9_operand 92 = .ok (.goto 4, 3) := by decide +kernel
theorem dX9_operand_95 : decode cX9_operand 95 = .ok (.iconst 0, 1) := by decide +kernel
theorem dX9_operand_96 : decode cX9_operand 96 = .ok (.istore_n 3, 1) := by decide +kernel
theorem dX9_operand_97 : decode cX9_operand 97 = .ok (.iload_n 3, 1) := by decide +kernel
theorem dX9_operand_98 : decode cX9_operand 98 = .ok (.ifCond .eq 19, 3) := by decide +kernel
theorem dX9_operand_101 : decode cX9_operand 101 = .ok (.aload_n 0, 1) := by decide +kernel
theorem dX9_operand_102 : decode cX9_operand 102 = .ok (.bipush 14, 2) := by decide +kernel
theorem dX9_operand_104 : decode cX9_operand 104 = .ok (.invokevirtual 205, 3) := by decide +kernel
theorem dX9_operand_107 : decode cX9_operand 107 = .ok (.aload_n 0, 1) := by decide +kernel
theorem dX9_operand_108 : decode cX9_operand 108 = .ok (.invokevirtual 165, 3) := by decide +kernel
theorem dX9_operand_111 : decode cX9_operand 111 = .ok (.aload_n 0, 1) := by decide +kernel
theorem dX9_operand_112 : decode cX9_operand 112 = .ok (.invokevirtual 208, 3) := by decide +kernel
theorem dX9_operand_115 : decode cX9_operand 115 = .ok (.iconst 1, 1) := by decide +kernel
theorem dX9_operand_116 : decode cX9_operand 116 = .ok (.istore_n 2, 1) := by decide +kernel
theorem dX9_operand_117 : decode cX9_operand 117 = .ok (.goto (-113), 3) := by decide +kernel
theorem dX9_operand_120 : decode cX9_operand 120 = .ok (.aload_n 0, 1) := by decide +kernel
theorem dX9_operand_121 : decode cX9_operand 121 = .ok (.invokevirtual 211, 3) := by decide +kernel
theorem dX9_operand_124 : decode cX9_operand 124 = .ok (.return_, 1) := by decide +kernel
theorem dX9_isOpened_0 : decode cX9_isOpened 0 = .ok (.aload_n 0, 1) := by decide +kernel
theorem dX9_isOpened_1 : decode cX9_isOpened 1 = .ok (.getfield 177, 3) := by decide +kernel
theorem dX9_isOpened_4 : decode cX9_isOpened 4 = .ok (.iconst 1, 1) := by decide +kernel
theorem dX9_isOpened_5 : decode cX9_isOpened 5 = .ok (.isub, 1) := by decide +kernel
theorem dX9_isOpened_6 : decode cX9_isOpened 6 = .ok (.istore_n 1, 1) := by decide +kernel
theorem dX9_isOpened_7 : decode cX9_isOpened 7 = .ok (.iload_n 1, 1) := by decide +kernel
theorem dX9_isOpened_8 : decode cX9_isOpened 8 = .ok (.ifCond .lt 21, 3) := by decide +kernel
theorem dX9_isOpened_11 : decode cX9_isOpened 11 = .ok (.aload_n 0, 1) := by decide +kernel
theorem dX9_isOpened_12 : decode cX9_isOpened 12 = .ok (.getfield 56, 3) := by decide +kernel
theorem dX9_isOpened_15 : decode cX9_isOpened 15 = .ok (.iload_n 1, 1) := by decide +kernel
theorem dX9_isOpened_16 : decode cX9_isOpened 16 = .ok (.iaload, 1) := by decide +kernel
theorem dX9_isOpened_17 : decode cX9_isOpened 17 = .ok (.invokestatic 180, 3) := by decide +kernel
theorem dX9_isOpened_20 : decode cX9_isOpened 20 = .ok (.ifCond .ne 9, 3) := by decide +kernel
theorem dX9_isOpened_23 : decode cX9_isOpened 23 = .ok (.iinc 1 (-1), 3) := by decide +kernel
theorem dX9_isOpened_26 : decode cX9_isOpened 26 = .ok (.goto (-19), 3) := by decide +kernel
theorem dX9_isOpened_29 : decode cX9_isOpened 29 = .ok (.iload_n 1, 1) := by decide +kernel
theorem dX9_isOpened_30 : decode cX9_isOpened 30 = .ok (.ifCond .lt 7, 3) := by decide +kernel
theorem dX9_isOpened_33 : decode cX9_isOpened 33 = .ok (.iconst 1, 1) := by decide +kernel
theorem dX9_isOpened_34 : decode cX9_isOpened 34 = .ok (.goto 4, 3) := by decide +kernel
theorem dX9_isOpened_37 : decode cX9_isOpened 37 = .ok (.iconst 0, 1) := by decide +kernel
theorem dX9_isOpened_38 : decode cX9_isOpened 38 = .ok (.ireturn, 1) := by decide +kernel
theorem dX9_closes_0 : decode cX9_closes 0 = .ok (.aload_n 0, 1) := by decide +kernel
theorem dX9_closes_1 : decode cX9_closes 1 = .ok (.iconst 0, 1) := by decide +kernel
theorem dX9_closes_2 : decode cX9_closes 2 = .ok (.invokevirtual 214, 3) := by decide +kernel
theorem dX9_closes_5 : decode cX9_closes 5 = .ok (.aload_n 0, 1) := by decide +kernel
theorem dX9_closes_6 : decode cX9_closes 6 = .ok (.dup, 1) := by decide +kernel
theorem dX9_closes_7 : decode cX9_closes 7 = .ok (.getfield 177, 3) := by decide +kernel
theorem dX9_closes_10 : decode cX9_closes 10 = .ok (.iconst 1, 1) := by decide +kernel
theorem dX9_closes_11 : decode cX9_closes 11 = .ok (.isub, 1) := by decide +kernel
theorem dX9_closes_12 : decode cX9_closes 12 = .ok (.putfield 177, 3) := by decide +kernel
theorem dX9_closes_15 : decode cX9_closes 15 = .ok (.aload_n 0, 1) := by decide +kernel
theorem dX9_closes_16 : decode cX9_closes 16 = .ok (.dup, 1) := by decide +kernel
theorem dX9_closes_17 : decode cX9_closes 17 = .ok (.getfield 199, 3) := by decide +kernel
theorem dX9_closes_20 : decode cX9_closes 20 = .ok (.iconst 1, 1) := by decide +kernel
theorem dX9_closes_21 : decode cX9_closes 21 = .ok (.isub, 1) := by decide +kernel
theorem dX9_closes_22 : decode cX9_closes 22 = .ok (.putfield 199, 3) := by decide +kernel
theorem dX9_closes_25 : decode cX9_closes 25 = .ok (.aload_n 0, 1) := by decide +kernel
theorem dX9_closes_26 : decode cX9_closes 26 = .ok (.invokevirtual 165, 3) := by decide +kernel
theorem dX9_closes_29 : decode cX9_closes 29 = .ok (.return_, 1) := by decide +kernel
theorem dX9_expression_0 : decode cX9_expression 0 = .ok (.aload_n 0, 1) := by decide +kernel
theorem dX9_expression_1 : decode cX9_expression 1 = .ok (.invokevirtual 161, 3) := by decide +kernel
theorem dX9_expression_4 : decode cX9_expression 4 = .ok (.ifCond .ne 4, 3) := by decide +kernel
theorem dX9_expression_7 : decode cX9_expression 7 = .ok (.return_, 1) := by decide +kernel
theorem dX9_expression_8 : decode cX9_expression 8 = .ok (.aload_n 0, 1) := by decide +kernel
theorem dX9_expression_9 : decode cX9_expression 9 = .ok (.iload_n 1, 1) := by decide +kernel
theorem dX9_expression_10 : decode cX9_expression 10 = .ok (.putfield 193, 3) := by decide +kernel
theorem dX9_expression_13 : decode cX9_expression 13 = .ok (.aload_n 0, 1) := by decide +kernel
theorem dX9_expression_14 : decode cX9_expression 14 = .ok (.iload_n 2, 1) := by decide +kernel
theorem dX9_expression_15 : decode cX9_expression 15 = .ok (.putfield 196, 3) := by decide +kernel
theorem dX9_expression_18 : decode cX9_expression 18 = .ok (.aload_n 0, 1) := by decide +kernel
theorem dX9_expression_19 : decode cX9_expression 19 = .ok (.iconst 0, 1) := by decide +kernel
theorem dX9_expression_20 : decode cX9_expression 20 = .ok (.putfield 177, 3) := by decide +kernel
theorem dX9_expression_23 : decode cX9_expression 23 = .ok (.aload_n 0, 1) := by decide +kernel
theorem dX9_expression_24 : decode cX9_expression 24 = .ok (.iconst 0, 1) := by decide +kernel
theorem dX9_expression_25 : decode cX9_expression 25 = .ok (.putfield 199, 3) := by decide +kernel
theorem dX9_expression_28 : decode cX9_expression 28 = .ok (.aload_n 0, 1) := by decide +kernel
theorem dX9_expression_29 : decode cX9_expression 29 = .ok (.invokevirtual 208, 3) := by decide +kernel
theorem dX9_expression_32 : decode cX9_expression 32 = .ok (.aload_n 0, 1) := by decide +kernel
theorem dX9_expression_33 : decode cX9_expression 33 = .ok (.iconst 1, 1) := by decide +kernel
theorem dX9_expression_34 : decode cX9_expression 34 = .ok (.invokevirtual 217, 3) := by decide +kernel
theorem dX9_expression_37 : decode cX9_expression 37 = .ok (.iconst 1, 1) := by decide +kernel
theorem dX9_expression_38 : decode cX9_expression 38 = .ok (.istore_n 3, 1) := by decide +kernel
theorem dX9_expression_39 : decode cX9_expression 39 = .ok (.iload_n 3, 1) := by decide +kernel
theorem dX9_expression_40 : decode cX9_expression 40 = .ok (.ifCond .eq 300, 3) := by decide +kernel
theorem dX9_expression_43 : decode cX9_expression 43 = .ok (.aload_n 0, 1) := by decide +kernel
theorem dX9_expression_44 : decode cX9_expression 44 = .ok (.invokevirtual 161, 3) := by decide +kernel
theorem dX9_expression_47 : decode cX9_expression 47 = .ok (.ifCond .eq 293, 3) := by decide +kernel
theorem dX9_expression_50 : decode cX9_expression 50 = .ok (.aload_n 0, 1) := by decide +kernel
theorem dX9_expression_51 : decode cX9_expression 51 = .ok (.invokevirtual 189, 3) := by decide +kernel
theorem dX9_expression_54 : decode cX9_expression 54 = .ok (.istore 4, 2) := by decide +kernel
theorem dX9_expression_56 : decode cX9_expression 56 = .ok (.iload 4, 2) := by decide +kernel
theorem dX9_expression_58 : decode cX9_expression 58 = .ok (.bipush 18, 2) := by decide +kernel
theorem dX9_expression_60 : decode cX9_expression 60 = .ok (.if_icmp .eq 10, 3) := by decide +kernel
theorem dX9_expression_63 : decode cX9_expression 63 = .ok (.iload 4, 2) := by decide +kernel
theorem dX9_expression_65 : decode cX9_expression 65 = .ok (.bipush 19, 2) := by decide +kernel
theorem dX9_expression_67 : decode cX9_expression 67 = .ok (.if_icmp .ne 57, 3) := by decide +kernel
theorem dX9_expression_70 : decode cX9_expression 70 = .ok (.aload_n 0, 1) := by decide +kernel
theorem dX9_expression_71 : decode cX9_expression 71 = .ok (.iload 4, 2) := by decide +kernel
theorem dX9_expression_73 : decode cX9_expression 73 = .ok (.bipush 18, 2) := by decide +kernel
theorem dX9_expression_75 : decode cX9_expression 75 = .ok (.if_icmp .ne 7, 3) := by decide +kernel
theorem dX9_expression_78 : decode cX9_expression 78 = .ok (.iconst 2, 1) := by decide +kernel
theorem dX9_expression_79 : decode cX9_expression 79 = .ok (.goto 4, 3) := by decide +kernel
theorem dX9_expression_82 : decode cX9_expression 82 = .ok (.iconst 1, 1) := by decide +kernel
theorem dX9_expression_83 : decode cX9_expression 83 = .ok (.invokevirtual 214, 3) := by decide +kernel
theorem dX9_expression_86 : decode cX9_expression 86 = .ok (.aload_n 0, 1) := by decide +kernel
theorem dX9_expression_87 : decode cX9_expression 87 = .ok (.iload 4, 2) := by decide +kernel
theorem dX9_expression_89 : decode cX9_expression 89 = .ok (.bipush 18, 2) := by decide +kernel
theorem dX9_expression_91 : decode cX9_expression 91 = .ok (.if_icmp .ne 7, 3) := by decide +kernel
theorem dX9_expression_94 : decode cX9_expression 94 = .ok (.iconst 4, 1) := by decide +kernel
theorem dX9_expression_95 : decode cX9_expression 95 = .ok (.goto 4, 3) := by decide +kernel
theorem dX9_expression_98 : decode cX9_expression 98 = .ok (.iconst 5, 1) := by decide +kernel
theorem dX9_expression_99 : decode cX9_expression 99 = .ok (.invokevirtual 205, 3) := by decide +kernel
theorem dX9_expression_102 : decode cX9_expression 102 = .ok (.aload_n 0, 1) := by decide +kernel
theorem dX9_expression_103 : decode cX9_expression 103 = .ok (.getfield 59, 3) := by decide +kernel
theorem dX9_expression_106 : decode cX9_expression 106 = .ok (.aload_n 0, 1) := by decide +kernel
theorem dX9_expression_107 : decode cX9_expression 107 = .ok (.getfield 199, 3) := by decide +kernel
theorem dX9_expression_110 : decode cX9_expression 110 = .ok (.iconst 0, 1) := by decide +kernel
theorem dX9_expression_111 : decode cX9_expression 111 = .ok (.bastore, 1) := by decide +kernel
theorem dX9_expression_112 : decode cX9_expression 112 = .ok (.aload_n 0, 1) := by decide +kernel
theorem dX9_expression_113 : decode cX9_expression 113 = .ok (.invokevirtual 165, 3) := by decide +kernel
theorem dX9_expression_116 : decode cX9_expression 116 = .ok (.aload_n 0, 1) := by decide +kernel
theorem dX9_expression_117 : decode cX9_expression 117 = .ok (.iconst 1, 1) := by decide +kernel
theorem dX9_expression_118 : decode cX9_expression 118 = .ok (.invokevirtual 217, 3) := by decide +kernel
theorem dX9_expression_121 : decode cX9_expression 121 = .ok (.goto 216, 3) := by decide +kernel
theorem dX9_expression_124 : decode cX9_expression 124 = .ok (.aload_n 0, 1) := by decide +kernel
theorem dX9_expression_125 : decode cX9_expression 125 = .ok (.bipush 60, 2) := by decide +kernel
theorem dX9_expression_127 : decode cX9_expression 127 = .ok (.invokevirtual 202, 3) := by decide +kernel
theorem dX9_expression_130 : decode cX9_expression 130 = .ok (.ifCond .ne 12, 3) := by decide +kernel
theorem dX9_expression_133 : decode cX9_expression 133 = .ok (.aload_n 0, 1) := by decide +kernel
theorem dX9_expression_134 : decode cX9_expression 134 = .ok (.bipush 61, 2) := by decide +kernel
theorem dX9_expression_136 : decode cX9_expression 136 = .ok (.invokevirtual 202, 3) := by decide +kernel
theorem dX9_expression_139 : decode cX9_expression 139 = .ok (.ifCond .eq 62, 3) := by decide +kernel
theorem dX9_expression_142 : decode cX9_expression 142 = .ok (.aload_n 0, 1) := by decide +kernel
theorem dX9_expression_143 : decode cX9_expression 143 = .ok (.getfield 59, 3) := by decide +kernel
theorem dX9_expression_146 : decode cX9_expression 146 = .ok (.aload_n 0, 1) := by decide +kernel
theorem dX9_expression_147 : decode cX9_expression 147 = .ok (.getfield 199, 3) := by decide +kernel
theorem dX9_expression_150 : decode cX9_expression 150 = .ok (.baload, 1) := by decide +kernel
theorem dX9_expression_151 : decode cX9_expression 151 = .ok (.ifCond .ne 50, 3) := by decide +kernel
theorem dX9_expression_154 : decode cX9_expression 154 = .ok (.aload_n 0, 1) := by decide +kernel
theorem dX9_expression_155 : decode cX9_expression 155 = .ok (.iconst 4, 1) := by decide +kernel
theorem dX9_expression_156 : decode cX9_expression 156 = .ok (.invokevirtual 214, 3) := by decide +kernel
theorem dX9_expression_159 : decode cX9_expression 159 = .ok (.aload_n 0, 1) := by decide +kernel
theorem dX9_expression_160 : decode cX9_expression 160 = .ok (.aload_n 0, 1) := by decide +kernel
theorem dX9_expression_161 : decode cX9_expression 161 = .ok (.bipush 60, 2) := by decide +kernel
theorem dX9_expression_163 : decode cX9_expression 163 = .ok (.invokevirtual 202, 3) := by decide +kernel
theorem dX9_expression_166 : decode cX9_expression 166 = .ok (.ifCond .eq 8, 3) := by decide +kernel
theorem dX9_expression_169 : decode cX9_expression 169 = .ok (.bipush 6, 2) := by decide +kernel
theorem dX9_expression_171 : decode cX9_expression 171 = .ok (.goto 5, 3) := by decide +kernel
theorem dX9_expression_174 : decode cX9_expression 174 = .ok (.bipush 7, 2) := by decide +kernel
theorem dX9_expression_176 : decode cX9_expression 176 = .ok (.invokevirtual 205, 3) := by decide +kernel
theorem dX9_expression_179 : decode cX9_expression 179 = .ok (.aload_n 0, 1) := by decide +kernel
theorem dX9_expression_180 : decode cX9_expression 180 = .ok (.getfield 59, 3) := by decide +kernel
theorem dX9_expression_183 : decode cX9_expression 183 = .ok (.aload_n 0, 1) := by decide +kernel
theorem dX9_expression_184 : decode cX9_expression 184 = .ok (.getfield 199, 3) := by decide +kernel
theorem dX9_expression_187 : decode cX9_expression 187 = .ok (.iconst 1, 1) := by decide +kernel
theorem dX9_expression_188 : decode cX9_expression 188 = .ok (.bastore, 1) := by decide +kernel
theorem dX9_expression_189 : decode cX9_expression 189 = .ok (.aload_n 0, 1) := by decide +kernel
theorem dX9_expression_190 : decode cX9_expression 190 = .ok (.invokevirtual 165, 3) := by decide +kernel
theorem dX9_expression_193 : decode cX9_expression 193 = .ok (.aload_n 0, 1) := by decide +kernel
theorem dX9_expression_194 : decode cX9_expression 194 = .ok (.iconst 0, 1) := by decide +kernel
theorem dX9_expression_195 : decode cX9_expression 195 = .ok (.invokevirtual 217, 3) := by decide +kernel
theorem dX9_expression_198 : decode cX9_expression 198 = .ok (.goto 139, 3) := by decide +kernel
theorem dX9_expression_201 : decode cX9_expression 201 = .ok (.aload_n 0, 1) := by decide +kernel
theorem dX9_expression_202 : decode cX9_expression 202 = .ok (.bipush 43, 2) := by decide +kernel
theorem dX9_expression_204 : decode cX9_expression 204 = .ok (.invokevirtual 202, 3) := by decide +kernel
theorem dX9_expression_207 : decode cX9_expression 207 = .ok (.ifCond .ne 12, 3) := by decide +kernel
theorem dX9_expression_210 : decode cX9_expression 210 = .ok (.aload_n 0, 1) := by decide +kernel
theorem dX9_expression_211 : decode cX9_expression 211 = .ok (.bipush 45, 2) := by decide +kernel
theorem dX9_expression_213 : decode cX9_expression 213 = .ok (.invokevirtual 202, 3) := by decide +kernel
theorem dX9_expression_216 : decode cX9_expression 216 = .ok (.ifCond .eq 40, 3) := by decide +kernel
theorem dX9_expression_219 : decode cX9_expression 219 = .ok (.aload_n 0, 1) := by decide +kernel
theorem dX9_expression_220 : decode cX9_expression 220 = .ok (.iconst 5, 1) := by decide +kernel
theorem dX9_expression_221 : decode cX9_expression 221 = .ok (.invokevirtual 214, 3) := by decide +kernel
theorem dX9_expression_224 : decode cX9_expression 224 = .ok (.aload_n 0, 1) := by decide +kernel
theorem dX9_expression_225 : decode cX9_expression 225 = .ok (.aload_n 0, 1) := by decide +kernel
theorem dX9_expression_226 : decode cX9_expression 226 = .ok (.bipush 43, 2) := by decide +kernel
theorem dX9_expression_228 : decode cX9_expression 228 = .ok (.invokevirtual 202, 3) := by decide +kernel
theorem dX9_expression_231 : decode cX9_expression 231 = .ok (.ifCond .eq 8, 3) := by decide +kernel
theorem dX9_expression_234 : decode cX9_expression 234 = .ok (.bipush 8, 2) := by decide +kernel
theorem dX9_expression_236 : decode cX9_expression 236 = .ok (.goto 5, 3) := by decide +kernel
theorem dX9_expression_239 : decode cX9_expression 239 = .ok (.bipush 9, 2) := by decide +kernel
theorem dX9_expression_241 : decode cX9_expression 241 = .ok (.invokevirtual 205, 3) := by decide +kernel
theorem dX9_expression_244 : decode cX9_expression 244 = .ok (.aload_n 0, 1) := by decide +kernel
theorem dX9_expression_245 : decode cX9_expression 245 = .ok (.invokevirtual 165, 3) := by decide +kernel
theorem dX9_expression_248 : decode cX9_expression 248 = .ok (.aload_n 0, 1) := by decide +kernel
theorem dX9_expression_249 : decode cX9_expression 249 = .ok (.iconst 0, 1) := by decide +kernel
theorem dX9_expression_250 : decode cX9_expression 250 = .ok (.invokevirtual 217, 3) := by decide +kernel
theorem dX9_expression_253 : decode cX9_expression 253 = .ok (.goto 84, 3) := by decide +kernel
theorem dX9_expression_256 : decode cX9_expression 256 = .ok (.aload_n 0, 1) := by decide +kernel
theorem dX9_expression_257 : decode cX9_expression 257 = .ok (.bipush 42, 2) := by decide +kernel
theorem dX9_expression_259 : decode cX9_expression 259 = .ok (.invokevirtual 202, 3) := by decide +kernel
theorem dX9_expression_262 : decode cX9_expression 262 = .ok (.ifCond .ne 12, 3) := by decide +kernel
theorem dX9_expression_265 : decode cX9_expression 265 = .ok (.aload_n 0, 1) := by decide +kernel
theorem dX9_expression_266 : decode cX9_expression 266 = .ok (.bipush 47, 2) := by decide +kernel
theorem dX9_expression_268 : decode cX9_expression 268 = .ok (.invokevirtual 202, 3) := by decide +kernel
theorem dX9_expression_271 : decode cX9_expression 271 = .ok (.ifCond .eq 41, 3) := by decide +kernel
theorem dX9_expression_274 : decode cX9_expression 274 = .ok (.aload_n 0, 1) := by decide +kernel
theorem dX9_expression_275 : decode cX9_expression 275 = .ok (.bipush 6, 2) := by decide +kernel
theorem dX9_expression_277 : decode cX9_expression 277 = .ok (.invokevirtual 214, 3) := by decide +kernel
theorem dX9_expression_280 : decode cX9_expression 280 = .ok (.aload_n 0, 1) := by decide +kernel
theorem dX9_expression_281 : decode cX9_expression 281 = .ok (.aload_n 0, 1) := by decide +kernel
theorem dX9_expression_282 : decode cX9_expression 282 = .ok (.bipush 42, 2) := by decide +kernel
theorem dX9_expression_284 : decode cX9_expression 284 = .ok (.invokevirtual 202, 3) := by decide +kernel
theorem dX9_expression_287 : decode cX9_expression 287 = .ok (.ifCond .eq 8, 3) := by decide +kernel
theorem dX9_expression_290 : decode cX9_expression 290 = .ok (.bipush 10, 2) := by decide +kernel
theorem dX9_expression_292 : decode cX9_expression 292 = .ok (.goto 5, 3) := by decide +kernel
theorem dX9_expression_295 : decode cX9_expression 295 = .ok (.bipush 11, 2) := by decide +kernel
theorem dX9_expression_297 : decode cX9_expression 297 = .ok (.invokevirtual 205, 3) := by decide +kernel
theorem dX9_expression_300 : decode cX9_expression 300 = .ok (.aload_n 0, 1) := by decide +kernel
theorem dX9_expression_301 : decode cX9_expression 301 = .ok (.invokevirtual 165, 3) := by decide +kernel
theorem dX9_expression_304 : decode cX9_expression 304 = .ok (.aload_n 0, 1) := by decide +kernel
theorem dX9_expression_305 : decode cX9_expression 305 = .ok (.iconst 0, 1) := by decide +kernel
theorem dX9_expression_306 : decode cX9_expression 306 = .ok (.invokevirtual 217, 3) := by decide +kernel
theorem dX9_expression_309 : decode cX9_expression 309 = .ok (.goto 28, 3) := by decide +kernel
theorem dX9_expression_312 : decode cX9_expression 312 = .ok (.aload_n 0, 1) := by decide +kernel
theorem dX9_expression_313 : decode cX9_expression 313 = .ok (.bipush 41, 2) := by decide +kernel
theorem dX9_expression_315 : decode cX9_expression 315 = .ok (.invokevirtual 202, 3) := by decide +kernel
theorem dX9_expression_318 : decode cX9_expression 318 = .ok (.ifCond .eq 17, 3) := by decide +kernel
theorem dX9_expression_321 : decode cX9_expression 321 = .ok (.aload_n 0, 1) := by decide +kernel
theorem dX9_expression_322 : decode cX9_expression 322 = .ok (.invokevirtual 221, 3) := by decide +kernel
theorem dX9_expression_325 : decode cX9_expression 325 = .ok (.ifCond .eq 10, 3) := by decide +kernel
theorem dX9_expression_328 : decode cX9_expression 328 = .ok (.aload_n 0, 1) := by decide +kernel
theorem dX9_expression_329 : decode cX9_expression 329 = .ok (.invokevirtual 224, 3) := by decide +kernel
theorem dX9_expression_332 : decode cX9_expression 332 = .ok (.goto 5, 3) := by decide +kernel
theorem dX9_expression_335 : decode cX9_expression 335 = .ok (.iconst 0, 1) := by decide +kernel
theorem dX9_expression_336 : decode cX9_expression 336 = .ok (.istore_n 3, 1) := by decide +kernel
theorem dX9_expression_337 : decode cX9_expression 337 = .ok (.goto (-298), 3) := by decide +kernel
theorem dX9_expression_340 : decode cX9_expression 340 = .ok (.aload_n 0, 1) := by decide +kernel
theorem dX9_expression_341 : decode cX9_expression 341 = .ok (.invokevirtual 161, 3) := by decide +kernel
theorem dX9_expression_344 : decode cX9_expression 344 = .ok (.ifCond .eq 16, 3) := by decide +kernel
theorem dX9_expression_347 : decode cX9_expression 347 = .ok (.aload_n 0, 1) := by decide +kernel
theorem dX9_expression_348 : decode cX9_expression 348 = .ok (.getfield 199, 3) := by decide +kernel
theorem dX9_expression_351 : decode cX9_expression 351 = .ok (.iconst 1, 1) := by decide +kernel
theorem dX9_expression_352 : decode cX9_expression 352 = .ok (.if_icmp .le 8, 3) := by decide +kernel
theorem dX9_expression_355 : decode cX9_expression 355 = .ok (.aload_n 0, 1) := by decide +kernel
theorem dX9_expression_356 : decode cX9_expression 356 = .ok (.iconst 1, 1) := by decide +kernel
theorem dX9_expression_357 : decode cX9_expression 357 = .ok (.invokevirtual 168, 3) := by decide +kernel
theorem dX9_expression_360 : decode cX9_expression 360 = .ok (.aload_n 0, 1) := by decide +kernel
theorem dX9_expression_361 : decode cX9_expression 361 = .ok (.iconst 0, 1) := by decide +kernel
theorem dX9_expression_362 : decode cX9_expression 362 = .ok (.invokevirtual 214, 3) := by decide +kernel
theorem dX9_expression_365 : decode cX9_expression 365 = .ok (.aload_n 0, 1) := by decide +kernel
theorem dX9_expression_366 : decode cX9_expression 366 = .ok (.iconst 0, 1) := by decide +kernel
theorem dX9_expression_367 : decode cX9_expression 367 = .ok (.invokevirtual 186, 3) := by decide +kernel
theorem dX9_expression_370 : decode cX9_expression 370 = .ok (.return_, 1) := by decide +kernel
theorem dX9_begins_0 : decode cX9_begins 0 = .ok (.iload_n 1, 1) := by decide +kernel
theorem dX9_begins_1 : decode cX9_begins 1 = .ok (.ifCond .eq 8, 3) := by decide +kernel
theorem dX9_begins_4 : decode cX9_begins 4 = .ok (.aload_n 0, 1) := by decide +kernel
theorem dX9_begins_5 : decode cX9_begins 5 = .ok (.iconst 2, 1) := by decide +kernel
theorem dX9_begins_6 : decode cX9_begins 6 = .ok (.invokevirtual 168, 3) := by decide +kernel
theorem dX9_begins_9 : decode cX9_begins 9 = .ok (.iload_n 2, 1) := by decide +kernel
theorem dX9_begins_10 : decode cX9_begins 10 = .ok (.ifCond .eq 8, 3) := by decide +kernel
theorem dX9_begins_13 : decode cX9_begins 13 = .ok (.aload_n 0, 1) := by decide +kernel
theorem dX9_begins_14 : decode cX9_begins 14 = .ok (.iconst 5, 1) := by decide +kernel
theorem dX9_begins_15 : decode cX9_begins 15 = .ok (.invokevirtual 168, 3) := by decide +kernel
theorem dX9_begins_18 : decode cX9_begins 18 = .ok (.aload_n 0, 1) := by decide +kernel
theorem dX9_begins_19 : decode cX9_begins 19 = .ok (.invokevirtual 161, 3) := by decide +kernel
theorem dX9_begins_22 : decode cX9_begins 22 = .ok (.ifCond .ne 5, 3) := by decide +kernel
theorem dX9_begins_25 : decode cX9_begins 25 = .ok (.iconst 0, 1) := by decide +kernel
theorem dX9_begins_26 : decode cX9_begins 26 = .ok (.ireturn, 1) := by decide +kernel
theorem dX9_begins_27 : decode cX9_begins 27 = .ok (.aload_n 0, 1) := by decide +kernel
theorem dX9_begins_28 : decode cX9_begins 28 = .ok (.invokevirtual 165, 3) := by decide +kernel
theorem dX9_begins_31 : decode cX9_begins 31 = .ok (.iconst 1, 1) := by decide +kernel
theorem dX9_begins_32 : decode cX9_begins 32 = .ok (.ireturn, 1) := by decide +kernel
theorem dX9_readsWinds_0 : decode cX9_readsWinds 0 = .ok (.iconst 1, 1) := by decide +kernel
theorem dX9_readsWinds_1 : decode cX9_readsWinds 1 = .ok (.istore_n 1, 1) := by decide +kernel
theorem dX9_readsWinds_2 : decode cX9_readsWinds 2 = .ok (.aload_n 0, 1) := by decide +kernel
theorem dX9_readsWinds_3 : decode cX9_readsWinds 3 = .ok (.iconst 0, 1) := by decide +kernel
theorem dX9_readsWinds_4 : decode cX9_readsWinds 4 = .ok (.putfield 227, 3) := by decide +kernel
theorem dX9_readsWinds_7 : decode cX9_readsWinds 7 = .ok (.iload_n 1, 1) := by decide +kernel
theorem dX9_readsWinds_8 : decode cX9_readsWinds 8 = .ok (.ifCond .eq 85, 3) := by decide +kernel
theorem dX9_readsWinds_11 : decode cX9_readsWinds 11 = .ok (.aload_n 0, 1) := by decide +kernel
theorem dX9_readsWinds_12 : decode cX9_readsWinds 12 = .ok (.invokevirtual 161, 3) := by decide +kernel
theorem dX9_readsWinds_15 : decode cX9_readsWinds 15 = .ok (.ifCond .eq 78, 3) := by decide +kernel
theorem dX9_readsWinds_18 : decode cX9_readsWinds 18 = .ok (.aload_n 0, 1) := by decide +kernel
theorem dX9_readsWinds_19 : decode cX9_readsWinds 19 = .ok (.getfield 227, 3) := by decide +kernel
theorem dX9_readsWinds_22 : decode cX9_readsWinds 22 = .ok (.bipush 8, 2) := by decide +kernel
theorem dX9_readsWinds_24 : decode cX9_readsWinds 24 = .ok (.if_icmp .ne 16, 3) := by decide +kernel
theorem dX9_readsWinds_27 : decode cX9_readsWinds 27 = .ok (.aload_n 0, 1) := by decide +kernel
theorem dX9_readsWinds_28 : decode cX9_readsWinds 28 = .ok (.getfield 135, 3) := by decide +kernel
theorem dX9_readsWinds_31 : decode cX9_readsWinds 31 = .ok (.iconst 2, 1) := by decide +kernel
theorem dX9_readsWinds_32 : decode cX9_readsWinds 32 = .ok (.if_icmp .ne 8, 3) := by decide +kernel
theorem dX9_readsWinds_35 : decode cX9_readsWinds 35 = .ok (.aload_n 0, 1) := by decide +kernel
theorem dX9_readsWinds_36 : decode cX9_readsWinds 36 = .ok (.iconst 2, 1) := by decide +kernel
theorem dX9_readsWinds_37 : decode cX9_readsWinds 37 = .ok (.invokevirtual 168, 3) := by decide +kernel
theorem dX9_readsWinds_40 : decode cX9_readsWinds 40 = .ok (.aload_n 0, 1) := by decide +kernel
theorem dX9_readsWinds_41 : decode cX9_readsWinds 41 = .ok (.iconst 0, 1) := by decide +kernel
theorem dX9_readsWinds_42 : decode cX9_readsWinds 42 = .ok (.bipush 9, 2) := by decide +kernel
theorem dX9_readsWinds_44 : decode cX9_readsWinds 44 = .ok (.invokevirtual 230, 3) := by decide +kernel
theorem dX9_readsWinds_47 : decode cX9_readsWinds 47 = .ok (.istore_n 2, 1) := by decide +kernel
theorem dX9_readsWinds_48 : decode cX9_readsWinds 48 = .ok (.aload_n 0, 1) := by decide +kernel
theorem dX9_readsWinds_49 : decode cX9_readsWinds 49 = .ok (.invokevirtual 161, 3) := by decide +kernel
theorem dX9_readsWinds_52 : decode cX9_readsWinds 52 = .ok (.ifCond .ne 4, 3) := by decide +kernel
theorem dX9_readsWinds_55 : decode cX9_readsWinds 55 = .ok (.return_, 1) := by decide +kernel
theorem dX9_readsWinds_56 : decode cX9_readsWinds 56 = .ok (.aload_n 0, 1) := by decide +kernel
theorem dX9_readsWinds_57 : decode cX9_readsWinds 57 = .ok (.getfield 41, 3) := by decide +kernel
theorem dX9_readsWinds_60 : decode cX9_readsWinds 60 = .ok (.aload_n 0, 1) := by decide +kernel
theorem dX9_readsWinds_61 : decode cX9_readsWinds 61 = .ok (.getfield 227, 3) := by decide +kernel
theorem dX9_readsWinds_64 : decode cX9_readsWinds 64 = .ok (.iload_n 2, 1) := by decide +kernel
theorem dX9_readsWinds_65 : decode cX9_readsWinds 65 = .ok (.iastore, 1) := by decide +kernel
theorem dX9_readsWinds_66 : decode cX9_readsWinds 66 = .ok (.aload_n 0, 1) := by decide +kernel
theorem dX9_readsWinds_67 : decode cX9_readsWinds 67 = .ok (.dup, 1) := by decide +kernel
theorem dX9_readsWinds_68 : decode cX9_readsWinds 68 = .ok (.getfield 227, 3) := by decide +kernel
theorem dX9_readsWinds_71 : decode cX9_readsWinds 71 = .ok (.iconst 1, 1) := by decide +kernel
theorem dX9_readsWinds_72 : decode cX9_readsWinds 72 = .ok (.iadd, 1) := by decide +kernel
theorem dX9_readsWinds_73 : decode cX9_readsWinds 73 = .ok (.putfield 227, 3) := by decide +kernel
theorem dX9_readsWinds_76 : decode cX9_readsWinds 76 = .ok (.aload_n 0, 1) := by decide +kernel
theorem dX9_readsWinds_77 : decode cX9_readsWinds 77 = .ok (.getfield 135, 3) := by decide +kernel
theorem dX9_readsWinds_80 : decode cX9_readsWinds 80 = .ok (.iconst 2, 1) := by decide +kernel
theorem dX9_readsWinds_81 : decode cX9_readsWinds 81 = .ok (.if_icmp .ne 7, 3) := by decide +kernel
theorem dX9_readsWinds_84 : decode cX9_readsWinds 84 = .ok (.iconst 1, 1) := by decide +kernel
theorem dX9_readsWinds_85 : decode cX9_readsWinds 85 = .ok (.goto 4, 3) := by decide +kernel
theorem dX9_readsWinds_88 : decode cX9_readsWinds 88 = .ok (.iconst 0, 1) := by decide +kernel
theorem dX9_readsWinds_89 : decode cX9_readsWinds 89 = .ok (.istore_n 1, 1) := by decide +kernel
theorem dX9_readsWinds_90 : decode cX9_readsWinds 90 = .ok (.goto (-83), 3) := by decide +kernel
theorem dX9_readsWinds_93 : decode cX9_readsWinds 93 = .ok (.return_, 1) := by decide +kernel
theorem dX9_readsStreet_0 : decode cX9_readsStreet 0 = .ok (.aload_n 0, 1) := by decide +kernel
theorem dX9_readsStreet_1 : decode cX9_readsStreet 1 = .ok (.invokevirtual 234, 3) := by decide +kernel
theorem dX9_readsStreet_4 : decode cX9_readsStreet 4 = .ok (.ifCond .ne 4, 3) := by decide +kernel
theorem dX9_readsStreet_7 : decode cX9_readsStreet 7 = .ok (.return_, 1) := by decide +kernel
theorem dX9_readsStreet_8 : decode cX9_readsStreet 8 = .ok (.aload_n 0, 1) := by decide +kernel
theorem dX9_readsStreet_9 : decode cX9_readsStreet 9 = .ok (.getfield 129, 3) := by decide +kernel
theorem dX9_readsStreet_12 : decode cX9_readsStreet 12 = .ok (.istore_n 1, 1) := by decide +kernel
theorem dX9_readsStreet_13 : decode cX9_readsStreet 13 = .ok (.aload_n 0, 1) := by decide +kernel
theorem dX9_readsStreet_14 : decode cX9_readsStreet 14 = .ok (.invokevirtual 165, 3) := by decide +kernel
theorem dX9_readsStreet_17 : decode cX9_readsStreet 17 = .ok (.aload_n 0, 1) := by decide +kernel
theorem dX9_readsStreet_18 : decode cX9_readsStreet 18 = .ok (.invokevirtual 234, 3) := by decide +kernel
theorem dX9_readsStreet_21 : decode cX9_readsStreet 21 = .ok (.ifCond .ne 4, 3) := by decide +kernel
theorem dX9_readsStreet_24 : decode cX9_readsStreet 24 = .ok (.return_, 1) := by decide +kernel
theorem dX9_readsStreet_25 : decode cX9_readsStreet 25 = .ok (.aload_n 0, 1) := by decide +kernel
theorem dX9_readsStreet_26 : decode cX9_readsStreet 26 = .ok (.getfield 129, 3) := by decide +kernel
theorem dX9_readsStreet_29 : decode cX9_readsStreet 29 = .ok (.istore_n 2, 1) := by decide +kernel
theorem dX9_readsStreet_30 : decode cX9_readsStreet 30 = .ok (.iload_n 1, 1) := by decide +kernel
theorem dX9_readsStreet_31 : decode cX9_readsStreet 31 = .ok (.iload_n 2, 1) := by decide +kernel
theorem dX9_readsStreet_32 : decode cX9_readsStreet 32 = .ok (.if_icmp .eq 20, 3) := by decide +kernel
theorem dX9_readsStreet_35 : decode cX9_readsStreet 35 = .ok (.aload_n 0, 1) := by decide +kernel
theorem dX9_readsStreet_36 : decode cX9_readsStreet 36 = .ok (.getfield 44, 3) := by decide +kernel
theorem dX9_readsStreet_39 : decode cX9_readsStreet 39 = .ok (.bipush 46, 2) := by decide +kernel
theorem dX9_readsStreet_41 : decode cX9_readsStreet 41 = .ok (.iload_n 1, 1) := by decide +kernel
theorem dX9_readsStreet_42 : decode cX9_readsStreet 42 = .ok (.iadd, 1) := by decide +kernel
theorem dX9_readsStreet_43 : decode cX9_readsStreet 43 = .ok (.iaload, 1) := by decide +kernel
theorem dX9_readsStreet_44 : decode cX9_readsStreet 44 = .ok (.iload_n 2, 1) := by decide +kernel
theorem dX9_readsStreet_45 : decode cX9_readsStreet 45 = .ok (.ishr, 1) := by decide +kernel
theorem dX9_readsStreet_46 : decode cX9_readsStreet 46 = .ok (.iconst 1, 1) := by decide +kernel
theorem dX9_readsStreet_47 : decode cX9_readsStreet 47 = .ok (.iand, 1) := by decide +kernel
theorem dX9_readsStreet_48 : decode cX9_readsStreet 48 = .ok (.iconst 1, 1) := by decide +kernel
theorem dX9_readsStreet_49 : decode cX9_readsStreet 49 = .ok (.if_icmp .ne 8, 3) := by decide +kernel
theorem dX9_readsStreet_52 : decode cX9_readsStreet 52 = .ok (.aload_n 0, 1) := by decide +kernel
theorem dX9_readsStreet_53 : decode cX9_readsStreet 53 = .ok (.iconst 4, 1) := by decide +kernel
theorem dX9_readsStreet_54 : decode cX9_readsStreet 54 = .ok (.invokevirtual 168, 3) := by decide +kernel
theorem dX9_readsStreet_57 : decode cX9_readsStreet 57 = .ok (.aload_n 0, 1) := by decide +kernel
theorem dX9_readsStreet_58 : decode cX9_readsStreet 58 = .ok (.invokevirtual 161, 3) := by decide +kernel
theorem dX9_readsStreet_61 : decode cX9_readsStreet 61 = .ok (.ifCond .ne 4, 3) := by decide +kernel
theorem dX9_readsStreet_64 : decode cX9_readsStreet 64 = .ok (.return_, 1) := by decide +kernel
theorem dX9_readsStreet_65 : decode cX9_readsStreet 65 = .ok (.aload_n 0, 1) := by decide +kernel
theorem dX9_readsStreet_66 : decode cX9_readsStreet 66 = .ok (.getfield 44, 3) := by decide +kernel
theorem dX9_readsStreet_69 : decode cX9_readsStreet 69 = .ok (.bipush 46, 2) := by decide +kernel
theorem dX9_readsStreet_71 : decode cX9_readsStreet 71 = .ok (.iload_n 1, 1) := by decide +kernel
theorem dX9_readsStreet_72 : decode cX9_readsStreet 72 = .ok (.iadd, 1) := by decide +kernel
theorem dX9_readsStreet_73 : decode cX9_readsStreet 73 = .ok (.dup2, 1) := by decide +kernel
theorem dX9_readsStreet_74 : decode cX9_readsStreet 74 = .ok (.iaload, 1) := by decide +kernel
theorem dX9_readsStreet_75 : decode cX9_readsStreet 75 = .ok (.iconst 1, 1) := by decide +kernel
theorem dX9_readsStreet_76 : decode cX9_readsStreet 76 = .ok (.iload_n 2, 1) := by decide +kernel
theorem dX9_readsStreet_77 : decode cX9_readsStreet 77 = .ok (.ishl, 1) := by decide +kernel
theorem dX9_readsStreet_78 : decode cX9_readsStreet 78 = .ok (.ior, 1) := by decide +kernel
theorem dX9_readsStreet_79 : decode cX9_readsStreet 79 = .ok (.iastore, 1) := by decide +kernel
theorem dX9_readsStreet_80 : decode cX9_readsStreet 80 = .ok (.aload_n 0, 1) := by decide +kernel
theorem dX9_readsStreet_81 : decode cX9_readsStreet 81 = .ok (.getfield 44, 3) := by decide +kernel
theorem dX9_readsStreet_84 : decode cX9_readsStreet 84 = .ok (.bipush 46, 2) := by decide +kernel
theorem dX9_readsStreet_86 : decode cX9_readsStreet 86 = .ok (.iload_n 2, 1) := by decide +kernel
theorem dX9_readsStreet_87 : decode cX9_readsStreet 87 = .ok (.iadd, 1) := by decide +kernel
theorem dX9_readsStreet_88 : decode cX9_readsStreet 88 = .ok (.dup2, 1) := by decide +kernel
theorem dX9_readsStreet_89 : decode cX9_readsStreet 89 = .ok (.iaload, 1) := by decide +kernel
theorem dX9_readsStreet_90 : decode cX9_readsStreet 90 = .ok (.iconst 1, 1) := by decide +kernel
theorem dX9_readsStreet_91 : decode cX9_readsStreet 91 = .ok (.iload_n 1, 1) := by decide +kernel
theorem dX9_readsStreet_92 : decode cX9_readsStreet 92 = .ok (.ishl, 1) := by decide +kernel
theorem dX9_readsStreet_93 : decode cX9_readsStreet 93 = .ok (.ior, 1) := by decide +kernel
theorem dX9_readsStreet_94 : decode cX9_readsStreet 94 = .ok (.iastore, 1) := by decide +kernel
theorem dX9_readsStreet_95 : decode cX9_readsStreet 95 = .ok (.aload_n 0, 1) := by decide +kernel
theorem dX9_readsStreet_96 : decode cX9_readsStreet 96 = .ok (.invokevirtual 165, 3) := by decide +kernel
theorem dX9_readsStreet_99 : decode cX9_readsStreet 99 = .ok (.return_, 1) := by decide +kernel
theorem dX9_readsHung_0 : decode cX9_readsHung 0 = .ok (.aload_n 0, 1) := by decide +kernel
theorem dX9_readsHung_1 : decode cX9_readsHung 1 = .ok (.getfield 44, 3) := by decide +kernel
theorem dX9_readsHung_4 : decode cX9_readsHung 4 = .ok (.bipush 6, 2) := by decide +kernel
theorem dX9_readsHung_6 : decode cX9_readsHung 6 = .ok (.aload_n 0, 1) := by decide +kernel
theorem dX9_readsHung_7 : decode cX9_readsHung 7 = .ok (.getfield 237, 3) := by decide +kernel
theorem dX9_readsHung_10 : decode cX9_readsHung 10 = .ok (.iadd, 1) := by decide +kernel
theorem dX9_readsHung_11 : decode cX9_readsHung 11 = .ok (.aload_n 0, 1) := by decide +kernel
theorem dX9_readsHung_12 : decode cX9_readsHung 12 = .ok (.iconst 1, 1) := by decide +kernel
theorem dX9_readsHung_13 : decode cX9_readsHung 13 = .ok (.bipush 9, 2) := by decide +kernel
theorem dX9_readsHung_15 : decode cX9_readsHung 15 = .ok (.invokevirtual 230, 3) := by decide +kernel
theorem dX9_readsHung_18 : decode cX9_readsHung 18 = .ok (.iastore, 1) := by decide +kernel
theorem dX9_readsHung_19 : decode cX9_readsHung 19 = .ok (.aload_n 0, 1) := by decide +kernel
theorem dX9_readsHung_20 : decode cX9_readsHung 20 = .ok (.getfield 44, 3) := by decide +kernel
theorem dX9_readsHung_23 : decode cX9_readsHung 23 = .ok (.bipush 22, 2) := by decide +kernel
theorem dX9_readsHung_25 : decode cX9_readsHung 25 = .ok (.aload_n 0, 1) := by decide +kernel
theorem dX9_readsHung_26 : decode cX9_readsHung 26 = .ok (.getfield 237, 3) := by decide +kernel
theorem dX9_readsHung_29 : decode cX9_readsHung 29 = .ok (.iadd, 1) := by decide +kernel
theorem dX9_readsHung_30 : decode cX9_readsHung 30 = .ok (.aload_n 0, 1) := by decide +kernel
theorem dX9_readsHung_31 : decode cX9_readsHung 31 = .ok (.iconst 0, 1) := by decide +kernel
theorem dX9_readsHung_32 : decode cX9_readsHung 32 = .ok (.bipush 9, 2) := by decide +kernel
theorem dX9_readsHung_34 : decode cX9_readsHung 34 = .ok (.invokevirtual 230, 3) := by decide +kernel
theorem dX9_readsHung_37 : decode cX9_readsHung 37 = .ok (.iastore, 1) := by decide +kernel
theorem dX9_readsHung_38 : decode cX9_readsHung 38 = .ok (.aload_n 0, 1) := by decide +kernel
theorem dX9_readsHung_39 : decode cX9_readsHung 39 = .ok (.dup, 1) := by decide +kernel
theorem dX9_readsHung_40 : decode cX9_readsHung 40 = .ok (.getfield 237, 3) := by decide +kernel
theorem dX9_readsHung_43 : decode cX9_readsHung 43 = .ok (.iconst 1, 1) := by decide +kernel
theorem dX9_readsHung_44 : decode cX9_readsHung 44 = .ok (.iadd, 1) := by decide +kernel
theorem dX9_readsHung_45 : decode cX9_readsHung 45 = .ok (.putfield 237, 3) := by decide +kernel
theorem dX9_readsHung_48 : decode cX9_readsHung 48 = .ok (.return_, 1) := by decide +kernel
theorem dX9_readsPlan_0 : decode cX9_readsPlan 0 = .ok (.aload_n 0, 1) := by decide +kernel
theorem dX9_readsPlan_1 : decode cX9_readsPlan 1 = .ok (.getfield 47, 3) := by decide +kernel
theorem dX9_readsPlan_4 : decode cX9_readsPlan 4 = .ok (.aload_n 0, 1) := by decide +kernel
theorem dX9_readsPlan_5 : decode cX9_readsPlan 5 = .ok (.getfield 240, 3) := by decide +kernel
theorem dX9_readsPlan_8 : decode cX9_readsPlan 8 = .ok (.aload_n 0, 1) := by decide +kernel
theorem dX9_readsPlan_9 : decode cX9_readsPlan 9 = .ok (.iconst 1, 1) := by decide +kernel
theorem dX9_readsPlan_10 : decode cX9_readsPlan 10 = .ok (.bipush 9, 2) := by decide +kernel
theorem dX9_readsPlan_12 : decode cX9_readsPlan 12 = .ok (.invokevirtual 230, 3) := by decide +kernel
theorem dX9_readsPlan_15 : decode cX9_readsPlan 15 = .ok (.iastore, 1) := by decide +kernel
theorem dX9_readsPlan_16 : decode cX9_readsPlan 16 = .ok (.aload_n 0, 1) := by decide +kernel
theorem dX9_readsPlan_17 : decode cX9_readsPlan 17 = .ok (.getfield 50, 3) := by decide +kernel
theorem dX9_readsPlan_20 : decode cX9_readsPlan 20 = .ok (.aload_n 0, 1) := by decide +kernel
theorem dX9_readsPlan_21 : decode cX9_readsPlan 21 = .ok (.getfield 240, 3) := by decide +kernel
theorem dX9_readsPlan_24 : decode cX9_readsPlan 24 = .ok (.aload_n 0, 1) := by decide +kernel
theorem dX9_readsPlan_25 : decode cX9_readsPlan 25 = .ok (.iconst 0, 1) := by decide +kernel
theorem dX9_readsPlan_26 : decode cX9_readsPlan 26 = .ok (.bipush 9, 2) := by decide +kernel
theorem dX9_readsPlan_28 : decode cX9_readsPlan 28 = .ok (.invokevirtual 230, 3) := by decide +kernel
theorem dX9_readsPlan_31 : decode cX9_readsPlan 31 = .ok (.iastore, 1) := by decide +kernel
theorem dX9_readsPlan_32 : decode cX9_readsPlan 32 = .ok (.aload_n 0, 1) := by decide +kernel
theorem dX9_readsPlan_33 : decode cX9_readsPlan 33 = .ok (.dup, 1) := by decide +kernel
theorem dX9_readsPlan_34 : decode cX9_readsPlan 34 = .ok (.getfield 240, 3) := by decide +kernel
theorem dX9_readsPlan_37 : decode cX9_readsPlan 37 = .ok (.iconst 1, 1) := by decide +kernel
theorem dX9_readsPlan_38 : decode cX9_readsPlan 38 = .ok (.iadd, 1) := by decide +kernel
theorem dX9_readsPlan_39 : decode cX9_readsPlan 39 = .ok (.putfield 240, 3) := by decide +kernel
theorem dX9_readsPlan_42 : decode cX9_readsPlan 42 = .ok (.return_, 1) := by decide +kernel
theorem dX9_readsWard_0 : decode cX9_readsWard 0 = .ok (.aload_n 0, 1) := by decide +kernel
theorem dX9_readsWard_1 : decode cX9_readsWard 1 = .ok (.getfield 44, 3) := by decide +kernel
theorem dX9_readsWard_4 : decode cX9_readsWard 4 = .ok (.bipush 38, 2) := by decide +kernel
theorem dX9_readsWard_6 : decode cX9_readsWard 6 = .ok (.aload_n 0, 1) := by decide +kernel
theorem dX9_readsWard_7 : decode cX9_readsWard 7 = .ok (.getfield 171, 3) := by decide +kernel
theorem dX9_readsWard_10 : decode cX9_readsWard 10 = .ok (.iadd, 1) := by decide +kernel
theorem dX9_readsWard_11 : decode cX9_readsWard 11 = .ok (.aload_n 0, 1) := by decide +kernel
theorem dX9_readsWard_12 : decode cX9_readsWard 12 = .ok (.iconst 0, 1) := by decide +kernel
theorem dX9_readsWard_13 : decode cX9_readsWard 13 = .ok (.bipush 99, 2) := by decide +kernel
theorem dX9_readsWard_15 : decode cX9_readsWard 15 = .ok (.invokevirtual 230, 3) := by decide +kernel
theorem dX9_readsWard_18 : decode cX9_readsWard 18 = .ok (.iastore, 1) := by decide +kernel
theorem dX9_readsWard_19 : decode cX9_readsWard 19 = .ok (.aload_n 0, 1) := by decide +kernel
theorem dX9_readsWard_20 : decode cX9_readsWard 20 = .ok (.invokevirtual 161, 3) := by decide +kernel
theorem dX9_readsWard_23 : decode cX9_readsWard 23 = .ok (.ifCond .eq 13, 3) := by decide +kernel
theorem dX9_readsWard_26 : decode cX9_readsWard 26 = .ok (.aload_n 0, 1) := by decide +kernel
theorem dX9_readsWard_27 : decode cX9_readsWard 27 = .ok (.dup, 1) := by decide +kernel
theorem dX9_readsWard_28 : decode cX9_readsWard 28 = .ok (.getfield 171, 3) := by decide +kernel
theorem dX9_readsWard_31 : decode cX9_readsWard 31 = .ok (.iconst 1, 1) := by decide +kernel
theorem dX9_readsWard_32 : decode cX9_readsWard 32 = .ok (.iadd, 1) := by decide +kernel
theorem dX9_readsWard_33 : decode cX9_readsWard 33 = .ok (.putfield 171, 3) := by decide +kernel
theorem dX9_readsWard_36 : decode cX9_readsWard 36 = .ok (.return_, 1) := by decide +kernel
theorem dX9_line_0 : decode cX9_line 0 = .ok (.aload_n 0, 1) := by decide +kernel
theorem dX9_line_1 : decode cX9_line 1 = .ok (.invokevirtual 189, 3) := by decide +kernel
theorem dX9_line_4 : decode cX9_line 4 = .ok (.istore_n 1, 1) := by decide +kernel
theorem dX9_line_5 : decode cX9_line 5 = .ok (.aload_n 0, 1) := by decide +kernel
theorem dX9_line_6 : decode cX9_line 6 = .ok (.getfield 237, 3) := by decide +kernel
theorem dX9_line_9 : decode cX9_line 9 = .ok (.aload_n 0, 1) := by decide +kernel
theorem dX9_line_10 : decode cX9_line 10 = .ok (.getfield 240, 3) := by decide +kernel
theorem dX9_line_13 : decode cX9_line 13 = .ok (.iadd, 1) := by decide +kernel
theorem dX9_line_14 : decode cX9_line 14 = .ok (.bipush 16, 2) := by decide +kernel
theorem dX9_line_16 : decode cX9_line 16 = .ok (.if_icmp .ne 7, 3) := by decide +kernel
theorem dX9_line_19 : decode cX9_line 19 = .ok (.iconst 1, 1) := by decide +kernel
theorem dX9_line_20 : decode cX9_line 20 = .ok (.goto 4, 3) := by decide +kernel
theorem dX9_line_23 : decode cX9_line 23 = .ok (.iconst 0, 1) := by decide +kernel
theorem dX9_line_24 : decode cX9_line 24 = .ok (.istore_n 2, 1) := by decide +kernel
theorem dX9_line_25 : decode cX9_line 25 = .ok (.iload_n 1, 1) := by decide +kernel
theorem dX9_line_26 : decode cX9_line 26 = .ok (.bipush 9, 2) := by decide +kernel
theorem dX9_line_28 : decode cX9_line 28 = .ok (.if_icmp .ne 19, 3) := by decide +kernel
theorem dX9_line_31 : decode cX9_line 31 = .ok (.aload_n 0, 1) := by decide +kernel
theorem dX9_line_32 : decode cX9_line 32 = .ok (.iload_n 2, 1) := by decide +kernel
theorem dX9_line_33 : decode cX9_line 33 = .ok (.iconst 0, 1) := by decide +kernel
theorem dX9_line_34 : decode cX9_line 34 = .ok (.invokevirtual 243, 3) := by decide +kernel
theorem dX9_line_37 : decode cX9_line 37 = .ok (.ifCond .eq 341, 3) := by decide +kernel
theorem dX9_line_40 : decode cX9_line 40 = .ok (.aload_n 0, 1) := by decide +kernel
theorem dX9_line_41 : decode cX9_line 41 = .ok (.invokevirtual 247, 3) := by decide +kernel
theorem dX9_line_44 : decode cX9_line 44 = .ok (.goto 334, 3) := by decide +kernel
theorem dX9_line_47 : decode cX9_line 47 = .ok (.iload_n 1, 1) := by decide +kernel
theorem dX9_line_48 : decode cX9_line 48 = .ok (.bipush 10, 2) := by decide +kernel
theorem dX9_line_50 : decode cX9_line 50 = .ok (.if_icmp .ne 19, 3) := by decide +kernel
theorem dX9_line_53 : decode cX9_line 53 = .ok (.aload_n 0, 1) := by decide +kernel
theorem dX9_line_54 : decode cX9_line 54 = .ok (.iload_n 2, 1) := by decide +kernel
theorem dX9_line_55 : decode cX9_line 55 = .ok (.iconst 0, 1) := by decide +kernel
theorem dX9_line_56 : decode cX9_line 56 = .ok (.invokevirtual 243, 3) := by decide +kernel
theorem dX9_line_59 : decode cX9_line 59 = .ok (.ifCond .eq 319, 3) := by decide +kernel
theorem dX9_line_62 : decode cX9_line 62 = .ok (.aload_n 0, 1) := by decide +kernel
theorem dX9_line_63 : decode cX9_line 63 = .ok (.invokevirtual 250, 3) := by decide +kernel
theorem dX9_line_66 : decode cX9_line 66 = .ok (.goto 312, 3) := by decide +kernel
theorem dX9_line_69 : decode cX9_line 69 = .ok (.iload_n 1, 1) := by decide +kernel
theorem dX9_line_70 : decode cX9_line 70 = .ok (.bipush 11, 2) := by decide +kernel
theorem dX9_line_72 : decode cX9_line 72 = .ok (.if_icmp .ne 38, 3) := by decide +kernel
theorem dX9_line_75 : decode cX9_line 75 = .ok (.aload_n 0, 1) := by decide +kernel
theorem dX9_line_76 : decode cX9_line 76 = .ok (.iconst 0, 1) := by decide +kernel
theorem dX9_line_77 : decode cX9_line 77 = .ok (.aload_n 0, 1) := by decide +kernel
theorem dX9_line_78 : decode cX9_line 78 = .ok (.getfield 253, 3) := by decide +kernel
theorem dX9_line_81 : decode cX9_line 81 = .ok (.iconst (-1), 1) := by decide +kernel
theorem dX9_line_82 : decode cX9_line 82 = .ok (.if_icmp .eq 7, 3) := by decide +kernel
theorem dX9_line_85 : decode cX9_line 85 = .ok (.iconst 1, 1) := by decide +kernel
theorem dX9_line_86 : decode cX9_line 86 = .ok (.goto 4, 3) := by decide +kernel
theorem dX9_line_89 : decode cX9_line 89 = .ok (.iconst 0, 1) := by decide +kernel
theorem dX9_line_90 : decode cX9_line 90 = .ok (.invokevirtual 243, 3) := by decide +kernel
theorem dX9_line_93 : decode cX9_line 93 = .ok (.ifCond .eq 285, 3) := by decide +kernel
theorem dX9_line_96 : decode cX9_line 96 = .ok (.aload_n 0, 1) := by decide +kernel
theorem dX9_line_97 : decode cX9_line 97 = .ok (.aload_n 0, 1) := by decide +kernel
theorem dX9_line_98 : decode cX9_line 98 = .ok (.iconst 2, 1) := by decide +kernel
theorem dX9_line_99 : decode cX9_line 99 = .ok (.bipush 16, 2) := by decide +kernel
theorem dX9_line_101 : decode cX9_line 101 = .ok (.invokevirtual 230, 3) := by decide +kernel
theorem dX9_line_104 : decode cX9_line 104 = .ok (.putfield 253, 3) := by decide +kernel
theorem dX9_line_107 : decode cX9_line 107 = .ok (.goto 271, 3) := by decide +kernel
theorem dX9_line_110 : decode cX9_line 110 = .ok (.iload_n 1, 1) := by decide +kernel
theorem dX9_line_111 : decode cX9_line 111 = .ok (.bipush 12, 2) := by decide +kernel
theorem dX9_line_113 : decode cX9_line 113 = .ok (.if_icmp .ne 38, 3) := by decide +kernel
theorem dX9_line_116 : decode cX9_line 116 = .ok (.aload_n 0, 1) := by decide +kernel
theorem dX9_line_117 : decode cX9_line 117 = .ok (.iconst 0, 1) := by decide +kernel
theorem dX9_line_118 : decode cX9_line 118 = .ok (.aload_n 0, 1) := by decide +kernel
theorem dX9_line_119 : decode cX9_line 119 = .ok (.getfield 256, 3) := by decide +kernel
theorem dX9_line_122 : decode cX9_line 122 = .ok (.iconst (-1), 1) := by decide +kernel
theorem dX9_line_123 : decode cX9_line 123 = .ok (.if_icmp .eq 7, 3) := by decide +kernel
theorem dX9_line_126 : decode cX9_line 126 = .ok (.iconst 1, 1) := by decide +kernel
theorem dX9_line_127 : decode cX9_line 127 = .ok (.goto 4, 3) := by decide +kernel
theorem dX9_line_130 : decode cX9_line 130 = .ok (.iconst 0, 1) := by decide +kernel
theorem dX9_line_131 : decode cX9_line 131 = .ok (.invokevirtual 243, 3) := by decide +kernel
theorem dX9_line_134 : decode cX9_line 134 = .ok (.ifCond .eq 244, 3) := by decide +kernel
theorem dX9_line_137 : decode cX9_line 137 = .ok (.aload_n 0, 1) := by decide +kernel
theorem dX9_line_138 : decode cX9_line 138 = .ok (.aload_n 0, 1) := by decide +kernel
theorem dX9_line_139 : decode cX9_line 139 = .ok (.iconst 1, 1) := by decide +kernel
theorem dX9_line_140 : decode cX9_line 140 = .ok (.bipush 99, 2) := by decide +kernel
theorem dX9_line_142 : decode cX9_line 142 = .ok (.invokevirtual 230, 3) := by decide +kernel
theorem dX9_line_145 : decode cX9_line 145 = .ok (.putfield 256, 3) := by decide +kernel
theorem dX9_line_148 : decode cX9_line 148 = .ok (.goto 230, 3) := by decide +kernel
theorem dX9_line_151 : decode cX9_line 151 = .ok (.iload_n 1, 1) := by decide +kernel
theorem dX9_line_152 : decode cX9_line 152 = .ok (.bipush 13, 2) := by decide +kernel
theorem dX9_line_154 : decode cX9_line 154 = .ok (.if_icmp .ne 32, 3) := by decide +kernel
theorem dX9_line_157 : decode cX9_line 157 = .ok (.aload_n 0, 1) := by decide +kernel
theorem dX9_line_158 : decode cX9_line 158 = .ok (.aload_n 0, 1) := by decide +kernel
theorem dX9_line_159 : decode cX9_line 159 = .ok (.getfield 171, 3) := by decide +kernel
theorem dX9_line_162 : decode cX9_line 162 = .ok (.bipush 8, 2) := by decide +kernel
theorem dX9_line_164 : decode cX9_line 164 = .ok (.if_icmp .ne 7, 3) := by decide +kernel
theorem dX9_line_167 : decode cX9_line 167 = .ok (.iconst 1, 1) := by decide +kernel
theorem dX9_line_168 : decode cX9_line 168 = .ok (.goto 4, 3) := by decide +kernel
theorem dX9_line_171 : decode cX9_line 171 = .ok (.iconst 0, 1) := by decide +kernel
theorem dX9_line_172 : decode cX9_line 172 = .ok (.iconst 0, 1) := by decide +kernel
theorem dX9_line_173 : decode cX9_line 173 = .ok (.invokevirtual 243, 3) := by decide +kernel
theorem dX9_line_176 : decode cX9_line 176 = .ok (.ifCond .eq 202, 3) := by decide +kernel
theorem dX9_line_179 : decode cX9_line 179 = .ok (.aload_n 0, 1) := by decide +kernel
theorem dX9_line_180 : decode cX9_line 180 = .ok (.invokevirtual 259, 3) := by decide +kernel
theorem dX9_line_183 : decode cX9_line 183 = .ok (.goto 195, 3) := by decide +kernel
theorem dX9_line_186 : decode cX9_line 186 = .ok (.iload_n 1, 1) := by decide +kernel
theorem dX9_line_187 : decode cX9_line 187 = .ok (.bipush 14, 2) := by decide +kernel
theorem dX9_line_189 : decode cX9_line 189 = .ok (.if_icmp .ne 19, 3) := by decide +kernel
theorem dX9_line_192 : decode cX9_line 192 = .ok (.aload_n 0, 1) := by decide +kernel
theorem dX9_line_193 : decode cX9_line 193 = .ok (.iconst 0, 1) := by decide +kernel
theorem dX9_line_194 : decode cX9_line 194 = .ok (.iconst 0, 1) := by decide +kernel
theorem dX9_line_195 : decode cX9_line 195 = .ok (.invokevirtual 243, 3) := by decide +kernel
theorem dX9_line_198 : decode cX9_line 198 = .ok (.ifCond .eq 180, 3) := by decide +kernel
theorem dX9_line_201 : decode cX9_line 201 = .ok (.aload_n 0, 1) := by decide +kernel
theorem dX9_line_202 : decode cX9_line 202 = .ok (.invokevirtual 262, 3) := by decide +kernel
theorem dX9_line_205 : decode cX9_line 205 = .ok (.goto 173, 3) := by decide +kernel
theorem dX9_line_208 : decode cX9_line 208 = .ok (.iload_n 1, 1) := by decide +kernel
theorem dX9_line_209 : decode cX9_line 209 = .ok (.ifCond .ne 30, 3) := by decide +kernel
theorem dX9_line_212 : decode cX9_line 212 = .ok (.aload_n 0, 1) := by decide +kernel
theorem dX9_line_213 : decode cX9_line 213 = .ok (.iconst 0, 1) := by decide +kernel
theorem dX9_line_214 : decode cX9_line 214 = .ok (.aload_n 0, 1) := by decide +kernel
theorem dX9_line_215 : decode cX9_line 215 = .ok (.getfield 227, 3) := by decide +kernel
theorem dX9_line_218 : decode cX9_line 218 = .ok (.ifCond .le 7, 3) := by decide +kernel
theorem dX9_line_221 : decode cX9_line 221 = .ok (.iconst 1, 1) := by decide +kernel
theorem dX9_line_222 : decode cX9_line 222 = .ok (.goto 4, 3) := by decide +kernel
theorem dX9_line_225 : decode cX9_line 225 = .ok (.iconst 0, 1) := by decide +kernel
theorem dX9_line_226 : decode cX9_line 226 = .ok (.invokevirtual 243, 3) := by decide +kernel
theorem dX9_line_229 : decode cX9_line 229 = .ok (.ifCond .eq 149, 3) := by decide +kernel
theorem dX9_line_232 : decode cX9_line 232 = .ok (.aload_n 0, 1) := by decide +kernel
theorem dX9_line_233 : decode cX9_line 233 = .ok (.invokevirtual 265, 3) := by decide +kernel
theorem dX9_line_236 : decode cX9_line 236 = .ok (.goto 142, 3) := by decide +kernel
theorem dX9_line_239 : decode cX9_line 239 = .ok (.iload_n 1, 1) := by decide +kernel
theorem dX9_line_240 : decode cX9_line 240 = .ok (.bipush 15, 2) := by decide +kernel
theorem dX9_line_242 : decode cX9_line 242 = .ok (.if_icmp .ne 41, 3) := by decide +kernel
theorem dX9_line_245 : decode cX9_line 245 = .ok (.aload_n 0, 1) := by decide +kernel
theorem dX9_line_246 : decode cX9_line 246 = .ok (.iconst 0, 1) := by decide +kernel
theorem dX9_line_247 : decode cX9_line 247 = .ok (.aload_n 0, 1) := by decide +kernel
theorem dX9_line_248 : decode cX9_line 248 = .ok (.getfield 268, 3) := by decide +kernel
theorem dX9_line_251 : decode cX9_line 251 = .ok (.iconst (-1), 1) := by decide +kernel
theorem dX9_line_252 : decode cX9_line 252 = .ok (.if_icmp .eq 7, 3) := by decide +kernel
theorem dX9_line_255 : decode cX9_line 255 = .ok (.iconst 1, 1) := by decide +kernel
theorem dX9_line_256 : decode cX9_line 256 = .ok (.goto 4, 3) := by decide +kernel
theorem dX9_line_259 : decode cX9_line 259 = .ok (.iconst 0, 1) := by decide +kernel
theorem dX9_line_260 : decode cX9_line 260 = .ok (.invokevirtual 243, 3) := by decide +kernel
theorem dX9_line_263 : decode cX9_line 263 = .ok (.ifCond .eq 115, 3) := by decide +kernel
theorem dX9_line_266 : decode cX9_line 266 = .ok (.aload_n 0, 1) := by decide +kernel
theorem dX9_line_267 : decode cX9_line 267 = .ok (.aload_n 0, 1) := by decide +kernel
theorem dX9_line_268 : decode cX9_line 268 = .ok (.getfield 174, 3) := by decide +kernel
theorem dX9_line_271 : decode cX9_line 271 = .ok (.putfield 268, 3) := by decide +kernel
theorem dX9_line_274 : decode cX9_line 274 = .ok (.aload_n 0, 1) := by decide +kernel
theorem dX9_line_275 : decode cX9_line 275 = .ok (.iconst 0, 1) := by decide +kernel
theorem dX9_line_276 : decode cX9_line 276 = .ok (.iconst 5, 1) := by decide +kernel
theorem dX9_line_277 : decode cX9_line 277 = .ok (.invokevirtual 271, 3) := by decide +kernel
theorem dX9_line_280 : decode cX9_line 280 = .ok (.goto 98, 3) := by decide +kernel
theorem dX9_line_283 : decode cX9_line 283 = .ok (.iload_n 1, 1) := by decide +kernel
theorem dX9_line_284 : decode cX9_line 284 = .ok (.bipush 16, 2) := by decide +kernel
theorem dX9_line_286 : decode cX9_line 286 = .ok (.if_icmp .ne 42, 3) := by decide +kernel
theorem dX9_line_289 : decode cX9_line 289 = .ok (.aload_n 0, 1) := by decide +kernel
theorem dX9_line_290 : decode cX9_line 290 = .ok (.iconst 0, 1) := by decide +kernel
theorem dX9_line_291 : decode cX9_line 291 = .ok (.aload_n 0, 1) := by decide +kernel
theorem dX9_line_292 : decode cX9_line 292 = .ok (.getfield 275, 3) := by decide +kernel
theorem dX9_line_295 : decode cX9_line 295 = .ok (.iconst (-1), 1) := by decide +kernel
theorem dX9_line_296 : decode cX9_line 296 = .ok (.if_icmp .eq 7, 3) := by decide +kernel
theorem dX9_line_299 : decode cX9_line 299 = .ok (.iconst 1, 1) := by decide +kernel
theorem dX9_line_300 : decode cX9_line 300 = .ok (.goto 4, 3) := by decide +kernel
theorem dX9_line_303 : decode cX9_line 303 = .ok (.iconst 0, 1) := by decide +kernel
theorem dX9_line_304 : decode cX9_line 304 = .ok (.invokevirtual 243, 3) := by decide +kernel
theorem dX9_line_307 : decode cX9_line 307 = .ok (.ifCond .eq 71, 3) := by decide +kernel
theorem dX9_line_310 : decode cX9_line 310 = .ok (.aload_n 0, 1) := by decide +kernel
theorem dX9_line_311 : decode cX9_line 311 = .ok (.aload_n 0, 1) := by decide +kernel
theorem dX9_line_312 : decode cX9_line 312 = .ok (.getfield 174, 3) := by decide +kernel
theorem dX9_line_315 : decode cX9_line 315 = .ok (.putfield 275, 3) := by decide +kernel
theorem dX9_line_318 : decode cX9_line 318 = .ok (.aload_n 0, 1) := by decide +kernel
theorem dX9_line_319 : decode cX9_line 319 = .ok (.iconst 3, 1) := by decide +kernel
theorem dX9_line_320 : decode cX9_line 320 = .ok (.bipush 8, 2) := by decide +kernel
theorem dX9_line_322 : decode cX9_line 322 = .ok (.invokevirtual 271, 3) := by decide +kernel
theorem dX9_line_325 : decode cX9_line 325 = .ok (.goto 53, 3) := by decide +kernel
theorem dX9_line_328 : decode cX9_line 328 = .ok (.iload_n 1, 1) := by decide +kernel
theorem dX9_line_329 : decode cX9_line 329 = .ok (.bipush 17, 2) := by decide +kernel
theorem dX9_line_331 : decode cX9_line 331 = .ok (.if_icmp .ne 42, 3) := by decide +kernel
theorem dX9_line_334 : decode cX9_line 334 = .ok (.aload_n 0, 1) := by decide +kernel
theorem dX9_line_335 : decode cX9_line 335 = .ok (.iconst 0, 1) := by decide +kernel
theorem dX9_line_336 : decode cX9_line 336 = .ok (.aload_n 0, 1) := by decide +kernel
theorem dX9_line_337 : decode cX9_line 337 = .ok (.getfield 278, 3) := by decide +kernel
theorem dX9_line_340 : decode cX9_line 340 = .ok (.iconst (-1), 1) := by decide +kernel
theorem dX9_line_341 : decode cX9_line 341 = .ok (.if_icmp .eq 7, 3) := by decide +kernel
theorem dX9_line_344 : decode cX9_line 344 = .ok (.iconst 1, 1) := by decide +kernel
theorem dX9_line_345 : decode cX9_line 345 = .ok (.goto 4, 3) := by decide +kernel
theorem dX9_line_348 : decode cX9_line 348 = .ok (.iconst 0, 1) := by decide +kernel
theorem dX9_line_349 : decode cX9_line 349 = .ok (.invokevirtual 243, 3) := by decide +kernel
theorem dX9_line_352 : decode cX9_line 352 = .ok (.ifCond .eq 26, 3) := by decide +kernel
theorem dX9_line_355 : decode cX9_line 355 = .ok (.aload_n 0, 1) := by decide +kernel
theorem dX9_line_356 : decode cX9_line 356 = .ok (.aload_n 0, 1) := by decide +kernel
theorem dX9_line_357 : decode cX9_line 357 = .ok (.getfield 174, 3) := by decide +kernel
theorem dX9_line_360 : decode cX9_line 360 = .ok (.putfield 278, 3) := by decide +kernel
theorem dX9_line_363 : decode cX9_line 363 = .ok (.aload_n 0, 1) := by decide +kernel
theorem dX9_line_364 : decode cX9_line 364 = .ok (.iconst 3, 1) := by decide +kernel
theorem dX9_line_365 : decode cX9_line 365 = .ok (.bipush 8, 2) := by decide +kernel
theorem dX9_line_367 : decode cX9_line 367 = .ok (.invokevirtual 271, 3) := by decide +kernel
theorem dX9_line_370 : decode cX9_line 370 = .ok (.goto 8, 3) := by decide +kernel
theorem dX9_line_373 : decode cX9_line 373 = .ok (.aload_n 0, 1) := by decide +kernel
theorem dX9_line_374 : decode cX9_line 374 = .ok (.iconst 1, 1) := by decide +kernel
theorem dX9_line_375 : decode cX9_line 375 = .ok (.invokevirtual 168, 3) := by decide +kernel
theorem dX9_line_378 : decode cX9_line 378 = .ok (.aload_n 0, 1) := by decide +kernel
theorem dX9_line_379 : decode cX9_line 379 = .ok (.aload_n 0, 1) := by decide +kernel
theorem dX9_line_380 : decode cX9_line 380 = .ok (.bipush 59, 2) := by decide +kernel
theorem dX9_line_382 : decode cX9_line 382 = .ok (.invokevirtual 202, 3) := by decide +kernel
theorem dX9_line_385 : decode cX9_line 385 = .ok (.invokevirtual 281, 3) := by decide +kernel
theorem dX9_line_388 : decode cX9_line 388 = .ok (.return_, 1) := by decide +kernel
theorem dX9_town_0 : decode cX9_town 0 = .ok (.aload_n 0, 1) := by decide +kernel
theorem dX9_town_1 : decode cX9_town 1 = .ok (.iconst 0, 1) := by decide +kernel
theorem dX9_town_2 : decode cX9_town 2 = .ok (.putfield 102, 3) := by decide +kernel
theorem dX9_town_5 : decode cX9_town 5 = .ok (.aload_n 0, 1) := by decide +kernel
theorem dX9_town_6 : decode cX9_town 6 = .ok (.iload_n 1, 1) := by decide +kernel
theorem dX9_town_7 : decode cX9_town 7 = .ok (.ifCond .lt 15, 3) := by decide +kernel
theorem dX9_town_10 : decode cX9_town 10 = .ok (.iload_n 1, 1) := by decide +kernel
theorem dX9_town_11 : decode cX9_town 11 = .ok (.aload_n 0, 1) := by decide +kernel
theorem dX9_town_12 : decode cX9_town 12 = .ok (.getfield 105, 3) := by decide +kernel
theorem dX9_town_15 : decode cX9_town 15 = .ok (.if_icmp .gt 7, 3) := by decide +kernel
theorem dX9_town_18 : decode cX9_town 18 = .ok (.iconst 1, 1) := by decide +kernel
theorem dX9_town_19 : decode cX9_town 19 = .ok (.goto 4, 3) := by decide +kernel
theorem dX9_town_22 : decode cX9_town 22 = .ok (.iconst 0, 1) := by decide +kernel
theorem dX9_town_23 : decode cX9_town 23 = .ok (.iconst 1, 1) := by decide +kernel
theorem dX9_town_24 : decode cX9_town 24 = .ok (.invokevirtual 284, 3) := by decide +kernel
theorem dX9_town_27 : decode cX9_town 27 = .ok (.ifCond .ne 5, 3) := by decide +kernel
theorem dX9_town_30 : decode cX9_town 30 = .ok (.iconst 0, 1) := by decide +kernel
theorem dX9_town_31 : decode cX9_town 31 = .ok (.ireturn, 1) := by decide +kernel
theorem dX9_town_32 : decode cX9_town 32 = .ok (.aload_n 0, 1) := by decide +kernel
theorem dX9_town_33 : decode cX9_town 33 = .ok (.iconst 0, 1) := by decide +kernel
theorem dX9_town_34 : decode cX9_town 34 = .ok (.putfield 105, 3) := by decide +kernel
theorem dX9_town_37 : decode cX9_town 37 = .ok (.aload_n 0, 1) := by decide +kernel
theorem dX9_town_38 : decode cX9_town 38 = .ok (.iconst (-1), 1) := by decide +kernel
theorem dX9_town_39 : decode cX9_town 39 = .ok (.putfield 35, 3) := by decide +kernel
theorem dX9_town_42 : decode cX9_town 42 = .ok (.aload_n 0, 1) := by decide +kernel
theorem dX9_town_43 : decode cX9_town 43 = .ok (.iconst 0, 1) := by decide +kernel
theorem dX9_town_44 : decode cX9_town 44 = .ok (.putfield 158, 3) := by decide +kernel
theorem dX9_town_47 : decode cX9_town 47 = .ok (.aload_n 0, 1) := by decide +kernel
theorem dX9_town_48 : decode cX9_town 48 = .ok (.iload_n 1, 1) := by decide +kernel
theorem dX9_town_49 : decode cX9_town 49 = .ok (.putfield 112, 3) := by decide +kernel
theorem dX9_town_52 : decode cX9_town 52 = .ok (.aload_n 0, 1) := by decide +kernel
theorem dX9_town_53 : decode cX9_town 53 = .ok (.iconst 0, 1) := by decide +kernel
theorem dX9_town_54 : decode cX9_town 54 = .ok (.putfield 115, 3) := by decide +kernel
theorem dX9_town_57 : decode cX9_town 57 = .ok (.aload_n 0, 1) := by decide +kernel
theorem dX9_town_58 : decode cX9_town 58 = .ok (.iconst 0, 1) := by decide +kernel
theorem dX9_town_59 : decode cX9_town 59 = .ok (.putfield 171, 3) := by decide +kernel
theorem dX9_town_62 : decode cX9_town 62 = .ok (.aload_n 0, 1) := by decide +kernel
theorem dX9_town_63 : decode cX9_town 63 = .ok (.iconst (-1), 1) := by decide +kernel
theorem dX9_town_64 : decode cX9_town 64 = .ok (.putfield 253, 3) := by decide +kernel
theorem dX9_town_67 : decode cX9_town 67 = .ok (.aload_n 0, 1) := by decide +kernel
theorem dX9_town_68 : decode cX9_town 68 = .ok (.iconst (-1), 1) := by decide +kernel
theorem dX9_town_69 : decode cX9_town 69 = .ok (.putfield 256, 3) := by decide +kernel
theorem dX9_town_72 : decode cX9_town 72 = .ok (.aload_n 0, 1) := by decide +kernel
theorem dX9_town_73 : decode cX9_town 73 = .ok (.iconst 0, 1) := by decide +kernel
theorem dX9_town_74 : decode cX9_town 74 = .ok (.putfield 227, 3) := by decide +kernel
theorem dX9_town_77 : decode cX9_town 77 = .ok (.aload_n 0, 1) := by decide +kernel
theorem dX9_town_78 : decode cX9_town 78 = .ok (.iconst 0, 1) := by decide +kernel
theorem dX9_town_79 : decode cX9_town 79 = .ok (.putfield 237, 3) := by decide +kernel
theorem dX9_town_82 : decode cX9_town 82 = .ok (.aload_n 0, 1) := by decide +kernel
theorem dX9_town_83 : decode cX9_town 83 = .ok (.iconst 0, 1) := by decide +kernel
theorem dX9_town_84 : decode cX9_town 84 = .ok (.putfield 240, 3) := by decide +kernel
theorem dX9_town_87 : decode cX9_town 87 = .ok (.aload_n 0, 1) := by decide +kernel
theorem dX9_town_88 : decode cX9_town 88 = .ok (.iconst (-1), 1) := by decide +kernel
theorem dX9_town_89 : decode cX9_town 89 = .ok (.putfield 268, 3) := by decide +kernel
theorem dX9_town_92 : decode cX9_town 92 = .ok (.aload_n 0, 1) := by decide +kernel
theorem dX9_town_93 : decode cX9_town 93 = .ok (.iconst (-1), 1) := by decide +kernel
theorem dX9_town_94 : decode cX9_town 94 = .ok (.putfield 275, 3) := by decide +kernel
theorem dX9_town_97 : decode cX9_town 97 = .ok (.aload_n 0, 1) := by decide +kernel
theorem dX9_town_98 : decode cX9_town 98 = .ok (.iconst (-1), 1) := by decide +kernel
theorem dX9_town_99 : decode cX9_town 99 = .ok (.putfield 278, 3) := by decide +kernel
theorem dX9_town_102 : decode cX9_town 102 = .ok (.iconst 0, 1) := by decide +kernel
theorem dX9_town_103 : decode cX9_town 103 = .ok (.istore_n 2, 1) := by decide +kernel
theorem dX9_town_104 : decode cX9_town 104 = .ok (.iload_n 2, 1) := by decide +kernel
theorem dX9_town_105 : decode cX9_town 105 = .ok (.bipush 54, 2) := by decide +kernel
theorem dX9_town_107 : decode cX9_town 107 = .ok (.if_icmp .ge 16, 3) := by decide +kernel
theorem dX9_town_110 : decode cX9_town 110 = .ok (.aload_n 0, 1) := by decide +kernel
theorem dX9_town_111 : decode cX9_town 111 = .ok (.getfield 44, 3) := by decide +kernel
theorem dX9_town_114 : decode cX9_town 114 = .ok (.iload_n 2, 1) := by decide +kernel
theorem dX9_town_115 : decode cX9_town 115 = .ok (.iconst 0, 1) := by decide +kernel
theorem dX9_town_116 : decode cX9_town 116 = .ok (.iastore, 1) := by decide +kernel
theorem dX9_town_117 : decode cX9_town 117 = .ok (.iinc 2 1, 3) := by decide +kernel
theorem dX9_town_120 : decode cX9_town 120 = .ok (.goto (-16), 3) := by decide +kernel
theorem dX9_town_123 : decode cX9_town 123 = .ok (.aload_n 0, 1) := by decide +kernel
theorem dX9_town_124 : decode cX9_town 124 = .ok (.iconst 0, 1) := by decide +kernel
theorem dX9_town_125 : decode cX9_town 125 = .ok (.putfield 174, 3) := by decide +kernel
theorem dX9_town_128 : decode cX9_town 128 = .ok (.aload_n 0, 1) := by decide +kernel
theorem dX9_town_129 : decode cX9_town 129 = .ok (.invokevirtual 165, 3) := by decide +kernel
theorem dX9_town_132 : decode cX9_town 132 = .ok (.aload_n 0, 1) := by decide +kernel
theorem dX9_town_133 : decode cX9_town 133 = .ok (.invokevirtual 161, 3) := by decide +kernel
theorem dX9_town_136 : decode cX9_town 136 = .ok (.ifCond .eq 17, 3) := by decide +kernel
theorem dX9_town_139 : decode cX9_town 139 = .ok (.aload_n 0, 1) := by decide +kernel
theorem dX9_town_140 : decode cX9_town 140 = .ok (.getfield 135, 3) := by decide +kernel
theorem dX9_town_143 : decode cX9_town 143 = .ok (.ifCond .eq 10, 3) := by decide +kernel
theorem dX9_town_146 : decode cX9_town 146 = .ok (.aload_n 0, 1) := by decide +kernel
theorem dX9_town_147 : decode cX9_town 147 = .ok (.invokevirtual 288, 3) := by decide +kernel
theorem dX9_town_150 : decode cX9_town 150 = .ok (.goto (-18), 3) := by decide +kernel
theorem dX9_town_153 : decode cX9_town 153 = .ok (.aload_n 0, 1) := by decide +kernel
theorem dX9_town_154 : decode cX9_town 154 = .ok (.invokevirtual 161, 3) := by decide +kernel
theorem dX9_town_157 : decode cX9_town 157 = .ok (.ifCond .ne 18, 3) := by decide +kernel
theorem dX9_town_160 : decode cX9_town 160 = .ok (.aload_n 0, 1) := by decide +kernel
theorem dX9_town_161 : decode cX9_town 161 = .ok (.getfield 38, 3) := by decide +kernel
theorem dX9_town_164 : decode cX9_town 164 = .ok (.iconst 0, 1) := by decide +kernel
theorem dX9_town_165 : decode cX9_town 165 = .ok (.dup2, 1) := by decide +kernel
theorem dX9_town_166 : decode cX9_town 166 = .ok (.iaload, 1) := by decide +kernel
theorem dX9_town_167 : decode cX9_town 167 = .ok (.iconst 1, 1) := by decide +kernel
theorem dX9_town_168 : decode cX9_town 168 = .ok (.iadd, 1) := by decide +kernel
theorem dX9_town_169 : decode cX9_town 169 = .ok (.iastore, 1) := by decide +kernel
theorem dX9_town_170 : decode cX9_town 170 = .ok (.aload_n 0, 1) := by decide +kernel
theorem dX9_town_171 : decode cX9_town 171 = .ok (.getfield 158, 3) := by decide +kernel
theorem dX9_town_174 : decode cX9_town 174 = .ok (.ireturn, 1) := by decide +kernel
theorem dX9_town_175 : decode cX9_town 175 = .ok (.aload_n 0, 1) := by decide +kernel
theorem dX9_town_176 : decode cX9_town 176 = .ok (.aload_n 0, 1) := by decide +kernel
theorem dX9_town_177 : decode cX9_town 177 = .ok (.getfield 171, 3) := by decide +kernel
theorem dX9_town_180 : decode cX9_town 180 = .ok (.putfield 291, 3) := by decide +kernel
theorem dX9_town_183 : decode cX9_town 183 = .ok (.aload_n 0, 1) := by decide +kernel
theorem dX9_town_184 : decode cX9_town 184 = .ok (.aload_n 0, 1) := by decide +kernel
theorem dX9_town_185 : decode cX9_town 185 = .ok (.getfield 253, 3) := by decide +kernel
theorem dX9_town_188 : decode cX9_town 188 = .ok (.iconst (-1), 1) := by decide +kernel
theorem dX9_town_189 : decode cX9_town 189 = .ok (.if_icmp .ne 8, 3) := by decide +kernel
theorem dX9_town_192 : decode cX9_town 192 = .ok (.bipush 9, 2) := by decide +kernel
theorem dX9_town_194 : decode cX9_town 194 = .ok (.goto 7, 3) := by decide +kernel
theorem dX9_town_197 : decode cX9_town 197 = .ok (.aload_n 0, 1) := by decide +kernel
theorem dX9_town_198 : decode cX9_town 198 = .ok (.getfield 253, 3) := by decide +kernel
theorem dX9_town_201 : decode cX9_town 201 = .ok (.putfield 7, 3) := by decide +kernel
theorem dX9_town_204 : decode cX9_town 204 = .ok (.aload_n 0, 1) := by decide +kernel
theorem dX9_town_205 : decode cX9_town 205 = .ok (.aload_n 0, 1) := by decide +kernel
theorem dX9_town_206 : decode cX9_town 206 = .ok (.getfield 256, 3) := by decide +kernel
theorem dX9_town_209 : decode cX9_town 209 = .ok (.iconst (-1), 1) := by decide +kernel
theorem dX9_town_210 : decode cX9_town 210 = .ok (.if_icmp .ne 8, 3) := by decide +kernel
theorem dX9_town_213 : decode cX9_town 213 = .ok (.bipush 10, 2) := by decide +kernel
theorem dX9_town_215 : decode cX9_town 215 = .ok (.goto 7, 3) := by decide +kernel
theorem dX9_town_218 : decode cX9_town 218 = .ok (.aload_n 0, 1) := by decide +kernel
theorem dX9_town_219 : decode cX9_town 219 = .ok (.getfield 256, 3) := by decide +kernel
theorem dX9_town_222 : decode cX9_town 222 = .ok (.putfield 13, 3) := by decide +kernel
theorem dX9_town_225 : decode cX9_town 225 = .ok (.aload_n 0, 1) := by decide +kernel
theorem dX9_town_226 : decode cX9_town 226 = .ok (.aload_n 0, 1) := by decide +kernel
theorem dX9_town_227 : decode cX9_town 227 = .ok (.getfield 227, 3) := by decide +kernel
theorem dX9_town_230 : decode cX9_town 230 = .ok (.putfield 294, 3) := by decide +kernel
theorem dX9_town_233 : decode cX9_town 233 = .ok (.aload_n 0, 1) := by decide +kernel
theorem dX9_town_234 : decode cX9_town 234 = .ok (.aload_n 0, 1) := by decide +kernel
theorem dX9_town_235 : decode cX9_town 235 = .ok (.getfield 268, 3) := by decide +kernel
theorem dX9_town_238 : decode cX9_town 238 = .ok (.putfield 16, 3) := by decide +kernel
theorem dX9_town_241 : decode cX9_town 241 = .ok (.aload_n 0, 1) := by decide +kernel
theorem dX9_town_242 : decode cX9_town 242 = .ok (.aload_n 0, 1) := by decide +kernel
theorem dX9_town_243 : decode cX9_town 243 = .ok (.getfield 275, 3) := by decide +kernel
theorem dX9_town_246 : decode cX9_town 246 = .ok (.putfield 19, 3) := by decide +kernel
theorem dX9_town_249 : decode cX9_town 249 = .ok (.aload_n 0, 1) := by decide +kernel
theorem dX9_town_250 : decode cX9_town 250 = .ok (.aload_n 0, 1) := by decide +kernel
theorem dX9_town_251 : decode cX9_town 251 = .ok (.getfield 278, 3) := by decide +kernel
theorem dX9_town_254 : decode cX9_town 254 = .ok (.putfield 22, 3) := by decide +kernel
theorem dX9_town_257 : decode cX9_town 257 = .ok (.aload_n 0, 1) := by decide +kernel
theorem dX9_town_258 : decode cX9_town 258 = .ok (.aload_n 0, 1) := by decide +kernel
theorem dX9_town_259 : decode cX9_town 259 = .ok (.getfield 41, 3) := by decide +kernel
theorem dX9_town_262 : decode cX9_town 262 = .ok (.aload_n 0, 1) := by decide +kernel
theorem dX9_town_263 : decode cX9_town 263 = .ok (.getfield 25, 3) := by decide +kernel
theorem dX9_town_266 : decode cX9_town 266 = .ok (.invokevirtual 297, 3) := by decide +kernel
theorem dX9_town_269 : decode cX9_town 269 = .ok (.aload_n 0, 1) := by decide +kernel
theorem dX9_town_270 : decode cX9_town 270 = .ok (.aload_n 0, 1) := by decide +kernel
theorem dX9_town_271 : decode cX9_town 271 = .ok (.getfield 53, 3) := by decide +kernel
theorem dX9_town_274 : decode cX9_town 274 = .ok (.aload_n 0, 1) := by decide +kernel
theorem dX9_town_275 : decode cX9_town 275 = .ok (.getfield 29, 3) := by decide +kernel
theorem dX9_town_278 : decode cX9_town 278 = .ok (.invokevirtual 297, 3) := by decide +kernel
theorem dX9_town_281 : decode cX9_town 281 = .ok (.iconst 0, 1) := by decide +kernel
theorem dX9_town_282 : decode cX9_town 282 = .ok (.istore_n 2, 1) := by decide +kernel
theorem dX9_town_283 : decode cX9_town 283 = .ok (.iload_n 2, 1) := by decide +kernel
theorem dX9_town_284 : decode cX9_town 284 = .ok (.bipush 54, 2) := by decide +kernel
theorem dX9_town_286 : decode cX9_town 286 = .ok (.if_icmp .ge 21, 3) := by decide +kernel
theorem dX9_town_289 : decode cX9_town 289 = .ok (.aload_n 0, 1) := by decide +kernel
theorem dX9_town_290 : decode cX9_town 290 = .ok (.getfield 63, 3) := by decide +kernel
theorem dX9_town_293 : decode cX9_town 293 = .ok (.iload_n 2, 1) := by decide +kernel
theorem dX9_town_294 : decode cX9_town 294 = .ok (.aload_n 0, 1) := by decide +kernel
theorem dX9_town_295 : decode cX9_town 295 = .ok (.getfield 44, 3) := by decide +kernel
theorem dX9_town_298 : decode cX9_town 298 = .ok (.iload_n 2, 1) := by decide +kernel
theorem dX9_town_299 : decode cX9_town 299 = .ok (.iaload, 1) := by decide +kernel
theorem dX9_town_300 : decode cX9_town 300 = .ok (.iastore, 1) := by decide +kernel
theorem dX9_town_301 : decode cX9_town 301 = .ok (.iinc 2 1, 3) := by decide +kernel
theorem dX9_town_304 : decode cX9_town 304 = .ok (.goto (-21), 3) := by decide +kernel
theorem dX9_town_307 : decode cX9_town 307 = .ok (.iconst 0, 1) := by decide +kernel
theorem dX9_town_308 : decode cX9_town 308 = .ok (.istore_n 2, 1) := by decide +kernel
theorem dX9_town_309 : decode cX9_town 309 = .ok (.iload_n 2, 1) := by decide +kernel
theorem dX9_town_310 : decode cX9_town 310 = .ok (.aload_n 0, 1) := by decide +kernel
theorem dX9_town_311 : decode cX9_town 311 = .ok (.getfield 240, 3) := by decide +kernel
theorem dX9_town_314 : decode cX9_town 314 = .ok (.if_icmp .ge 49, 3) := by decide +kernel
theorem dX9_town_317 : decode cX9_town 317 = .ok (.aload_n 0, 1) := by decide +kernel
theorem dX9_town_318 : decode cX9_town 318 = .ok (.getfield 63, 3) := by decide +kernel
theorem dX9_town_321 : decode cX9_town 321 = .ok (.bipush 6, 2) := by decide +kernel
theorem dX9_town_323 : decode cX9_town 323 = .ok (.aload_n 0, 1) := by decide +kernel
theorem dX9_town_324 : decode cX9_town 324 = .ok (.getfield 237, 3) := by decide +kernel
theorem dX9_town_327 : decode cX9_town 327 = .ok (.iadd, 1) := by decide +kernel
theorem dX9_town_328 : decode cX9_town 328 = .ok (.iload_n 2, 1) := by decide +kernel
theorem dX9_town_329 : decode cX9_town 329 = .ok (.iadd, 1) := by decide +kernel
theorem dX9_town_330 : decode cX9_town 330 = .ok (.aload_n 0, 1) := by decide +kernel
theorem dX9_town_331 : decode cX9_town 331 = .ok (.getfield 47, 3) := by decide +kernel
theorem dX9_town_334 : decode cX9_town 334 = .ok (.iload_n 2, 1) := by decide +kernel
theorem dX9_town_335 : decode cX9_town 335 = .ok (.iaload, 1) := by decide +kernel
theorem dX9_town_336 : decode cX9_town 336 = .ok (.iastore, 1) := by decide +kernel
theorem dX9_town_337 : decode cX9_town 337 = .ok (.aload_n 0, 1) := by decide +kernel
theorem dX9_town_338 : decode cX9_town 338 = .ok (.getfield 63, 3) := by decide +kernel
theorem dX9_town_341 : decode cX9_town 341 = .ok (.bipush 22, 2) := by decide +kernel
theorem dX9_town_343 : decode cX9_town 343 = .ok (.aload_n 0, 1) := by decide +kernel
theorem dX9_town_344 : decode cX9_town 344 = .ok (.getfield 237, 3) := by decide +kernel
theorem dX9_town_347 : decode cX9_town 347 = .ok (.iadd, 1) := by decide +kernel
theorem dX9_town_348 : decode cX9_town 348 = .ok (.iload_n 2, 1) := by decide +kernel
theorem dX9_town_349 : decode cX9_town 349 = .ok (.iadd, 1) := by decide +kernel
theorem dX9_town_350 : decode cX9_town 350 = .ok (.aload_n 0, 1) := by decide +kernel
theorem dX9_town_351 : decode cX9_town 351 = .ok (.getfield 50, 3) := by decide +kernel
theorem dX9_town_354 : decode cX9_town 354 = .ok (.iload_n 2, 1) := by decide +kernel
theorem dX9_town_355 : decode cX9_town 355 = .ok (.iaload, 1) := by decide +kernel
theorem dX9_town_356 : decode cX9_town 356 = .ok (.iastore, 1) := by decide +kernel
theorem dX9_town_357 : decode cX9_town 357 = .ok (.iinc 2 1, 3) := by decide +kernel
theorem dX9_town_360 : decode cX9_town 360 = .ok (.goto (-51), 3) := by decide +kernel
theorem dX9_town_363 : decode cX9_town 363 = .ok (.aload_n 0, 1) := by decide +kernel
theorem dX9_town_364 : decode cX9_town 364 = .ok (.getfield 63, 3) := by decide +kernel
theorem dX9_town_367 : decode cX9_town 367 = .ok (.iconst 3, 1) := by decide +kernel
theorem dX9_town_368 : decode cX9_town 368 = .ok (.aload_n 0, 1) := by decide +kernel
theorem dX9_town_369 : decode cX9_town 369 = .ok (.getfield 237, 3) := by decide +kernel
theorem dX9_town_372 : decode cX9_town 372 = .ok (.iastore, 1) := by decide +kernel
theorem dX9_town_373 : decode cX9_town 373 = .ok (.aload_n 0, 1) := by decide +kernel
theorem dX9_town_374 : decode cX9_town 374 = .ok (.getfield 63, 3) := by decide +kernel
theorem dX9_town_377 : decode cX9_town 377 = .ok (.iconst 4, 1) := by decide +kernel
theorem dX9_town_378 : decode cX9_town 378 = .ok (.aload_n 0, 1) := by decide +kernel
theorem dX9_town_379 : decode cX9_town 379 = .ok (.getfield 237, 3) := by decide +kernel
theorem dX9_town_382 : decode cX9_town 382 = .ok (.aload_n 0, 1) := by decide +kernel
theorem dX9_town_383 : decode cX9_town 383 = .ok (.getfield 240, 3) := by decide +kernel
theorem dX9_town_386 : decode cX9_town 386 = .ok (.iadd, 1) := by decide +kernel
theorem dX9_town_387 : decode cX9_town 387 = .ok (.iastore, 1) := by decide +kernel
theorem dX9_town_388 : decode cX9_town 388 = .ok (.aload_n 0, 1) := by decide +kernel
theorem dX9_town_389 : decode cX9_town 389 = .ok (.iconst 0, 1) := by decide +kernel
theorem dX9_town_390 : decode cX9_town 390 = .ok (.putfield 301, 3) := by decide +kernel
theorem dX9_town_393 : decode cX9_town 393 = .ok (.aload_n 0, 1) := by decide +kernel
theorem dX9_town_394 : decode cX9_town 394 = .ok (.iconst 0, 1) := by decide +kernel
theorem dX9_town_395 : decode cX9_town 395 = .ok (.putfield 304, 3) := by decide +kernel
theorem dX9_town_398 : decode cX9_town 398 = .ok (.aload_n 0, 1) := by decide +kernel
theorem dX9_town_399 : decode cX9_town 399 = .ok (.iconst 0, 1) := by decide +kernel
theorem dX9_town_400 : decode cX9_town 400 = .ok (.putfield 307, 3) := by decide +kernel
theorem dX9_town_403 : decode cX9_town 403 = .ok (.iconst 0, 1) := by decide +kernel
theorem dX9_town_404 : decode cX9_town 404 = .ok (.ireturn, 1) := by decide +kernel
theorem dX9_fault_0 : decode cX9_fault 0 = .ok (.aload_n 0, 1) := by decide +kernel
theorem dX9_fault_1 : decode cX9_fault 1 = .ok (.iconst 0, 1) := by decide +kernel
theorem dX9_fault_2 : decode cX9_fault 2 = .ok (.putfield 102, 3) := by decide +kernel
theorem dX9_fault_5 : decode cX9_fault 5 = .ok (.aload_n 0, 1) := by decide +kernel
theorem dX9_fault_6 : decode cX9_fault 6 = .ok (.getfield 35, 3) := by decide +kernel
theorem dX9_fault_9 : decode cX9_fault 9 = .ok (.ireturn, 1) := by decide +kernel
theorem dX9_keeps_0 : decode cX9_keeps 0 = .ok (.aload_n 0, 1) := by decide +kernel
theorem dX9_keeps_1 : decode cX9_keeps 1 = .ok (.getfield 301, 3) := by decide +kernel
theorem dX9_keeps_4 : decode cX9_keeps 4 = .ok (.bipush 40, 2) := by decide +kernel
theorem dX9_keeps_6 : decode cX9_keeps 6 = .ok (.if_icmp .ne 44, 3) := by decide +kernel
theorem dX9_keeps_9 : decode cX9_keeps 9 = .ok (.bipush 54, 2) := by decide +kernel
theorem dX9_keeps_11 : decode cX9_keeps 11 = .ok (.istore_n 1, 1) := by decide +kernel
theorem dX9_keeps_12 : decode cX9_keeps 12 = .ok (.iload_n 1, 1) := by decide +kernel
theorem dX9_keeps_13 : decode cX9_keeps 13 = .ok (.sipush 2160, 3) := by decide +kernel
theorem dX9_keeps_16 : decode cX9_keeps 16 = .ok (.if_icmp .ge 24, 3) := by decide +kernel
theorem dX9_keeps_19 : decode cX9_keeps 19 = .ok (.aload_n 0, 1) := by decide +kernel
theorem dX9_keeps_20 : decode cX9_keeps 20 = .ok (.getfield 66, 3) := by decide +kernel
theorem dX9_keeps_23 : decode cX9_keeps 23 = .ok (.iload_n 1, 1) := by decide +kernel
theorem dX9_keeps_24 : decode cX9_keeps 24 = .ok (.bipush 54, 2) := by decide +kernel
theorem dX9_keeps_26 : decode cX9_keeps 26 = .ok (.isub, 1) := by decide +kernel
theorem dX9_keeps_27 : decode cX9_keeps 27 = .ok (.aload_n 0, 1) := by decide +kernel
theorem dX9_keeps_28 : decode cX9_keeps 28 = .ok (.getfield 66, 3) := by decide +kernel
theorem dX9_keeps_31 : decode cX9_keeps 31 = .ok (.iload_n 1, 1) := by decide +kernel
theorem dX9_keeps_32 : decode cX9_keeps 32 = .ok (.iaload, 1) := by decide +kernel
theorem dX9_keeps_33 : decode cX9_keeps 33 = .ok (.iastore, 1) := by decide +kernel
theorem dX9_keeps_34 : decode cX9_keeps 34 = .ok (.iinc 1 1, 3) := by decide +kernel
theorem dX9_keeps_37 : decode cX9_keeps 37 = .ok (.goto (-25), 3) := by decide +kernel
theorem dX9_keeps_40 : decode cX9_keeps 40 = .ok (.aload_n 0, 1) := by decide +kernel
theorem dX9_keeps_41 : decode cX9_keeps 41 = .ok (.dup, 1) := by decide +kernel
theorem dX9_keeps_42 : decode cX9_keeps 42 = .ok (.getfield 301, 3) := by decide +kernel
theorem dX9_keeps_45 : decode cX9_keeps 45 = .ok (.iconst 1, 1) := by decide +kernel
theorem dX9_keeps_46 : decode cX9_keeps 46 = .ok (.isub, 1) := by decide +kernel
theorem dX9_keeps_47 : decode cX9_keeps 47 = .ok (.putfield 301, 3) := by decide +kernel
theorem dX9_keeps_50 : decode cX9_keeps 50 = .ok (.iconst 0, 1) := by decide +kernel
theorem dX9_keeps_51 : decode cX9_keeps 51 = .ok (.istore_n 1, 1) := by decide +kernel
theorem dX9_keeps_52 : decode cX9_keeps 52 = .ok (.iload_n 1, 1) := by decide +kernel
theorem dX9_keeps_53 : decode cX9_keeps 53 = .ok (.bipush 54, 2) := by decide +kernel
theorem dX9_keeps_55 : decode cX9_keeps 55 = .ok (.if_icmp .ge 29, 3) := by decide +kernel
theorem dX9_keeps_58 : decode cX9_keeps 58 = .ok (.aload_n 0, 1) := by decide +kernel
theorem dX9_keeps_59 : decode cX9_keeps 59 = .ok (.getfield 66, 3) := by decide +kernel
theorem dX9_keeps_62 : decode cX9_keeps 62 = .ok (.bipush 54, 2) := by decide +kernel
theorem dX9_keeps_64 : decode cX9_keeps 64 = .ok (.aload_n 0, 1) := by decide +kernel
theorem dX9_keeps_65 : decode cX9_keeps 65 = .ok (.getfield 301, 3) := by decide +kernel
theorem dX9_keeps_68 : decode cX9_keeps 68 = .ok (.imul, 1) := by decide +kernel
theorem dX9_keeps_69 : decode cX9_keeps 69 = .ok (.iload_n 1, 1) := by decide +kernel
theorem dX9_keeps_70 : decode cX9_keeps 70 = .ok (.iadd, 1) := by decide +kernel
theorem dX9_keeps_71 : decode cX9_keeps 71 = .ok (.aload_n 0, 1) := by decide +kernel
theorem dX9_keeps_72 : decode cX9_keeps 72 = .ok (.getfield 63, 3) := by decide +kernel
theorem dX9_keeps_75 : decode cX9_keeps 75 = .ok (.iload_n 1, 1) := by decide +kernel
theorem dX9_keeps_76 : decode cX9_keeps 76 = .ok (.iaload, 1) := by decide +kernel
theorem dX9_keeps_77 : decode cX9_keeps 77 = .ok (.iastore, 1) := by decide +kernel
theorem dX9_keeps_78 : decode cX9_keeps 78 = .ok (.iinc 1 1, 3) := by decide +kernel
theorem dX9_keeps_81 : decode cX9_keeps 81 = .ok (.goto (-29), 3) := by decide +kernel
theorem dX9_keeps_84 : decode cX9_keeps 84 = .ok (.aload_n 0, 1) := by decide +kernel
theorem dX9_keeps_85 : decode cX9_keeps 85 = .ok (.dup, 1) := by decide +kernel
theorem dX9_keeps_86 : decode cX9_keeps 86 = .ok (.getfield 301, 3) := by decide +kernel
theorem dX9_keeps_89 : decode cX9_keeps 89 = .ok (.iconst 1, 1) := by decide +kernel
theorem dX9_keeps_90 : decode cX9_keeps 90 = .ok (.iadd, 1) := by decide +kernel
theorem dX9_keeps_91 : decode cX9_keeps 91 = .ok (.putfield 301, 3) := by decide +kernel
theorem dX9_keeps_94 : decode cX9_keeps 94 = .ok (.return_, 1) := by decide +kernel
theorem dX9_refuses_0 : decode cX9_refuses 0 = .ok (.aload_n 0, 1) := by decide +kernel
theorem dX9_refuses_1 : decode cX9_refuses 1 = .ok (.getfield 38, 3) := by decide +kernel
theorem dX9_refuses_4 : decode cX9_refuses 4 = .ok (.iload_n 1, 1) := by decide +kernel
theorem dX9_refuses_5 : decode cX9_refuses 5 = .ok (.dup2, 1) := by decide +kernel
theorem dX9_refuses_6 : decode cX9_refuses 6 = .ok (.iaload, 1) := by decide +kernel
theorem dX9_refuses_7 : decode cX9_refuses 7 = .ok (.iconst 1, 1) := by decide +kernel
theorem dX9_refuses_8 : decode cX9_refuses 8 = .ok (.iadd, 1) := by decide +kernel
theorem dX9_refuses_9 : decode cX9_refuses 9 = .ok (.iastore, 1) := by decide +kernel
theorem dX9_refuses_10 : decode cX9_refuses 10 = .ok (.iconst (-1), 1) := by decide +kernel
theorem dX9_refuses_11 : decode cX9_refuses 11 = .ok (.ireturn, 1) := by decide +kernel
theorem dX9_undo_0 : decode cX9_undo 0 = .ok (.aload_n 0, 1) := by decide +kernel
theorem dX9_undo_1 : decode cX9_undo 1 = .ok (.iconst 0, 1) := by decide +kernel
theorem dX9_undo_2 : decode cX9_undo 2 = .ok (.putfield 102, 3) := by decide +kernel
theorem dX9_undo_5 : decode cX9_undo 5 = .ok (.aload_n 0, 1) := by decide +kernel
theorem dX9_undo_6 : decode cX9_undo 6 = .ok (.getfield 301, 3) := by decide +kernel
theorem dX9_undo_9 : decode cX9_undo 9 = .ok (.ifCond .ne 5, 3) := by decide +kernel
theorem dX9_undo_12 : decode cX9_undo 12 = .ok (.iconst (-1), 1) := by decide +kernel
theorem dX9_undo_13 : decode cX9_undo 13 = .ok (.ireturn, 1) := by decide +kernel
theorem dX9_undo_14 : decode cX9_undo 14 = .ok (.aload_n 0, 1) := by decide +kernel
theorem dX9_undo_15 : decode cX9_undo 15 = .ok (.dup, 1) := by decide +kernel
theorem dX9_undo_16 : decode cX9_undo 16 = .ok (.getfield 301, 3) := by decide +kernel
theorem dX9_undo_19 : decode cX9_undo 19 = .ok (.iconst 1, 1) := by decide +kernel
theorem dX9_undo_20 : decode cX9_undo 20 = .ok (.isub, 1) := by decide +kernel
theorem dX9_undo_21 : decode cX9_undo 21 = .ok (.putfield 301, 3) := by decide +kernel
theorem dX9_undo_24 : decode cX9_undo 24 = .ok (.iconst 0, 1) := by decide +kernel
theorem dX9_undo_25 : decode cX9_undo 25 = .ok (.istore_n 1, 1) := by decide +kernel
theorem dX9_undo_26 : decode cX9_undo 26 = .ok (.iload_n 1, 1) := by decide +kernel
theorem dX9_undo_27 : decode cX9_undo 27 = .ok (.bipush 54, 2) := by decide +kernel
theorem dX9_undo_29 : decode cX9_undo 29 = .ok (.if_icmp .ge 29, 3) := by decide +kernel
theorem dX9_undo_32 : decode cX9_undo 32 = .ok (.aload_n 0, 1) := by decide +kernel
theorem dX9_undo_33 : decode cX9_undo 33 = .ok (.getfield 63, 3) := by decide +kernel
theorem dX9_undo_36 : decode cX9_undo 36 = .ok (.iload_n 1, 1) := by decide +kernel
theorem dX9_undo_37 : decode cX9_undo 37 = .ok (.aload_n 0, 1) := by decide +kernel
theorem dX9_undo_38 : decode cX9_undo 38 = .ok (.getfield 66, 3) := by decide +kernel
theorem dX9_undo_41 : decode cX9_undo 41 = .ok (.bipush 54, 2) := by decide +kernel
theorem dX9_undo_43 : decode cX9_undo 43 = .ok (.aload_n 0, 1) := by decide +kernel
theorem dX9_undo_44 : decode cX9_undo 44 = .ok (.getfield 301, 3) := by decide +kernel
theorem dX9_undo_47 : decode cX9_undo 47 = .ok (.imul, 1) := by decide +kernel
theorem dX9_undo_48 : decode cX9_undo 48 = .ok (.iload_n 1, 1) := by decide +kernel
theorem dX9_undo_49 : decode cX9_undo 49 = .ok (.iadd, 1) := by decide +kernel
theorem dX9_undo_50 : decode cX9_undo 50 = .ok (.iaload, 1) := by decide +kernel
theorem dX9_undo_51 : decode cX9_undo 51 = .ok (.iastore, 1) := by decide +kernel
theorem dX9_undo_52 : decode cX9_undo 52 = .ok (.iinc 1 1, 3) := by decide +kernel
theorem dX9_undo_55 : decode cX9_undo 55 = .ok (.goto (-29), 3) := by decide +kernel
theorem dX9_undo_58 : decode cX9_undo 58 = .ok (.aload_n 0, 1) := by decide +kernel
theorem dX9_undo_59 : decode cX9_undo 59 = .ok (.getfield 301, 3) := by decide +kernel
theorem dX9_undo_62 : decode cX9_undo 62 = .ok (.ireturn, 1) := by decide +kernel
theorem dX9_tries_0 : decode cX9_tries 0 = .ok (.iconst 0, 1) := by decide +kernel
theorem dX9_tries_1 : decode cX9_tries 1 = .ok (.istore_n 1, 1) := by decide +kernel
theorem dX9_tries_2 : decode cX9_tries 2 = .ok (.iload_n 1, 1) := by decide +kernel
theorem dX9_tries_3 : decode cX9_tries 3 = .ok (.bipush 54, 2) := by decide +kernel
theorem dX9_tries_5 : decode cX9_tries 5 = .ok (.if_icmp .ge 24, 3) := by decide +kernel
theorem dX9_tries_8 : decode cX9_tries 8 = .ok (.aload_n 0, 1) := by decide +kernel
theorem dX9_tries_9 : decode cX9_tries 9 = .ok (.getfield 63, 3) := by decide +kernel
theorem dX9_tries_12 : decode cX9_tries 12 = .ok (.bipush 54, 2) := by decide +kernel
theorem dX9_tries_14 : decode cX9_tries 14 = .ok (.iload_n 1, 1) := by decide +kernel
theorem dX9_tries_15 : decode cX9_tries 15 = .ok (.iadd, 1) := by decide +kernel
theorem dX9_tries_16 : decode cX9_tries 16 = .ok (.aload_n 0, 1) := by decide +kernel
theorem dX9_tries_17 : decode cX9_tries 17 = .ok (.getfield 63, 3) := by decide +kernel
theorem dX9_tries_20 : decode cX9_tries 20 = .ok (.iload_n 1, 1) := by decide +kernel
theorem dX9_tries_21 : decode cX9_tries 21 = .ok (.iaload, 1) := by decide +kernel
theorem dX9_tries_22 : decode cX9_tries 22 = .ok (.iastore, 1) := by decide +kernel
theorem dX9_tries_23 : decode cX9_tries 23 = .ok (.iinc 1 1, 3) := by decide +kernel
theorem dX9_tries_26 : decode cX9_tries 26 = .ok (.goto (-24), 3) := by decide +kernel
theorem dX9_tries_29 : decode cX9_tries 29 = .ok (.iconst 0, 1) := by decide +kernel
theorem dX9_tries_30 : decode cX9_tries 30 = .ok (.istore_n 1, 1) := by decide +kernel
theorem dX9_tries_31 : decode cX9_tries 31 = .ok (.iload_n 1, 1) := by decide +kernel
theorem dX9_tries_32 : decode cX9_tries 32 = .ok (.bipush 8, 2) := by decide +kernel
theorem dX9_tries_34 : decode cX9_tries 34 = .ok (.if_icmp .ge 16, 3) := by decide +kernel
theorem dX9_tries_37 : decode cX9_tries 37 = .ok (.aload_n 0, 1) := by decide +kernel
theorem dX9_tries_38 : decode cX9_tries 38 = .ok (.getfield 69, 3) := by decide +kernel
theorem dX9_tries_41 : decode cX9_tries 41 = .ok (.iload_n 1, 1) := by decide +kernel
theorem dX9_tries_42 : decode cX9_tries 42 = .ok (.iconst 0, 1) := by decide +kernel
theorem dX9_tries_43 : decode cX9_tries 43 = .ok (.iastore, 1) := by decide +kernel
theorem dX9_tries_44 : decode cX9_tries 44 = .ok (.iinc 1 1, 3) := by decide +kernel
theorem dX9_tries_47 : decode cX9_tries 47 = .ok (.goto (-16), 3) := by decide +kernel
theorem dX9_tries_50 : decode cX9_tries 50 = .ok (.aload_n 0, 1) := by decide +kernel
theorem dX9_tries_51 : decode cX9_tries 51 = .ok (.iconst 0, 1) := by decide +kernel
theorem dX9_tries_52 : decode cX9_tries 52 = .ok (.putfield 311, 3) := by decide +kernel
theorem dX9_tries_55 : decode cX9_tries 55 = .ok (.return_, 1) := by decide +kernel
theorem dX9_works_0 : decode cX9_works 0 = .ok (.iload_n 0, 1) := by decide +kernel
theorem dX9_works_1 : decode cX9_works 1 = .ok (.tableswitch 105 4 10 #[43, 57, 71, 82, 93, 97, 101], 43) := by decide +kernel
theorem dX9_works_44 : decode cX9_works 44 = .ok (.iload_n 1, 1) := by decide +kernel
theorem dX9_works_45 : decode cX9_works 45 = .ok (.ifCond .eq 11, 3) := by decide +kernel
theorem dX9_works_48 : decode cX9_works 48 = .ok (.iload_n 2, 1) := by decide +kernel
theorem dX9_works_49 : decode cX9_works 49 = .ok (.ifCond .eq 7, 3) := by decide +kernel
theorem dX9_works_52 : decode cX9_works 52 = .ok (.iconst 1, 1) := by decide +kernel
theorem dX9_works_53 : decode cX9_works 53 = .ok (.goto 4, 3) := by decide +kernel
theorem dX9_works_56 : decode cX9_works 56 = .ok (.iconst 0, 1) := by decide +kernel
theorem dX9_works_57 : decode cX9_works 57 = .ok (.ireturn, 1) := by decide +kernel
theorem dX9_works_58 : decode cX9_works 58 = .ok (.iload_n 1, 1) := by decide +kernel
theorem dX9_works_59 : decode cX9_works 59 = .ok (.ifCond .ne 7, 3) := by decide +kernel
theorem dX9_works_62 : decode cX9_works 62 = .ok (.iload_n 2, 1) := by decide +kernel
theorem dX9_works_63 : decode cX9_works 63 = .ok (.ifCond .eq 7, 3) := by decide +kernel
theorem dX9_works_66 : decode cX9_works 66 = .ok (.iconst 1, 1) := by decide +kernel
theorem dX9_works_67 : decode cX9_works 67 = .ok (.goto 4, 3) := by decide +kernel
theorem dX9_works_70 : decode cX9_works 70 = .ok (.iconst 0, 1) := by decide +kernel
theorem dX9_works_71 : decode cX9_works 71 = .ok (.ireturn, 1) := by decide +kernel
theorem dX9_works_72 : decode cX9_works 72 = .ok (.iload_n 1, 1) := by decide +kernel
theorem dX9_works_73 : decode cX9_works 73 = .ok (.iload_n 2, 1) := by decide +kernel
theorem dX9_works_74 : decode cX9_works 74 = .ok (.if_icmp .ge 7, 3) := by decide +kernel
theorem dX9_works_77 : decode cX9_works 77 = .ok (.iconst 1, 1) := by decide +kernel
theorem dX9_works_78 : decode cX9_works 78 = .ok (.goto 4, 3) := by decide +kernel
theorem dX9_works_81 : decode cX9_works 81 = .ok (.iconst 0, 1) := by decide +kernel
theorem dX9_works_82 : decode cX9_works 82 = .ok (.ireturn, 1) := by decide +kernel
theorem dX9_works_83 : decode cX9_works 83 = .ok (.iload_n 1, 1) := by decide +kernel
theorem dX9_works_84 : decode cX9_works 84 = .ok (.iload_n 2, 1) := by decide +kernel
theorem dX9_works_85 : decode cX9_works 85 = .ok (.if_icmp .ne 7, 3) := by decide +kernel
theorem dX9_works_88 : decode cX9_works 88 = .ok (.iconst 1, 1) := by decide +kernel
theorem dX9_works_89 : decode cX9_works 89 = .ok (.goto 4, 3) := by decide +kernel
theorem dX9_works_92 : decode cX9_works 92 = .ok (.iconst 0, 1) := by decide +kernel
theorem dX9_works_93 : decode cX9_works 93 = .ok (.ireturn, 1) := by decide +kernel
theorem dX9_works_94 : decode cX9_works 94 = .ok (.iload_n 1, 1) := by decide +kernel
theorem dX9_works_95 : decode cX9_works 95 = .ok (.iload_n 2, 1) := by decide +kernel
theorem dX9_works_96 : decode cX9_works 96 = .ok (.iadd, 1) := by decide +kernel
theorem dX9_works_97 : decode cX9_works 97 = .ok (.ireturn, 1) := by decide +kernel
theorem dX9_works_98 : decode cX9_works 98 = .ok (.iload_n 1, 1) := by decide +kernel
theorem dX9_works_99 : decode cX9_works 99 = .ok (.iload_n 2, 1) := by decide +kernel
theorem dX9_works_100 : decode cX9_works 100 = .ok (.isub, 1) := by decide +kernel
theorem dX9_works_101 : decode cX9_works 101 = .ok (.ireturn, 1) := by decide +kernel
theorem dX9_works_102 : decode cX9_works 102 = .ok (.iload_n 1, 1) := by decide +kernel
theorem dX9_works_103 : decode cX9_works 103 = .ok (.iload_n 2, 1) := by decide +kernel
theorem dX9_works_104 : decode cX9_works 104 = .ok (.imul, 1) := by decide +kernel
theorem dX9_works_105 : decode cX9_works 105 = .ok (.ireturn, 1) := by decide +kernel
theorem dX9_works_106 : decode cX9_works 106 = .ok (.iload_n 2, 1) := by decide +kernel
theorem dX9_works_107 : decode cX9_works 107 = .ok (.ifCond .ne 7, 3) := by decide +kernel
theorem dX9_works_110 : decode cX9_works 110 = .ok (.iconst 0, 1) := by decide +kernel
theorem dX9_works_111 : decode cX9_works 111 = .ok (.goto 6, 3) := by decide +kernel
theorem dX9_works_114 : decode cX9_works 114 = .ok (.iload_n 1, 1) := by decide +kernel
theorem dX9_works_115 : decode cX9_works 115 = .ok (.iload_n 2, 1) := by decide +kernel
theorem dX9_works_116 : decode cX9_works 116 = .ok (.idiv, 1) := by decide +kernel
theorem dX9_works_117 : decode cX9_works 117 = .ok (.ireturn, 1) := by decide +kernel
theorem dX9_reckons_0 : decode cX9_reckons 0 = .ok (.iconst 0, 1) := by decide +kernel
theorem dX9_reckons_1 : decode cX9_reckons 1 = .ok (.istore_n 2, 1) := by decide +kernel
theorem dX9_reckons_2 : decode cX9_reckons 2 = .ok (.iload_n 1, 1) := by decide +kernel
theorem dX9_reckons_3 : decode cX9_reckons 3 = .ok (.istore_n 3, 1) := by decide +kernel
theorem dX9_reckons_4 : decode cX9_reckons 4 = .ok (.aload_n 0, 1) := by decide +kernel
theorem dX9_reckons_5 : decode cX9_reckons 5 = .ok (.getfield 29, 3) := by decide +kernel
theorem dX9_reckons_8 : decode cX9_reckons 8 = .ok (.iload_n 3, 1) := by decide +kernel
theorem dX9_reckons_9 : decode cX9_reckons 9 = .ok (.iaload, 1) := by decide +kernel
theorem dX9_reckons_10 : decode cX9_reckons 10 = .ok (.ifCond .eq 133, 3) := by decide +kernel
theorem dX9_reckons_13 : decode cX9_reckons 13 = .ok (.aload_n 0, 1) := by decide +kernel
theorem dX9_reckons_14 : decode cX9_reckons 14 = .ok (.getfield 29, 3) := by decide +kernel
theorem dX9_reckons_17 : decode cX9_reckons 17 = .ok (.iload_n 3, 1) := by decide +kernel
theorem dX9_reckons_18 : decode cX9_reckons 18 = .ok (.iaload, 1) := by decide +kernel
theorem dX9_reckons_19 : decode cX9_reckons 19 = .ok (.istore 4, 2) := by decide +kernel
theorem dX9_reckons_21 : decode cX9_reckons 21 = .ok (.iinc 3 1, 3) := by decide +kernel
theorem dX9_reckons_24 : decode cX9_reckons 24 = .ok (.iload 4, 2) := by decide +kernel
theorem dX9_reckons_26 : decode cX9_reckons 26 = .ok (.iconst 1, 1) := by decide +kernel
theorem dX9_reckons_27 : decode cX9_reckons 27 = .ok (.if_icmp .eq 9, 3) := by decide +kernel
theorem dX9_reckons_30 : decode cX9_reckons 30 = .ok (.iload 4, 2) := by decide +kernel
theorem dX9_reckons_32 : decode cX9_reckons 32 = .ok (.iconst 2, 1) := by decide +kernel
theorem dX9_reckons_33 : decode cX9_reckons 33 = .ok (.if_icmp .ne 44, 3) := by decide +kernel
theorem dX9_reckons_36 : decode cX9_reckons 36 = .ok (.aload_n 0, 1) := by decide +kernel
theorem dX9_reckons_37 : decode cX9_reckons 37 = .ok (.getfield 75, 3) := by decide +kernel
theorem dX9_reckons_40 : decode cX9_reckons 40 = .ok (.iload_n 2, 1) := by decide +kernel
theorem dX9_reckons_41 : decode cX9_reckons 41 = .ok (.iload 4, 2) := by decide +kernel
theorem dX9_reckons_43 : decode cX9_reckons 43 = .ok (.iconst 1, 1) := by decide +kernel
theorem dX9_reckons_44 : decode cX9_reckons 44 = .ok (.if_icmp .ne 12, 3) := by decide +kernel
theorem dX9_reckons_47 : decode cX9_reckons 47 = .ok (.aload_n 0, 1) := by decide +kernel
theorem dX9_reckons_48 : decode cX9_reckons 48 = .ok (.getfield 29, 3) := by decide +kernel
theorem dX9_reckons_51 : decode cX9_reckons 51 = .ok (.iload_n 3, 1) := by decide +kernel
theorem dX9_reckons_52 : decode cX9_reckons 52 = .ok (.iaload, 1) := by decide +kernel
theorem dX9_reckons_53 : decode cX9_reckons 53 = .ok (.goto 14, 3) := by decide +kernel
theorem dX9_reckons_56 : decode cX9_reckons 56 = .ok (.aload_n 0, 1) := by decide +kernel
theorem dX9_reckons_57 : decode cX9_reckons 57 = .ok (.getfield 72, 3) := by decide +kernel
theorem dX9_reckons_60 : decode cX9_reckons 60 = .ok (.aload_n 0, 1) := by decide +kernel
theorem dX9_reckons_61 : decode cX9_reckons 61 = .ok (.getfield 29, 3) := by decide +kernel
theorem dX9_reckons_64 : decode cX9_reckons 64 = .ok (.iload_n 3, 1) := by decide +kernel
theorem dX9_reckons_65 : decode cX9_reckons 65 = .ok (.iaload, 1) := by decide +kernel
theorem dX9_reckons_66 : decode cX9_reckons 66 = .ok (.iaload, 1) := by decide +kernel
theorem dX9_reckons_67 : decode cX9_reckons 67 = .ok (.iastore, 1) := by decide +kernel
theorem dX9_reckons_68 : decode cX9_reckons 68 = .ok (.iinc 3 1, 3) := by decide +kernel
theorem dX9_reckons_71 : decode cX9_reckons 71 = .ok (.iinc 2 1, 3) := by decide +kernel
theorem dX9_reckons_74 : decode cX9_reckons 74 = .ok (.goto 66, 3) := by decide +kernel
theorem dX9_reckons_77 : decode cX9_reckons 77 = .ok (.iload 4, 2) := by decide +kernel
theorem dX9_reckons_79 : decode cX9_reckons 79 = .ok (.iconst 3, 1) := by decide +kernel
theorem dX9_reckons_80 : decode cX9_reckons 80 = .ok (.if_icmp .ne 30, 3) := by decide +kernel
theorem dX9_reckons_83 : decode cX9_reckons 83 = .ok (.aload_n 0, 1) := by decide +kernel
theorem dX9_reckons_84 : decode cX9_reckons 84 = .ok (.getfield 75, 3) := by decide +kernel
theorem dX9_reckons_87 : decode cX9_reckons 87 = .ok (.iload_n 2, 1) := by decide +kernel
theorem dX9_reckons_88 : decode cX9_reckons 88 = .ok (.iconst 1, 1) := by decide +kernel
theorem dX9_reckons_89 : decode cX9_reckons 89 = .ok (.isub, 1) := by decide +kernel
theorem dX9_reckons_90 : decode cX9_reckons 90 = .ok (.aload_n 0, 1) := by decide +kernel
theorem dX9_reckons_91 : decode cX9_reckons 91 = .ok (.getfield 75, 3) := by decide +kernel
theorem dX9_reckons_94 : decode cX9_reckons 94 = .ok (.iload_n 2, 1) := by decide +kernel
theorem dX9_reckons_95 : decode cX9_reckons 95 = .ok (.iconst 1, 1) := by decide +kernel
theorem dX9_reckons_96 : decode cX9_reckons 96 = .ok (.isub, 1) := by decide +kernel
theorem dX9_reckons_97 : decode cX9_reckons 97 = .ok (.iaload, 1) := by decide +kernel
theorem dX9_reckons_98 : decode cX9_reckons 98 = .ok (.ifCond .ne 7, 3) := by decide +kernel
theorem dX9_reckons_101 : decode cX9_reckons 101 = .ok (.iconst 1, 1) := by decide +kernel
theorem dX9_reckons_102 : decode cX9_reckons 102 = .ok (.goto 4, 3) := by decide +kernel
theorem dX9_reckons_105 : decode cX9_reckons 105 = .ok (.iconst 0, 1) := by decide +kernel
theorem dX9_reckons_106 : decode cX9_reckons 106 = .ok (.iastore, 1) := by decide +kernel
theorem dX9_reckons_107 : decode cX9_reckons 107 = .ok (.goto 33, 3) := by decide +kernel
theorem dX9_reckons_110 : decode cX9_reckons 110 = .ok (.iinc 2 (-1), 3) := by decide +kernel
theorem dX9_reckons_113 : decode cX9_reckons 113 = .ok (.aload_n 0, 1) := by decide +kernel
theorem dX9_reckons_114 : decode cX9_reckons 114 = .ok (.getfield 75, 3) := by decide +kernel
theorem dX9_reckons_117 : decode cX9_reckons 117 = .ok (.iload_n 2, 1) := by decide +kernel
theorem dX9_reckons_118 : decode cX9_reckons 118 = .ok (.iconst 1, 1) := by decide +kernel
theorem dX9_reckons_119 : decode cX9_reckons 119 = .ok (.isub, 1) := by decide +kernel
theorem dX9_reckons_120 : decode cX9_reckons 120 = .ok (.iload 4, 2) := by decide +kernel
theorem dX9_reckons_122 : decode cX9_reckons 122 = .ok (.aload_n 0, 1) := by decide +kernel
theorem dX9_reckons_123 : decode cX9_reckons 123 = .ok (.getfield 75, 3) := by decide +kernel
theorem dX9_reckons_126 : decode cX9_reckons 126 = .ok (.iload_n 2, 1) := by decide +kernel
theorem dX9_reckons_127 : decode cX9_reckons 127 = .ok (.iconst 1, 1) := by decide +kernel
theorem dX9_reckons_128 : decode cX9_reckons 128 = .ok (.isub, 1) := by decide +kernel
theorem dX9_reckons_129 : decode cX9_reckons 129 = .ok (.iaload, 1) := by decide +kernel
theorem dX9_reckons_130 : decode cX9_reckons 130 = .ok (.aload_n 0, 1) := by decide +kernel
theorem dX9_reckons_131 : decode cX9_reckons 131 = .ok (.getfield 75, 3) := by decide +kernel
theorem dX9_reckons_134 : decode cX9_reckons 134 = .ok (.iload_n 2, 1) := by decide +kernel
theorem dX9_reckons_135 : decode cX9_reckons 135 = .ok (.iaload, 1) := by decide +kernel
theorem dX9_reckons_136 : decode cX9_reckons 136 = .ok (.invokestatic 314, 3) := by decide +kernel
theorem dX9_reckons_139 : decode cX9_reckons 139 = .ok (.iastore, 1) := by decide +kernel
theorem dX9_reckons_140 : decode cX9_reckons 140 = .ok (.goto (-136), 3) := by decide +kernel
theorem dX9_reckons_143 : decode cX9_reckons 143 = .ok (.aload_n 0, 1) := by decide +kernel
theorem dX9_reckons_144 : decode cX9_reckons 144 = .ok (.getfield 75, 3) := by decide +kernel
theorem dX9_reckons_147 : decode cX9_reckons 147 = .ok (.iconst 0, 1) := by decide +kernel
theorem dX9_reckons_148 : decode cX9_reckons 148 = .ok (.iaload, 1) := by decide +kernel
theorem dX9_reckons_149 : decode cX9_reckons 149 = .ok (.ireturn, 1) := by decide +kernel
theorem dX9_sumOf_0 : decode cX9_sumOf 0 = .ok (.iconst 0, 1) := by decide +kernel
theorem dX9_sumOf_1 : decode cX9_sumOf 1 = .ok (.istore 4, 2) := by decide +kernel
theorem dX9_sumOf_3 : decode cX9_sumOf 3 = .ok (.iconst 0, 1) := by decide +kernel
theorem dX9_sumOf_4 : decode cX9_sumOf 4 = .ok (.istore 5, 2) := by decide +kernel
theorem dX9_sumOf_6 : decode cX9_sumOf 6 = .ok (.iload 5, 2) := by decide +kernel
theorem dX9_sumOf_8 : decode cX9_sumOf 8 = .ok (.iload_n 3, 1) := by decide +kernel
theorem dX9_sumOf_9 : decode cX9_sumOf 9 = .ok (.if_icmp .ge 25, 3) := by decide +kernel
theorem dX9_sumOf_12 : decode cX9_sumOf 12 = .ok (.iload 4, 2) := by decide +kernel
theorem dX9_sumOf_14 : decode cX9_sumOf 14 = .ok (.aload_n 0, 1) := by decide +kernel
theorem dX9_sumOf_15 : decode cX9_sumOf 15 = .ok (.getfield 63, 3) := by decide +kernel
theorem dX9_sumOf_18 : decode cX9_sumOf 18 = .ok (.iload_n 1, 1) := by decide +kernel
theorem dX9_sumOf_19 : decode cX9_sumOf 19 = .ok (.iload_n 2, 1) := by decide +kernel
theorem dX9_sumOf_20 : decode cX9_sumOf 20 = .ok (.iadd, 1) := by decide +kernel
theorem dX9_sumOf_21 : decode cX9_sumOf 21 = .ok (.iload 5, 2) := by decide +kernel
theorem dX9_sumOf_23 : decode cX9_sumOf 23 = .ok (.iadd, 1) := by decide +kernel
theorem dX9_sumOf_24 : decode cX9_sumOf 24 = .ok (.iaload, 1) := by decide +kernel
theorem dX9_sumOf_25 : decode cX9_sumOf 25 = .ok (.iadd, 1) := by decide +kernel
theorem dX9_sumOf_26 : decode cX9_sumOf 26 = .ok (.istore 4, 2) := by decide +kernel
theorem dX9_sumOf_28 : decode cX9_sumOf 28 = .ok (.iinc 5 1, 3) := by decide +kernel
theorem dX9_sumOf_31 : decode cX9_sumOf 31 = .ok (.goto (-25), 3) := by decide +kernel
theorem dX9_sumOf_34 : decode cX9_sumOf 34 = .ok (.iload 4, 2) := by decide +kernel
theorem dX9_sumOf_36 : decode cX9_sumOf 36 = .ok (.ireturn, 1) := by decide +kernel
theorem dX9_weightOf_0 : decode cX9_weightOf 0 = .ok (.aload_n 0, 1) := by decide +kernel
theorem dX9_weightOf_1 : decode cX9_weightOf 1 = .ok (.iload_n 1, 1) := by decide +kernel
theorem dX9_weightOf_2 : decode cX9_weightOf 2 = .ok (.bipush 6, 2) := by decide +kernel
theorem dX9_weightOf_4 : decode cX9_weightOf 4 = .ok (.aload_n 0, 1) := by decide +kernel
theorem dX9_weightOf_5 : decode cX9_weightOf 5 = .ok (.getfield 63, 3) := by decide +kernel
theorem dX9_weightOf_8 : decode cX9_weightOf 8 = .ok (.iload_n 1, 1) := by decide +kernel
theorem dX9_weightOf_9 : decode cX9_weightOf 9 = .ok (.iconst 3, 1) := by decide +kernel
theorem dX9_weightOf_10 : decode cX9_weightOf 10 = .ok (.iadd, 1) := by decide +kernel
theorem dX9_weightOf_11 : decode cX9_weightOf 11 = .ok (.iaload, 1) := by decide +kernel
theorem dX9_weightOf_12 : decode cX9_weightOf 12 = .ok (.invokevirtual 318, 3) := by decide +kernel
theorem dX9_weightOf_15 : decode cX9_weightOf 15 = .ok (.ireturn, 1) := by decide +kernel
theorem dX9_mortarOf_0 : decode cX9_mortarOf 0 = .ok (.aload_n 0, 1) := by decide +kernel
theorem dX9_mortarOf_1 : decode cX9_mortarOf 1 = .ok (.iload_n 1, 1) := by decide +kernel
theorem dX9_mortarOf_2 : decode cX9_mortarOf 2 = .ok (.bipush 22, 2) := by decide +kernel
theorem dX9_mortarOf_4 : decode cX9_mortarOf 4 = .ok (.aload_n 0, 1) := by decide +kernel
theorem dX9_mortarOf_5 : decode cX9_mortarOf 5 = .ok (.getfield 63, 3) := by decide +kernel
theorem dX9_mortarOf_8 : decode cX9_mortarOf 8 = .ok (.iload_n 1, 1) := by decide +kernel
theorem dX9_mortarOf_9 : decode cX9_mortarOf 9 = .ok (.iconst 3, 1) := by decide +kernel
theorem dX9_mortarOf_10 : decode cX9_mortarOf 10 = .ok (.iadd, 1) := by decide +kernel
theorem dX9_mortarOf_11 : decode cX9_mortarOf 11 = .ok (.iaload, 1) := by decide +kernel
theorem dX9_mortarOf_12 : decode cX9_mortarOf 12 = .ok (.invokevirtual 318, 3) := by decide +kernel
theorem dX9_mortarOf_15 : decode cX9_mortarOf 15 = .ok (.ireturn, 1) := by decide +kernel
theorem dX9_strengthOf_0 : decode cX9_strengthOf 0 = .ok (.aload_n 0, 1) := by decide +kernel
theorem dX9_strengthOf_1 : decode cX9_strengthOf 1 = .ok (.iload_n 1, 1) := by decide +kernel
theorem dX9_strengthOf_2 : decode cX9_strengthOf 2 = .ok (.bipush 38, 2) := by decide +kernel
theorem dX9_strengthOf_4 : decode cX9_strengthOf 4 = .ok (.aload_n 0, 1) := by decide +kernel
theorem dX9_strengthOf_5 : decode cX9_strengthOf 5 = .ok (.getfield 291, 3) := by decide +kernel
theorem dX9_strengthOf_8 : decode cX9_strengthOf 8 = .ok (.invokevirtual 318, 3) := by decide +kernel
theorem dX9_strengthOf_11 : decode cX9_strengthOf 11 = .ok (.bipush 10, 2) := by decide +kernel
theorem dX9_strengthOf_13 : decode cX9_strengthOf 13 = .ok (.idiv, 1) := by decide +kernel
theorem dX9_strengthOf_14 : decode cX9_strengthOf 14 = .ok (.aload_n 0, 1) := by decide +kernel
theorem dX9_strengthOf_15 : decode cX9_strengthOf 15 = .ok (.iload_n 1, 1) := by decide +kernel
theorem dX9_strengthOf_16 : decode cX9_strengthOf 16 = .ok (.invokevirtual 321, 3) := by decide +kernel
theorem dX9_strengthOf_19 : decode cX9_strengthOf 19 = .ok (.iadd, 1) := by decide +kernel
theorem dX9_strengthOf_20 : decode cX9_strengthOf 20 = .ok (.ireturn, 1) := by decide +kernel
theorem dX9_isDone_0 : decode cX9_isDone 0 = .ok (.aload_n 0, 1) := by decide +kernel
theorem dX9_isDone_1 : decode cX9_isDone 1 = .ok (.getfield 63, 3) := by decide +kernel
theorem dX9_isDone_4 : decode cX9_isDone 4 = .ok (.iload_n 1, 1) := by decide +kernel
theorem dX9_isDone_5 : decode cX9_isDone 5 = .ok (.iconst 3, 1) := by decide +kernel
theorem dX9_isDone_6 : decode cX9_isDone 6 = .ok (.iadd, 1) := by decide +kernel
theorem dX9_isDone_7 : decode cX9_isDone 7 = .ok (.iaload, 1) := by decide +kernel
theorem dX9_isDone_8 : decode cX9_isDone 8 = .ok (.aload_n 0, 1) := by decide +kernel
theorem dX9_isDone_9 : decode cX9_isDone 9 = .ok (.getfield 7, 3) := by decide +kernel
theorem dX9_isDone_12 : decode cX9_isDone 12 = .ok (.if_icmp .lt 7, 3) := by decide +kernel
theorem dX9_isDone_15 : decode cX9_isDone 15 = .ok (.iconst 1, 1) := by decide +kernel
theorem dX9_isDone_16 : decode cX9_isDone 16 = .ok (.goto 4, 3) := by decide +kernel
theorem dX9_isDone_19 : decode cX9_isDone 19 = .ok (.iconst 0, 1) := by decide +kernel
theorem dX9_isDone_20 : decode cX9_isDone 20 = .ok (.ireturn, 1) := by decide +kernel
theorem dX9_doubtOf_0 : decode cX9_doubtOf 0 = .ok (.iconst 0, 1) := by decide +kernel
theorem dX9_doubtOf_1 : decode cX9_doubtOf 1 = .ok (.istore_n 3, 1) := by decide +kernel
theorem dX9_doubtOf_2 : decode cX9_doubtOf 2 = .ok (.iconst 0, 1) := by decide +kernel
theorem dX9_doubtOf_3 : decode cX9_doubtOf 3 = .ok (.istore 4, 2) := by decide +kernel
theorem dX9_doubtOf_5 : decode cX9_doubtOf 5 = .ok (.iload 4, 2) := by decide +kernel
theorem dX9_doubtOf_7 : decode cX9_doubtOf 7 = .ok (.aload_n 0, 1) := by decide +kernel
theorem dX9_doubtOf_8 : decode cX9_doubtOf 8 = .ok (.getfield 291, 3) := by decide +kernel
theorem dX9_doubtOf_11 : decode cX9_doubtOf 11 = .ok (.if_icmp .ge 54, 3) := by decide +kernel
theorem dX9_doubtOf_14 : decode cX9_doubtOf 14 = .ok (.iload_n 3, 1) := by decide +kernel
theorem dX9_doubtOf_15 : decode cX9_doubtOf 15 = .ok (.aload_n 0, 1) := by decide +kernel
theorem dX9_doubtOf_16 : decode cX9_doubtOf 16 = .ok (.getfield 63, 3) := by decide +kernel
theorem dX9_doubtOf_19 : decode cX9_doubtOf 19 = .ok (.iload_n 1, 1) := by decide +kernel
theorem dX9_doubtOf_20 : decode cX9_doubtOf 20 = .ok (.bipush 46, 2) := by decide +kernel
theorem dX9_doubtOf_22 : decode cX9_doubtOf 22 = .ok (.iadd, 1) := by decide +kernel
theorem dX9_doubtOf_23 : decode cX9_doubtOf 23 = .ok (.iload_n 2, 1) := by decide +kernel
theorem dX9_doubtOf_24 : decode cX9_doubtOf 24 = .ok (.iadd, 1) := by decide +kernel
theorem dX9_doubtOf_25 : decode cX9_doubtOf 25 = .ok (.iaload, 1) := by decide +kernel
theorem dX9_doubtOf_26 : decode cX9_doubtOf 26 = .ok (.iload 4, 2) := by decide +kernel
theorem dX9_doubtOf_28 : decode cX9_doubtOf 28 = .ok (.ishr, 1) := by decide +kernel
theorem dX9_doubtOf_29 : decode cX9_doubtOf 29 = .ok (.iconst 1, 1) := by decide +kernel
theorem dX9_doubtOf_30 : decode cX9_doubtOf 30 = .ok (.iand, 1) := by decide +kernel
theorem dX9_doubtOf_31 : decode cX9_doubtOf 31 = .ok (.iconst 1, 1) := by decide +kernel
theorem dX9_doubtOf_32 : decode cX9_doubtOf 32 = .ok (.if_icmp .ne 24, 3) := by decide +kernel
theorem dX9_doubtOf_35 : decode cX9_doubtOf 35 = .ok (.aload_n 0, 1) := by decide +kernel
theorem dX9_doubtOf_36 : decode cX9_doubtOf 36 = .ok (.getfield 63, 3) := by decide +kernel
theorem dX9_doubtOf_39 : decode cX9_doubtOf 39 = .ok (.iload_n 1, 1) := by decide +kernel
theorem dX9_doubtOf_40 : decode cX9_doubtOf 40 = .ok (.bipush 38, 2) := by decide +kernel
theorem dX9_doubtOf_42 : decode cX9_doubtOf 42 = .ok (.iadd, 1) := by decide +kernel
theorem dX9_doubtOf_43 : decode cX9_doubtOf 43 = .ok (.iload 4, 2) := by decide +kernel
theorem dX9_doubtOf_45 : decode cX9_doubtOf 45 = .ok (.iadd, 1) := by decide +kernel
theorem dX9_doubtOf_46 : decode cX9_doubtOf 46 = .ok (.iaload, 1) := by decide +kernel
theorem dX9_doubtOf_47 : decode cX9_doubtOf 47 = .ok (.bipush 10, 2) := by decide +kernel
theorem dX9_doubtOf_49 : decode cX9_doubtOf 49 = .ok (.if_icmp .ge 7, 3) := by decide +kernel
theorem dX9_doubtOf_52 : decode cX9_doubtOf 52 = .ok (.iconst 1, 1) := by decide +kernel
theorem dX9_doubtOf_53 : decode cX9_doubtOf 53 = .ok (.goto 4, 3) := by decide +kernel
theorem dX9_doubtOf_56 : decode cX9_doubtOf 56 = .ok (.iconst 0, 1) := by decide +kernel
theorem dX9_doubtOf_57 : decode cX9_doubtOf 57 = .ok (.iadd, 1) := by decide +kernel
theorem dX9_doubtOf_58 : decode cX9_doubtOf 58 = .ok (.istore_n 3, 1) := by decide +kernel
theorem dX9_doubtOf_59 : decode cX9_doubtOf 59 = .ok (.iinc 4 1, 3) := by decide +kernel
theorem dX9_doubtOf_62 : decode cX9_doubtOf 62 = .ok (.goto (-57), 3) := by decide +kernel
theorem dX9_doubtOf_65 : decode cX9_doubtOf 65 = .ok (.iload_n 3, 1) := by decide +kernel
theorem dX9_doubtOf_66 : decode cX9_doubtOf 66 = .ok (.ireturn, 1) := by decide +kernel
theorem dX9_tells_0 : decode cX9_tells 0 = .ok (.aload_n 0, 1) := by decide +kernel
theorem dX9_tells_1 : decode cX9_tells 1 = .ok (.getfield 72, 3) := by decide +kernel
theorem dX9_tells_4 : decode cX9_tells 4 = .ok (.iconst 3, 1) := by decide +kernel
theorem dX9_tells_5 : decode cX9_tells 5 = .ok (.aload_n 0, 1) := by decide +kernel
theorem dX9_tells_6 : decode cX9_tells 6 = .ok (.getfield 63, 3) := by decide +kernel
theorem dX9_tells_9 : decode cX9_tells 9 = .ok (.iload_n 1, 1) := by decide +kernel
theorem dX9_tells_10 : decode cX9_tells 10 = .ok (.iconst 2, 1) := by decide +kernel
theorem dX9_tells_11 : decode cX9_tells 11 = .ok (.iadd, 1) := by decide +kernel
theorem dX9_tells_12 : decode cX9_tells 12 = .ok (.iaload, 1) := by decide +kernel
theorem dX9_tells_13 : decode cX9_tells 13 = .ok (.iastore, 1) := by decide +kernel
theorem dX9_tells_14 : decode cX9_tells 14 = .ok (.aload_n 0, 1) := by decide +kernel
theorem dX9_tells_15 : decode cX9_tells 15 = .ok (.getfield 72, 3) := by decide +kernel
theorem dX9_tells_18 : decode cX9_tells 18 = .ok (.iconst 4, 1) := by decide +kernel
theorem dX9_tells_19 : decode cX9_tells 19 = .ok (.aload_n 0, 1) := by decide +kernel
theorem dX9_tells_20 : decode cX9_tells 20 = .ok (.getfield 63, 3) := by decide +kernel
theorem dX9_tells_23 : decode cX9_tells 23 = .ok (.iload_n 1, 1) := by decide +kernel
theorem dX9_tells_24 : decode cX9_tells 24 = .ok (.iconst 3, 1) := by decide +kernel
theorem dX9_tells_25 : decode cX9_tells 25 = .ok (.iadd, 1) := by decide +kernel
theorem dX9_tells_26 : decode cX9_tells 26 = .ok (.iaload, 1) := by decide +kernel
theorem dX9_tells_27 : decode cX9_tells 27 = .ok (.iastore, 1) := by decide +kernel
theorem dX9_tells_28 : decode cX9_tells 28 = .ok (.aload_n 0, 1) := by decide +kernel
theorem dX9_tells_29 : decode cX9_tells 29 = .ok (.getfield 72, 3) := by decide +kernel
theorem dX9_tells_32 : decode cX9_tells 32 = .ok (.iconst 5, 1) := by decide +kernel
theorem dX9_tells_33 : decode cX9_tells 33 = .ok (.aload_n 0, 1) := by decide +kernel
theorem dX9_tells_34 : decode cX9_tells 34 = .ok (.getfield 63, 3) := by decide +kernel
theorem dX9_tells_37 : decode cX9_tells 37 = .ok (.iload_n 1, 1) := by decide +kernel
theorem dX9_tells_38 : decode cX9_tells 38 = .ok (.iconst 0, 1) := by decide +kernel
theorem dX9_tells_39 : decode cX9_tells 39 = .ok (.iadd, 1) := by decide +kernel
theorem dX9_tells_40 : decode cX9_tells 40 = .ok (.iaload, 1) := by decide +kernel
theorem dX9_tells_41 : decode cX9_tells 41 = .ok (.iastore, 1) := by decide +kernel
theorem dX9_tells_42 : decode cX9_tells 42 = .ok (.return_, 1) := by decide +kernel
theorem dX9_leansBy_0 : decode cX9_leansBy 0 = .ok (.aload_n 0, 1) := by decide +kernel
theorem dX9_leansBy_1 : decode cX9_leansBy 1 = .ok (.getfield 78, 3) := by decide +kernel
theorem dX9_leansBy_4 : decode cX9_leansBy 4 = .ok (.iconst (-1), 1) := by decide +kernel
theorem dX9_leansBy_5 : decode cX9_leansBy 5 = .ok (.if_icmp .eq 10, 3) := by decide +kernel
theorem dX9_leansBy_8 : decode cX9_leansBy 8 = .ok (.aload_n 0, 1) := by decide +kernel
theorem dX9_leansBy_9 : decode cX9_leansBy 9 = .ok (.getfield 78, 3) := by decide +kernel
theorem dX9_leansBy_12 : decode cX9_leansBy 12 = .ok (.goto 32, 3) := by decide +kernel
theorem dX9_leansBy_15 : decode cX9_leansBy 15 = .ok (.aload_n 0, 1) := by decide +kernel
theorem dX9_leansBy_16 : decode cX9_leansBy 16 = .ok (.getfield 294, 3) := by decide +kernel
theorem dX9_leansBy_19 : decode cX9_leansBy 19 = .ok (.ifCond .ne 7, 3) := by decide +kernel
theorem dX9_leansBy_22 : decode cX9_leansBy 22 = .ok (.iconst 2, 1) := by decide +kernel
theorem dX9_leansBy_23 : decode cX9_leansBy 23 = .ok (.goto 21, 3) := by decide +kernel
theorem dX9_leansBy_26 : decode cX9_leansBy 26 = .ok (.aload_n 0, 1) := by decide +kernel
theorem dX9_leansBy_27 : decode cX9_leansBy 27 = .ok (.getfield 25, 3) := by decide +kernel
theorem dX9_leansBy_30 : decode cX9_leansBy 30 = .ok (.aload_n 0, 1) := by decide +kernel
theorem dX9_leansBy_31 : decode cX9_leansBy 31 = .ok (.getfield 63, 3) := by decide +kernel
theorem dX9_leansBy_34 : decode cX9_leansBy 34 = .ok (.iload_n 1, 1) := by decide +kernel
theorem dX9_leansBy_35 : decode cX9_leansBy 35 = .ok (.iconst 0, 1) := by decide +kernel
theorem dX9_leansBy_36 : decode cX9_leansBy 36 = .ok (.iadd, 1) := by decide +kernel
theorem dX9_leansBy_37 : decode cX9_leansBy 37 = .ok (.iaload, 1) := by decide +kernel
theorem dX9_leansBy_38 : decode cX9_leansBy 38 = .ok (.aload_n 0, 1) := by decide +kernel
theorem dX9_leansBy_39 : decode cX9_leansBy 39 = .ok (.getfield 294, 3) := by decide +kernel
theorem dX9_leansBy_42 : decode cX9_leansBy 42 = .ok (.irem, 1) := by decide +kernel
theorem dX9_leansBy_43 : decode cX9_leansBy 43 = .ok (.iaload, 1) := by decide +kernel
theorem dX9_leansBy_44 : decode cX9_leansBy 44 = .ok (.istore_n 2, 1) := by decide +kernel
theorem dX9_leansBy_45 : decode cX9_leansBy 45 = .ok (.aload_n 0, 1) := by decide +kernel
theorem dX9_leansBy_46 : decode cX9_leansBy 46 = .ok (.getfield 16, 3) := by decide +kernel
theorem dX9_leansBy_49 : decode cX9_leansBy 49 = .ok (.iconst (-1), 1) := by decide +kernel
theorem dX9_leansBy_50 : decode cX9_leansBy 50 = .ok (.if_icmp .ne 13, 3) := by decide +kernel
theorem dX9_leansBy_53 : decode cX9_leansBy 53 = .ok (.iload_n 2, 1) := by decide +kernel
theorem dX9_leansBy_54 : decode cX9_leansBy 54 = .ok (.aload_n 0, 1) := by decide +kernel
theorem dX9_leansBy_55 : decode cX9_leansBy 55 = .ok (.iload_n 1, 1) := by decide +kernel
theorem dX9_leansBy_56 : decode cX9_leansBy 56 = .ok (.invokevirtual 321, 3) := by decide +kernel
theorem dX9_leansBy_59 : decode cX9_leansBy 59 = .ok (.iconst 4, 1) := by decide +kernel
theorem dX9_leansBy_60 : decode cX9_leansBy 60 = .ok (.idiv, 1) := by decide +kernel
theorem dX9_leansBy_61 : decode cX9_leansBy 61 = .ok (.isub, 1) := by decide +kernel
theorem dX9_leansBy_62 : decode cX9_leansBy 62 = .ok (.ireturn, 1) := by decide +kernel
theorem dX9_leansBy_63 : decode cX9_leansBy 63 = .ok (.aload_n 0, 1) := by decide +kernel
theorem dX9_leansBy_64 : decode cX9_leansBy 64 = .ok (.iload_n 1, 1) := by decide +kernel
theorem dX9_leansBy_65 : decode cX9_leansBy 65 = .ok (.invokevirtual 324, 3) := by decide +kernel
theorem dX9_leansBy_68 : decode cX9_leansBy 68 = .ok (.aload_n 0, 1) := by decide +kernel
theorem dX9_leansBy_69 : decode cX9_leansBy 69 = .ok (.getfield 72, 3) := by decide +kernel
theorem dX9_leansBy_72 : decode cX9_leansBy 72 = .ok (.iconst 0, 1) := by decide +kernel
theorem dX9_leansBy_73 : decode cX9_leansBy 73 = .ok (.iload_n 2, 1) := by decide +kernel
theorem dX9_leansBy_74 : decode cX9_leansBy 74 = .ok (.iastore, 1) := by decide +kernel
theorem dX9_leansBy_75 : decode cX9_leansBy 75 = .ok (.aload_n 0, 1) := by decide +kernel
theorem dX9_leansBy_76 : decode cX9_leansBy 76 = .ok (.getfield 72, 3) := by decide +kernel
theorem dX9_leansBy_79 : decode cX9_leansBy 79 = .ok (.iconst 1, 1) := by decide +kernel
theorem dX9_leansBy_80 : decode cX9_leansBy 80 = .ok (.aload_n 0, 1) := by decide +kernel
theorem dX9_leansBy_81 : decode cX9_leansBy 81 = .ok (.iload_n 1, 1) := by decide +kernel
theorem dX9_leansBy_82 : decode cX9_leansBy 82 = .ok (.invokevirtual 327, 3) := by decide +kernel
theorem dX9_leansBy_85 : decode cX9_leansBy 85 = .ok (.iastore, 1) := by decide +kernel
theorem dX9_leansBy_86 : decode cX9_leansBy 86 = .ok (.aload_n 0, 1) := by decide +kernel
theorem dX9_leansBy_87 : decode cX9_leansBy 87 = .ok (.getfield 72, 3) := by decide +kernel
theorem dX9_leansBy_90 : decode cX9_leansBy 90 = .ok (.iconst 2, 1) := by decide +kernel
theorem dX9_leansBy_91 : decode cX9_leansBy 91 = .ok (.aload_n 0, 1) := by decide +kernel
theorem dX9_leansBy_92 : decode cX9_leansBy 92 = .ok (.iload_n 1, 1) := by decide +kernel
theorem dX9_leansBy_93 : decode cX9_leansBy 93 = .ok (.invokevirtual 321, 3) := by decide +kernel
theorem dX9_leansBy_96 : decode cX9_leansBy 96 = .ok (.iastore, 1) := by decide +kernel
theorem dX9_leansBy_97 : decode cX9_leansBy 97 = .ok (.aload_n 0, 1) := by decide +kernel
theorem dX9_leansBy_98 : decode cX9_leansBy 98 = .ok (.aload_n 0, 1) := by decide +kernel
theorem dX9_leansBy_99 : decode cX9_leansBy 99 = .ok (.getfield 16, 3) := by decide +kernel
theorem dX9_leansBy_102 : decode cX9_leansBy 102 = .ok (.invokevirtual 330, 3) := by decide +kernel
theorem dX9_leansBy_105 : decode cX9_leansBy 105 = .ok (.ireturn, 1) := by decide +kernel
theorem dX9_tellsWard_0 : decode cX9_tellsWard 0 = .ok (.aload_n 0, 1) := by decide +kernel
theorem dX9_tellsWard_1 : decode cX9_tellsWard 1 = .ok (.iload_n 1, 1) := by decide +kernel
theorem dX9_tellsWard_2 : decode cX9_tellsWard 2 = .ok (.invokevirtual 324, 3) := by decide +kernel
theorem dX9_tellsWard_5 : decode cX9_tellsWard 5 = .ok (.aload_n 0, 1) := by decide +kernel
theorem dX9_tellsWard_6 : decode cX9_tellsWard 6 = .ok (.getfield 72, 3) := by decide +kernel
theorem dX9_tellsWard_9 : decode cX9_tellsWard 9 = .ok (.bipush 6, 2) := by decide +kernel
theorem dX9_tellsWard_11 : decode cX9_tellsWard 11 = .ok (.aload_n 0, 1) := by decide +kernel
theorem dX9_tellsWard_12 : decode cX9_tellsWard 12 = .ok (.getfield 63, 3) := by decide +kernel
theorem dX9_tellsWard_15 : decode cX9_tellsWard 15 = .ok (.iload_n 1, 1) := by decide +kernel
theorem dX9_tellsWard_16 : decode cX9_tellsWard 16 = .ok (.bipush 38, 2) := by decide +kernel
theorem dX9_tellsWard_18 : decode cX9_tellsWard 18 = .ok (.iadd, 1) := by decide +kernel
theorem dX9_tellsWard_19 : decode cX9_tellsWard 19 = .ok (.iload_n 2, 1) := by decide +kernel
theorem dX9_tellsWard_20 : decode cX9_tellsWard 20 = .ok (.iadd, 1) := by decide +kernel
theorem dX9_tellsWard_21 : decode cX9_tellsWard 21 = .ok (.iaload, 1) := by decide +kernel
theorem dX9_tellsWard_22 : decode cX9_tellsWard 22 = .ok (.iastore, 1) := by decide +kernel
theorem dX9_tellsWard_23 : decode cX9_tellsWard 23 = .ok (.aload_n 0, 1) := by decide +kernel
theorem dX9_tellsWard_24 : decode cX9_tellsWard 24 = .ok (.getfield 72, 3) := by decide +kernel
theorem dX9_tellsWard_27 : decode cX9_tellsWard 27 = .ok (.bipush 7, 2) := by decide +kernel
theorem dX9_tellsWard_29 : decode cX9_tellsWard 29 = .ok (.aload_n 0, 1) := by decide +kernel
theorem dX9_tellsWard_30 : decode cX9_tellsWard 30 = .ok (.iload_n 1, 1) := by decide +kernel
theorem dX9_tellsWard_31 : decode cX9_tellsWard 31 = .ok (.iload_n 2, 1) := by decide +kernel
theorem dX9_tellsWard_32 : decode cX9_tellsWard 32 = .ok (.invokevirtual 333, 3) := by decide +kernel
theorem dX9_tellsWard_35 : decode cX9_tellsWard 35 = .ok (.iastore, 1) := by decide +kernel
theorem dX9_tellsWard_36 : decode cX9_tellsWard 36 = .ok (.aload_n 0, 1) := by decide +kernel
theorem dX9_tellsWard_37 : decode cX9_tellsWard 37 = .ok (.getfield 72, 3) := by decide +kernel
theorem dX9_tellsWard_40 : decode cX9_tellsWard 40 = .ok (.bipush 8, 2) := by decide +kernel
theorem dX9_tellsWard_42 : decode cX9_tellsWard 42 = .ok (.iload_n 3, 1) := by decide +kernel
theorem dX9_tellsWard_43 : decode cX9_tellsWard 43 = .ok (.iastore, 1) := by decide +kernel
theorem dX9_tellsWard_44 : decode cX9_tellsWard 44 = .ok (.return_, 1) := by decide +kernel
theorem dX9_givesBy_0 : decode cX9_givesBy 0 = .ok (.aload_n 0, 1) := by decide +kernel
theorem dX9_givesBy_1 : decode cX9_givesBy 1 = .ok (.getfield 19, 3) := by decide +kernel
theorem dX9_givesBy_4 : decode cX9_givesBy 4 = .ok (.iconst (-1), 1) := by decide +kernel
theorem dX9_givesBy_5 : decode cX9_givesBy 5 = .ok (.if_icmp .ne 18, 3) := by decide +kernel
theorem dX9_givesBy_8 : decode cX9_givesBy 8 = .ok (.aload_n 0, 1) := by decide +kernel
theorem dX9_givesBy_9 : decode cX9_givesBy 9 = .ok (.getfield 63, 3) := by decide +kernel
theorem dX9_givesBy_12 : decode cX9_givesBy 12 = .ok (.iload_n 1, 1) := by decide +kernel
theorem dX9_givesBy_13 : decode cX9_givesBy 13 = .ok (.bipush 38, 2) := by decide +kernel
theorem dX9_givesBy_15 : decode cX9_givesBy 15 = .ok (.iadd, 1) := by decide +kernel
theorem dX9_givesBy_16 : decode cX9_givesBy 16 = .ok (.iload_n 2, 1) := by decide +kernel
theorem dX9_givesBy_17 : decode cX9_givesBy 17 = .ok (.iadd, 1) := by decide +kernel
theorem dX9_givesBy_18 : decode cX9_givesBy 18 = .ok (.iaload, 1) := by decide +kernel
theorem dX9_givesBy_19 : decode cX9_givesBy 19 = .ok (.bipush 20, 2) := by decide +kernel
theorem dX9_givesBy_21 : decode cX9_givesBy 21 = .ok (.idiv, 1) := by decide +kernel
theorem dX9_givesBy_22 : decode cX9_givesBy 22 = .ok (.ireturn, 1) := by decide +kernel
theorem dX9_givesBy_23 : decode cX9_givesBy 23 = .ok (.aload_n 0, 1) := by decide +kernel
theorem dX9_givesBy_24 : decode cX9_givesBy 24 = .ok (.iload_n 1, 1) := by decide +kernel
theorem dX9_givesBy_25 : decode cX9_givesBy 25 = .ok (.iload_n 2, 1) := by decide +kernel
theorem dX9_givesBy_26 : decode cX9_givesBy 26 = .ok (.aload_n 0, 1) := by decide +kernel
theorem dX9_givesBy_27 : decode cX9_givesBy 27 = .ok (.getfield 63, 3) := by decide +kernel
theorem dX9_givesBy_30 : decode cX9_givesBy 30 = .ok (.iload_n 1, 1) := by decide +kernel
theorem dX9_givesBy_31 : decode cX9_givesBy 31 = .ok (.iconst 5, 1) := by decide +kernel
theorem dX9_givesBy_32 : decode cX9_givesBy 32 = .ok (.iadd, 1) := by decide +kernel
theorem dX9_givesBy_33 : decode cX9_givesBy 33 = .ok (.iaload, 1) := by decide +kernel
theorem dX9_givesBy_34 : decode cX9_givesBy 34 = .ok (.invokevirtual 336, 3) := by decide +kernel
theorem dX9_givesBy_37 : decode cX9_givesBy 37 = .ok (.aload_n 0, 1) := by decide +kernel
theorem dX9_givesBy_38 : decode cX9_givesBy 38 = .ok (.aload_n 0, 1) := by decide +kernel
theorem dX9_givesBy_39 : decode cX9_givesBy 39 = .ok (.getfield 19, 3) := by decide +kernel
theorem dX9_givesBy_42 : decode cX9_givesBy 42 = .ok (.invokevirtual 330, 3) := by decide +kernel
theorem dX9_givesBy_45 : decode cX9_givesBy 45 = .ok (.iconst 0, 1) := by decide +kernel
theorem dX9_givesBy_46 : decode cX9_givesBy 46 = .ok (.bipush 20, 2) := by decide +kernel
theorem dX9_givesBy_48 : decode cX9_givesBy 48 = .ok (.invokestatic 340, 3) := by decide +kernel
theorem dX9_givesBy_51 : decode cX9_givesBy 51 = .ok (.ireturn, 1) := by decide +kernel
theorem dX9_believesBy_0 : decode cX9_believesBy 0 = .ok (.aload_n 0, 1) := by decide +kernel
theorem dX9_believesBy_1 : decode cX9_believesBy 1 = .ok (.getfield 22, 3) := by decide +kernel
theorem dX9_believesBy_4 : decode cX9_believesBy 4 = .ok (.iconst (-1), 1) := by decide +kernel
theorem dX9_believesBy_5 : decode cX9_believesBy 5 = .ok (.if_icmp .ne 16, 3) := by decide +kernel
theorem dX9_believesBy_8 : decode cX9_believesBy 8 = .ok (.iconst 1, 1) := by decide +kernel
theorem dX9_believesBy_9 : decode cX9_believesBy 9 = .ok (.aload_n 0, 1) := by decide +kernel
theorem dX9_believesBy_10 : decode cX9_believesBy 10 = .ok (.iload_n 1, 1) := by decide +kernel
theorem dX9_believesBy_11 : decode cX9_believesBy 11 = .ok (.iload_n 2, 1) := by decide +kernel
theorem dX9_believesBy_12 : decode cX9_believesBy 12 = .ok (.invokevirtual 333, 3) := by decide +kernel
theorem dX9_believesBy_15 : decode cX9_believesBy 15 = .ok (.isub, 1) := by decide +kernel
theorem dX9_believesBy_16 : decode cX9_believesBy 16 = .ok (.iconst 3, 1) := by decide +kernel
theorem dX9_believesBy_17 : decode cX9_believesBy 17 = .ok (.iload_n 3, 1) := by decide +kernel
theorem dX9_believesBy_18 : decode cX9_believesBy 18 = .ok (.imul, 1) := by decide +kernel
theorem dX9_believesBy_19 : decode cX9_believesBy 19 = .ok (.isub, 1) := by decide +kernel
theorem dX9_believesBy_20 : decode cX9_believesBy 20 = .ok (.ireturn, 1) := by decide +kernel
theorem dX9_believesBy_21 : decode cX9_believesBy 21 = .ok (.aload_n 0, 1) := by decide +kernel
theorem dX9_believesBy_22 : decode cX9_believesBy 22 = .ok (.iload_n 1, 1) := by decide +kernel
theorem dX9_believesBy_23 : decode cX9_believesBy 23 = .ok (.iload_n 2, 1) := by decide +kernel
theorem dX9_believesBy_24 : decode cX9_believesBy 24 = .ok (.iload_n 3, 1) := by decide +kernel
theorem dX9_believesBy_25 : decode cX9_believesBy 25 = .ok (.invokevirtual 336, 3) := by decide +kernel
theorem dX9_believesBy_28 : decode cX9_believesBy 28 = .ok (.aload_n 0, 1) := by decide +kernel
theorem dX9_believesBy_29 : decode cX9_believesBy 29 = .ok (.aload_n 0, 1) := by decide +kernel
theorem dX9_believesBy_30 : decode cX9_believesBy 30 = .ok (.getfield 22, 3) := by decide +kernel
theorem dX9_believesBy_33 : decode cX9_believesBy 33 = .ok (.invokevirtual 330, 3) := by decide +kernel
theorem dX9_believesBy_36 : decode cX9_believesBy 36 = .ok (.ireturn, 1) := by decide +kernel
theorem dX9_lowestFalls_0 : decode cX9_lowestFalls 0 = .ok (.aload_n 0, 1) := by decide +kernel
theorem dX9_lowestFalls_1 : decode cX9_lowestFalls 1 = .ok (.getfield 63, 3) := by decide +kernel
theorem dX9_lowestFalls_4 : decode cX9_lowestFalls 4 = .ok (.iload_n 1, 1) := by decide +kernel
theorem dX9_lowestFalls_5 : decode cX9_lowestFalls 5 = .ok (.iconst 3, 1) := by decide +kernel
theorem dX9_lowestFalls_6 : decode cX9_lowestFalls 6 = .ok (.iadd, 1) := by decide +kernel
theorem dX9_lowestFalls_7 : decode cX9_lowestFalls 7 = .ok (.iaload, 1) := by decide +kernel
theorem dX9_lowestFalls_8 : decode cX9_lowestFalls 8 = .ok (.iconst 1, 1) := by decide +kernel
theorem dX9_lowestFalls_9 : decode cX9_lowestFalls 9 = .ok (.isub, 1) := by decide +kernel
theorem dX9_lowestFalls_10 : decode cX9_lowestFalls 10 = .ok (.istore_n 2, 1) := by decide +kernel
theorem dX9_lowestFalls_11 : decode cX9_lowestFalls 11 = .ok (.iload_n 2, 1) := by decide +kernel
theorem dX9_lowestFalls_12 : decode cX9_lowestFalls 12 = .ok (.istore_n 3, 1) := by decide +kernel
theorem dX9_lowestFalls_13 : decode cX9_lowestFalls 13 = .ok (.iload_n 3, 1) := by decide +kernel
theorem dX9_lowestFalls_14 : decode cX9_lowestFalls 14 = .ok (.iconst 1, 1) := by decide +kernel
theorem dX9_lowestFalls_15 : decode cX9_lowestFalls 15 = .ok (.iadd, 1) := by decide +kernel
theorem dX9_lowestFalls_16 : decode cX9_lowestFalls 16 = .ok (.aload_n 0, 1) := by decide +kernel
theorem dX9_lowestFalls_17 : decode cX9_lowestFalls 17 = .ok (.getfield 63, 3) := by decide +kernel
theorem dX9_lowestFalls_20 : decode cX9_lowestFalls 20 = .ok (.iload_n 1, 1) := by decide +kernel
theorem dX9_lowestFalls_21 : decode cX9_lowestFalls 21 = .ok (.iconst 4, 1) := by decide +kernel
theorem dX9_lowestFalls_22 : decode cX9_lowestFalls 22 = .ok (.iadd, 1) := by decide +kernel
theorem dX9_lowestFalls_23 : decode cX9_lowestFalls 23 = .ok (.iaload, 1) := by decide +kernel
theorem dX9_lowestFalls_24 : decode cX9_lowestFalls 24 = .ok (.if_icmp .ge 57, 3) := by decide +kernel
theorem dX9_lowestFalls_27 : decode cX9_lowestFalls 27 = .ok (.aload_n 0, 1) := by decide +kernel
theorem dX9_lowestFalls_28 : decode cX9_lowestFalls 28 = .ok (.getfield 63, 3) := by decide +kernel
theorem dX9_lowestFalls_31 : decode cX9_lowestFalls 31 = .ok (.iload_n 1, 1) := by decide +kernel
theorem dX9_lowestFalls_32 : decode cX9_lowestFalls 32 = .ok (.bipush 6, 2) := by decide +kernel
theorem dX9_lowestFalls_34 : decode cX9_lowestFalls 34 = .ok (.iadd, 1) := by decide +kernel
theorem dX9_lowestFalls_35 : decode cX9_lowestFalls 35 = .ok (.iload_n 3, 1) := by decide +kernel
theorem dX9_lowestFalls_36 : decode cX9_lowestFalls 36 = .ok (.iadd, 1) := by decide +kernel
theorem dX9_lowestFalls_37 : decode cX9_lowestFalls 37 = .ok (.aload_n 0, 1) := by decide +kernel
theorem dX9_lowestFalls_38 : decode cX9_lowestFalls 38 = .ok (.getfield 63, 3) := by decide +kernel
theorem dX9_lowestFalls_41 : decode cX9_lowestFalls 41 = .ok (.iload_n 1, 1) := by decide +kernel
theorem dX9_lowestFalls_42 : decode cX9_lowestFalls 42 = .ok (.bipush 6, 2) := by decide +kernel
theorem dX9_lowestFalls_44 : decode cX9_lowestFalls 44 = .ok (.iadd, 1) := by decide +kernel
theorem dX9_lowestFalls_45 : decode cX9_lowestFalls 45 = .ok (.iload_n 3, 1) := by decide +kernel
theorem dX9_lowestFalls_46 : decode cX9_lowestFalls 46 = .ok (.iadd, 1) := by decide +kernel
theorem dX9_lowestFalls_47 : decode cX9_lowestFalls 47 = .ok (.iconst 1, 1) := by decide +kernel
theorem dX9_lowestFalls_48 : decode cX9_lowestFalls 48 = .ok (.iadd, 1) := by decide +kernel
theorem dX9_lowestFalls_49 : decode cX9_lowestFalls 49 = .ok (.iaload, 1) := by decide +kernel
theorem dX9_lowestFalls_50 : decode cX9_lowestFalls 50 = .ok (.iastore, 1) := by decide +kernel
theorem dX9_lowestFalls_51 : decode cX9_lowestFalls 51 = .ok (.aload_n 0, 1) := by decide +kernel
theorem dX9_lowestFalls_52 : decode cX9_lowestFalls 52 = .ok (.getfield 63, 3) := by decide +kernel
theorem dX9_lowestFalls_55 : decode cX9_lowestFalls 55 = .ok (.iload_n 1, 1) := by decide +kernel
theorem dX9_lowestFalls_56 : decode cX9_lowestFalls 56 = .ok (.bipush 22, 2) := by decide +kernel
theorem dX9_lowestFalls_58 : decode cX9_lowestFalls 58 = .ok (.iadd, 1) := by decide +kernel
theorem dX9_lowestFalls_59 : decode cX9_lowestFalls 59 = .ok (.iload_n 3, 1) := by decide +kernel
theorem dX9_lowestFalls_60 : decode cX9_lowestFalls 60 = .ok (.iadd, 1) := by decide +kernel
theorem dX9_lowestFalls_61 : decode cX9_lowestFalls 61 = .ok (.aload_n 0, 1) := by decide +kernel
theorem dX9_lowestFalls_62 : decode cX9_lowestFalls 62 = .ok (.getfield 63, 3) := by decide +kernel
theorem dX9_lowestFalls_65 : decode cX9_lowestFalls 65 = .ok (.iload_n 1, 1) := by decide +kernel
theorem dX9_lowestFalls_66 : decode cX9_lowestFalls 66 = .ok (.bipush 22, 2) := by decide +kernel
theorem dX9_lowestFalls_68 : decode cX9_lowestFalls 68 = .ok (.iadd, 1) := by decide +kernel
theorem dX9_lowestFalls_69 : decode cX9_lowestFalls 69 = .ok (.iload_n 3, 1) := by decide +kernel
theorem dX9_lowestFalls_70 : decode cX9_lowestFalls 70 = .ok (.iadd, 1) := by decide +kernel
theorem dX9_lowestFalls_71 : decode cX9_lowestFalls 71 = .ok (.iconst 1, 1) := by decide +kernel
theorem dX9_lowestFalls_72 : decode cX9_lowestFalls 72 = .ok (.iadd, 1) := by decide +kernel
theorem dX9_lowestFalls_73 : decode cX9_lowestFalls 73 = .ok (.iaload, 1) := by decide +kernel
theorem dX9_lowestFalls_74 : decode cX9_lowestFalls 74 = .ok (.iastore, 1) := by decide +kernel
theorem dX9_lowestFalls_75 : decode cX9_lowestFalls 75 = .ok (.iinc 3 1, 3) := by decide +kernel
theorem dX9_lowestFalls_78 : decode cX9_lowestFalls 78 = .ok (.goto (-65), 3) := by decide +kernel
theorem dX9_lowestFalls_81 : decode cX9_lowestFalls 81 = .ok (.aload_n 0, 1) := by decide +kernel
theorem dX9_lowestFalls_82 : decode cX9_lowestFalls 82 = .ok (.getfield 63, 3) := by decide +kernel
theorem dX9_lowestFalls_85 : decode cX9_lowestFalls 85 = .ok (.iload_n 1, 1) := by decide +kernel
theorem dX9_lowestFalls_86 : decode cX9_lowestFalls 86 = .ok (.iconst 3, 1) := by decide +kernel
theorem dX9_lowestFalls_87 : decode cX9_lowestFalls 87 = .ok (.iadd, 1) := by decide +kernel
theorem dX9_lowestFalls_88 : decode cX9_lowestFalls 88 = .ok (.dup2, 1) := by decide +kernel
theorem dX9_lowestFalls_89 : decode cX9_lowestFalls 89 = .ok (.iaload, 1) := by decide +kernel
theorem dX9_lowestFalls_90 : decode cX9_lowestFalls 90 = .ok (.iconst 1, 1) := by decide +kernel
theorem dX9_lowestFalls_91 : decode cX9_lowestFalls 91 = .ok (.isub, 1) := by decide +kernel
theorem dX9_lowestFalls_92 : decode cX9_lowestFalls 92 = .ok (.iastore, 1) := by decide +kernel
theorem dX9_lowestFalls_93 : decode cX9_lowestFalls 93 = .ok (.aload_n 0, 1) := by decide +kernel
theorem dX9_lowestFalls_94 : decode cX9_lowestFalls 94 = .ok (.getfield 63, 3) := by decide +kernel
theorem dX9_lowestFalls_97 : decode cX9_lowestFalls 97 = .ok (.iload_n 1, 1) := by decide +kernel
theorem dX9_lowestFalls_98 : decode cX9_lowestFalls 98 = .ok (.iconst 4, 1) := by decide +kernel
theorem dX9_lowestFalls_99 : decode cX9_lowestFalls 99 = .ok (.iadd, 1) := by decide +kernel
theorem dX9_lowestFalls_100 : decode cX9_lowestFalls 100 = .ok (.dup2, 1) := by decide +kernel
theorem dX9_lowestFalls_101 : decode cX9_lowestFalls 101 = .ok (.iaload, 1) := by decide +kernel
theorem dX9_lowestFalls_102 : decode cX9_lowestFalls 102 = .ok (.iconst 1, 1) := by decide +kernel
theorem dX9_lowestFalls_103 : decode cX9_lowestFalls 103 = .ok (.isub, 1) := by decide +kernel
theorem dX9_lowestFalls_104 : decode cX9_lowestFalls 104 = .ok (.iastore, 1) := by decide +kernel
theorem dX9_lowestFalls_105 : decode cX9_lowestFalls 105 = .ok (.return_, 1) := by decide +kernel
theorem dX9_dayGoes_0 : decode cX9_dayGoes 0 = .ok (.aload_n 0, 1) := by decide +kernel
theorem dX9_dayGoes_1 : decode cX9_dayGoes 1 = .ok (.getfield 63, 3) := by decide +kernel
theorem dX9_dayGoes_4 : decode cX9_dayGoes 4 = .ok (.iload_n 1, 1) := by decide +kernel
theorem dX9_dayGoes_5 : decode cX9_dayGoes 5 = .ok (.iconst 2, 1) := by decide +kernel
theorem dX9_dayGoes_6 : decode cX9_dayGoes 6 = .ok (.iadd, 1) := by decide +kernel
theorem dX9_dayGoes_7 : decode cX9_dayGoes 7 = .ok (.aload_n 0, 1) := by decide +kernel
theorem dX9_dayGoes_8 : decode cX9_dayGoes 8 = .ok (.getfield 63, 3) := by decide +kernel
theorem dX9_dayGoes_11 : decode cX9_dayGoes 11 = .ok (.iload_n 1, 1) := by decide +kernel
theorem dX9_dayGoes_12 : decode cX9_dayGoes 12 = .ok (.iconst 2, 1) := by decide +kernel
theorem dX9_dayGoes_13 : decode cX9_dayGoes 13 = .ok (.iadd, 1) := by decide +kernel
theorem dX9_dayGoes_14 : decode cX9_dayGoes 14 = .ok (.iaload, 1) := by decide +kernel
theorem dX9_dayGoes_15 : decode cX9_dayGoes 15 = .ok (.aload_n 0, 1) := by decide +kernel
theorem dX9_dayGoes_16 : decode cX9_dayGoes 16 = .ok (.iload_n 1, 1) := by decide +kernel
theorem dX9_dayGoes_17 : decode cX9_dayGoes 17 = .ok (.invokevirtual 343, 3) := by decide +kernel
theorem dX9_dayGoes_20 : decode cX9_dayGoes 20 = .ok (.bipush (-9), 2) := by decide +kernel
theorem dX9_dayGoes_22 : decode cX9_dayGoes 22 = .ok (.bipush 9, 2) := by decide +kernel
theorem dX9_dayGoes_24 : decode cX9_dayGoes 24 = .ok (.invokestatic 340, 3) := by decide +kernel
theorem dX9_dayGoes_27 : decode cX9_dayGoes 27 = .ok (.iadd, 1) := by decide +kernel
theorem dX9_dayGoes_28 : decode cX9_dayGoes 28 = .ok (.iconst 0, 1) := by decide +kernel
theorem dX9_dayGoes_29 : decode cX9_dayGoes 29 = .ok (.bipush 99, 2) := by decide +kernel
theorem dX9_dayGoes_31 : decode cX9_dayGoes 31 = .ok (.invokestatic 340, 3) := by decide +kernel
theorem dX9_dayGoes_34 : decode cX9_dayGoes 34 = .ok (.iastore, 1) := by decide +kernel
theorem dX9_dayGoes_35 : decode cX9_dayGoes 35 = .ok (.aload_n 0, 1) := by decide +kernel
theorem dX9_dayGoes_36 : decode cX9_dayGoes 36 = .ok (.iconst 0, 1) := by decide +kernel
theorem dX9_dayGoes_37 : decode cX9_dayGoes 37 = .ok (.putfield 346, 3) := by decide +kernel
theorem dX9_dayGoes_40 : decode cX9_dayGoes 40 = .ok (.iconst 0, 1) := by decide +kernel
theorem dX9_dayGoes_41 : decode cX9_dayGoes 41 = .ok (.istore_n 2, 1) := by decide +kernel
theorem dX9_dayGoes_42 : decode cX9_dayGoes 42 = .ok (.iload_n 2, 1) := by decide +kernel
theorem dX9_dayGoes_43 : decode cX9_dayGoes 43 = .ok (.aload_n 0, 1) := by decide +kernel
theorem dX9_dayGoes_44 : decode cX9_dayGoes 44 = .ok (.getfield 291, 3) := by decide +kernel
theorem dX9_dayGoes_47 : decode cX9_dayGoes 47 = .ok (.if_icmp .ge 61, 3) := by decide +kernel
theorem dX9_dayGoes_50 : decode cX9_dayGoes 50 = .ok (.aload_n 0, 1) := by decide +kernel
theorem dX9_dayGoes_51 : decode cX9_dayGoes 51 = .ok (.iload_n 1, 1) := by decide +kernel
theorem dX9_dayGoes_52 : decode cX9_dayGoes 52 = .ok (.iload_n 2, 1) := by decide +kernel
theorem dX9_dayGoes_53 : decode cX9_dayGoes 53 = .ok (.invokevirtual 349, 3) := by decide +kernel
theorem dX9_dayGoes_56 : decode cX9_dayGoes 56 = .ok (.istore_n 3, 1) := by decide +kernel
theorem dX9_dayGoes_57 : decode cX9_dayGoes 57 = .ok (.aload_n 0, 1) := by decide +kernel
theorem dX9_dayGoes_58 : decode cX9_dayGoes 58 = .ok (.getfield 69, 3) := by decide +kernel
theorem dX9_dayGoes_61 : decode cX9_dayGoes 61 = .ok (.iload_n 2, 1) := by decide +kernel
theorem dX9_dayGoes_62 : decode cX9_dayGoes 62 = .ok (.dup2, 1) := by decide +kernel
theorem dX9_dayGoes_63 : decode cX9_dayGoes 63 = .ok (.iaload, 1) := by decide +kernel
theorem dX9_dayGoes_64 : decode cX9_dayGoes 64 = .ok (.iload_n 3, 1) := by decide +kernel
theorem dX9_dayGoes_65 : decode cX9_dayGoes 65 = .ok (.iadd, 1) := by decide +kernel
theorem dX9_dayGoes_66 : decode cX9_dayGoes 66 = .ok (.iastore, 1) := by decide +kernel
theorem dX9_dayGoes_67 : decode cX9_dayGoes 67 = .ok (.aload_n 0, 1) := by decide +kernel
theorem dX9_dayGoes_68 : decode cX9_dayGoes 68 = .ok (.dup, 1) := by decide +kernel
theorem dX9_dayGoes_69 : decode cX9_dayGoes 69 = .ok (.getfield 346, 3) := by decide +kernel
theorem dX9_dayGoes_72 : decode cX9_dayGoes 72 = .ok (.iload_n 3, 1) := by decide +kernel
theorem dX9_dayGoes_73 : decode cX9_dayGoes 73 = .ok (.iadd, 1) := by decide +kernel
theorem dX9_dayGoes_74 : decode cX9_dayGoes 74 = .ok (.putfield 346, 3) := by decide +kernel
theorem dX9_dayGoes_77 : decode cX9_dayGoes 77 = .ok (.aload_n 0, 1) := by decide +kernel
theorem dX9_dayGoes_78 : decode cX9_dayGoes 78 = .ok (.getfield 63, 3) := by decide +kernel
theorem dX9_dayGoes_81 : decode cX9_dayGoes 81 = .ok (.iload_n 1, 1) := by decide +kernel
theorem dX9_dayGoes_82 : decode cX9_dayGoes 82 = .ok (.iconst 1, 1) := by decide +kernel
theorem dX9_dayGoes_83 : decode cX9_dayGoes 83 = .ok (.iadd, 1) := by decide +kernel
theorem dX9_dayGoes_84 : decode cX9_dayGoes 84 = .ok (.aload_n 0, 1) := by decide +kernel
theorem dX9_dayGoes_85 : decode cX9_dayGoes 85 = .ok (.getfield 63, 3) := by decide +kernel
theorem dX9_dayGoes_88 : decode cX9_dayGoes 88 = .ok (.iload_n 1, 1) := by decide +kernel
theorem dX9_dayGoes_89 : decode cX9_dayGoes 89 = .ok (.iconst 1, 1) := by decide +kernel
theorem dX9_dayGoes_90 : decode cX9_dayGoes 90 = .ok (.iadd, 1) := by decide +kernel
theorem dX9_dayGoes_91 : decode cX9_dayGoes 91 = .ok (.iaload, 1) := by decide +kernel
theorem dX9_dayGoes_92 : decode cX9_dayGoes 92 = .ok (.iload_n 3, 1) := by decide +kernel
theorem dX9_dayGoes_93 : decode cX9_dayGoes 93 = .ok (.iadd, 1) := by decide +kernel
theorem dX9_dayGoes_94 : decode cX9_dayGoes 94 = .ok (.iconst 0, 1) := by decide +kernel
theorem dX9_dayGoes_95 : decode cX9_dayGoes 95 = .ok (.sipush 999, 3) := by decide +kernel
theorem dX9_dayGoes_98 : decode cX9_dayGoes 98 = .ok (.invokestatic 340, 3) := by decide +kernel
theorem dX9_dayGoes_101 : decode cX9_dayGoes 101 = .ok (.iastore, 1) := by decide +kernel
theorem dX9_dayGoes_102 : decode cX9_dayGoes 102 = .ok (.iinc 2 1, 3) := by decide +kernel
theorem dX9_dayGoes_105 : decode cX9_dayGoes 105 = .ok (.goto (-63), 3) := by decide +kernel
theorem dX9_dayGoes_108 : decode cX9_dayGoes 108 = .ok (.aload_n 0, 1) := by decide +kernel
theorem dX9_dayGoes_109 : decode cX9_dayGoes 109 = .ok (.getfield 63, 3) := by decide +kernel
theorem dX9_dayGoes_112 : decode cX9_dayGoes 112 = .ok (.iload_n 1, 1) := by decide +kernel
theorem dX9_dayGoes_113 : decode cX9_dayGoes 113 = .ok (.iconst 1, 1) := by decide +kernel
theorem dX9_dayGoes_114 : decode cX9_dayGoes 114 = .ok (.iadd, 1) := by decide +kernel
theorem dX9_dayGoes_115 : decode cX9_dayGoes 115 = .ok (.iaload, 1) := by decide +kernel
theorem dX9_dayGoes_116 : decode cX9_dayGoes 116 = .ok (.aload_n 0, 1) := by decide +kernel
theorem dX9_dayGoes_117 : decode cX9_dayGoes 117 = .ok (.getfield 13, 3) := by decide +kernel
theorem dX9_dayGoes_120 : decode cX9_dayGoes 120 = .ok (.if_icmp .lt 49, 3) := by decide +kernel
theorem dX9_dayGoes_123 : decode cX9_dayGoes 123 = .ok (.aload_n 0, 1) := by decide +kernel
theorem dX9_dayGoes_124 : decode cX9_dayGoes 124 = .ok (.getfield 63, 3) := by decide +kernel
theorem dX9_dayGoes_127 : decode cX9_dayGoes 127 = .ok (.iload_n 1, 1) := by decide +kernel
theorem dX9_dayGoes_128 : decode cX9_dayGoes 128 = .ok (.iconst 3, 1) := by decide +kernel
theorem dX9_dayGoes_129 : decode cX9_dayGoes 129 = .ok (.iadd, 1) := by decide +kernel
theorem dX9_dayGoes_130 : decode cX9_dayGoes 130 = .ok (.iaload, 1) := by decide +kernel
theorem dX9_dayGoes_131 : decode cX9_dayGoes 131 = .ok (.aload_n 0, 1) := by decide +kernel
theorem dX9_dayGoes_132 : decode cX9_dayGoes 132 = .ok (.getfield 63, 3) := by decide +kernel
theorem dX9_dayGoes_135 : decode cX9_dayGoes 135 = .ok (.iload_n 1, 1) := by decide +kernel
theorem dX9_dayGoes_136 : decode cX9_dayGoes 136 = .ok (.iconst 4, 1) := by decide +kernel
theorem dX9_dayGoes_137 : decode cX9_dayGoes 137 = .ok (.iadd, 1) := by decide +kernel
theorem dX9_dayGoes_138 : decode cX9_dayGoes 138 = .ok (.iaload, 1) := by decide +kernel
theorem dX9_dayGoes_139 : decode cX9_dayGoes 139 = .ok (.if_icmp .ge 30, 3) := by decide +kernel
theorem dX9_dayGoes_142 : decode cX9_dayGoes 142 = .ok (.aload_n 0, 1) := by decide +kernel
theorem dX9_dayGoes_143 : decode cX9_dayGoes 143 = .ok (.getfield 63, 3) := by decide +kernel
theorem dX9_dayGoes_146 : decode cX9_dayGoes 146 = .ok (.iload_n 1, 1) := by decide +kernel
theorem dX9_dayGoes_147 : decode cX9_dayGoes 147 = .ok (.iconst 1, 1) := by decide +kernel
theorem dX9_dayGoes_148 : decode cX9_dayGoes 148 = .ok (.iadd, 1) := by decide +kernel
theorem dX9_dayGoes_149 : decode cX9_dayGoes 149 = .ok (.dup2, 1) := by decide +kernel
theorem dX9_dayGoes_150 : decode cX9_dayGoes 150 = .ok (.iaload, 1) := by decide +kernel
theorem dX9_dayGoes_151 : decode cX9_dayGoes 151 = .ok (.aload_n 0, 1) := by decide +kernel
theorem dX9_dayGoes_152 : decode cX9_dayGoes 152 = .ok (.getfield 13, 3) := by decide +kernel
theorem dX9_dayGoes_155 : decode cX9_dayGoes 155 = .ok (.isub, 1) := by decide +kernel
theorem dX9_dayGoes_156 : decode cX9_dayGoes 156 = .ok (.iastore, 1) := by decide +kernel
theorem dX9_dayGoes_157 : decode cX9_dayGoes 157 = .ok (.aload_n 0, 1) := by decide +kernel
theorem dX9_dayGoes_158 : decode cX9_dayGoes 158 = .ok (.getfield 63, 3) := by decide +kernel
theorem dX9_dayGoes_161 : decode cX9_dayGoes 161 = .ok (.iload_n 1, 1) := by decide +kernel
theorem dX9_dayGoes_162 : decode cX9_dayGoes 162 = .ok (.iconst 3, 1) := by decide +kernel
theorem dX9_dayGoes_163 : decode cX9_dayGoes 163 = .ok (.iadd, 1) := by decide +kernel
theorem dX9_dayGoes_164 : decode cX9_dayGoes 164 = .ok (.dup2, 1) := by decide +kernel
theorem dX9_dayGoes_165 : decode cX9_dayGoes 165 = .ok (.iaload, 1) := by decide +kernel
theorem dX9_dayGoes_166 : decode cX9_dayGoes 166 = .ok (.iconst 1, 1) := by decide +kernel
theorem dX9_dayGoes_167 : decode cX9_dayGoes 167 = .ok (.iadd, 1) := by decide +kernel
theorem dX9_dayGoes_168 : decode cX9_dayGoes 168 = .ok (.iastore, 1) := by decide +kernel
theorem dX9_dayGoes_169 : decode cX9_dayGoes 169 = .ok (.iconst 0, 1) := by decide +kernel
theorem dX9_dayGoes_170 : decode cX9_dayGoes 170 = .ok (.istore_n 2, 1) := by decide +kernel
theorem dX9_dayGoes_171 : decode cX9_dayGoes 171 = .ok (.aload_n 0, 1) := by decide +kernel
theorem dX9_dayGoes_172 : decode cX9_dayGoes 172 = .ok (.iload_n 1, 1) := by decide +kernel
theorem dX9_dayGoes_173 : decode cX9_dayGoes 173 = .ok (.invokevirtual 352, 3) := by decide +kernel
theorem dX9_dayGoes_176 : decode cX9_dayGoes 176 = .ok (.ifCond .ne 49, 3) := by decide +kernel
theorem dX9_dayGoes_179 : decode cX9_dayGoes 179 = .ok (.aload_n 0, 1) := by decide +kernel
theorem dX9_dayGoes_180 : decode cX9_dayGoes 180 = .ok (.getfield 63, 3) := by decide +kernel
theorem dX9_dayGoes_183 : decode cX9_dayGoes 183 = .ok (.iload_n 1, 1) := by decide +kernel
theorem dX9_dayGoes_184 : decode cX9_dayGoes 184 = .ok (.iconst 3, 1) := by decide +kernel
theorem dX9_dayGoes_185 : decode cX9_dayGoes 185 = .ok (.iadd, 1) := by decide +kernel
theorem dX9_dayGoes_186 : decode cX9_dayGoes 186 = .ok (.iaload, 1) := by decide +kernel
theorem dX9_dayGoes_187 : decode cX9_dayGoes 187 = .ok (.ifCond .le 38, 3) := by decide +kernel
theorem dX9_dayGoes_190 : decode cX9_dayGoes 190 = .ok (.aload_n 0, 1) := by decide +kernel
theorem dX9_dayGoes_191 : decode cX9_dayGoes 191 = .ok (.iload_n 1, 1) := by decide +kernel
theorem dX9_dayGoes_192 : decode cX9_dayGoes 192 = .ok (.invokevirtual 327, 3) := by decide +kernel
theorem dX9_dayGoes_195 : decode cX9_dayGoes 195 = .ok (.aload_n 0, 1) := by decide +kernel
theorem dX9_dayGoes_196 : decode cX9_dayGoes 196 = .ok (.getfield 63, 3) := by decide +kernel
theorem dX9_dayGoes_199 : decode cX9_dayGoes 199 = .ok (.iload_n 1, 1) := by decide +kernel
theorem dX9_dayGoes_200 : decode cX9_dayGoes 200 = .ok (.iconst 2, 1) := by decide +kernel
theorem dX9_dayGoes_201 : decode cX9_dayGoes 201 = .ok (.iadd, 1) := by decide +kernel
theorem dX9_dayGoes_202 : decode cX9_dayGoes 202 = .ok (.iaload, 1) := by decide +kernel
theorem dX9_dayGoes_203 : decode cX9_dayGoes 203 = .ok (.iconst 5, 1) := by decide +kernel
theorem dX9_dayGoes_204 : decode cX9_dayGoes 204 = .ok (.idiv, 1) := by decide +kernel
theorem dX9_dayGoes_205 : decode cX9_dayGoes 205 = .ok (.iadd, 1) := by decide +kernel
theorem dX9_dayGoes_206 : decode cX9_dayGoes 206 = .ok (.aload_n 0, 1) := by decide +kernel
theorem dX9_dayGoes_207 : decode cX9_dayGoes 207 = .ok (.iload_n 1, 1) := by decide +kernel
theorem dX9_dayGoes_208 : decode cX9_dayGoes 208 = .ok (.invokevirtual 355, 3) := by decide +kernel
theorem dX9_dayGoes_211 : decode cX9_dayGoes 211 = .ok (.if_icmp .le 14, 3) := by decide +kernel
theorem dX9_dayGoes_214 : decode cX9_dayGoes 214 = .ok (.aload_n 0, 1) := by decide +kernel
theorem dX9_dayGoes_215 : decode cX9_dayGoes 215 = .ok (.iload_n 1, 1) := by decide +kernel
theorem dX9_dayGoes_216 : decode cX9_dayGoes 216 = .ok (.invokevirtual 358, 3) := by decide +kernel
theorem dX9_dayGoes_219 : decode cX9_dayGoes 219 = .ok (.iinc 2 1, 3) := by decide +kernel
theorem dX9_dayGoes_222 : decode cX9_dayGoes 222 = .ok (.goto (-51), 3) := by decide +kernel
theorem dX9_dayGoes_225 : decode cX9_dayGoes 225 = .ok (.iconst 0, 1) := by decide +kernel
theorem dX9_dayGoes_226 : decode cX9_dayGoes 226 = .ok (.istore_n 3, 1) := by decide +kernel
theorem dX9_dayGoes_227 : decode cX9_dayGoes 227 = .ok (.iload_n 3, 1) := by decide +kernel
theorem dX9_dayGoes_228 : decode cX9_dayGoes 228 = .ok (.aload_n 0, 1) := by decide +kernel
theorem dX9_dayGoes_229 : decode cX9_dayGoes 229 = .ok (.getfield 291, 3) := by decide +kernel
theorem dX9_dayGoes_232 : decode cX9_dayGoes 232 = .ok (.if_icmp .ge 29, 3) := by decide +kernel
theorem dX9_dayGoes_235 : decode cX9_dayGoes 235 = .ok (.aload_n 0, 1) := by decide +kernel
theorem dX9_dayGoes_236 : decode cX9_dayGoes 236 = .ok (.getfield 81, 3) := by decide +kernel
theorem dX9_dayGoes_239 : decode cX9_dayGoes 239 = .ok (.iload_n 3, 1) := by decide +kernel
theorem dX9_dayGoes_240 : decode cX9_dayGoes 240 = .ok (.aload_n 0, 1) := by decide +kernel
theorem dX9_dayGoes_241 : decode cX9_dayGoes 241 = .ok (.iload_n 1, 1) := by decide +kernel
theorem dX9_dayGoes_242 : decode cX9_dayGoes 242 = .ok (.iload_n 3, 1) := by decide +kernel
theorem dX9_dayGoes_243 : decode cX9_dayGoes 243 = .ok (.iload_n 2, 1) := by decide +kernel
theorem dX9_dayGoes_244 : decode cX9_dayGoes 244 = .ok (.invokevirtual 361, 3) := by decide +kernel
theorem dX9_dayGoes_247 : decode cX9_dayGoes 247 = .ok (.bipush (-9), 2) := by decide +kernel
theorem dX9_dayGoes_249 : decode cX9_dayGoes 249 = .ok (.bipush 9, 2) := by decide +kernel
theorem dX9_dayGoes_251 : decode cX9_dayGoes 251 = .ok (.invokestatic 340, 3) := by decide +kernel
theorem dX9_dayGoes_254 : decode cX9_dayGoes 254 = .ok (.iastore, 1) := by decide +kernel
theorem dX9_dayGoes_255 : decode cX9_dayGoes 255 = .ok (.iinc 3 1, 3) := by decide +kernel
theorem dX9_dayGoes_258 : decode cX9_dayGoes 258 = .ok (.goto (-31), 3) := by decide +kernel
theorem dX9_dayGoes_261 : decode cX9_dayGoes 261 = .ok (.iconst 0, 1) := by decide +kernel
theorem dX9_dayGoes_262 : decode cX9_dayGoes 262 = .ok (.istore_n 3, 1) := by decide +kernel
theorem dX9_dayGoes_263 : decode cX9_dayGoes 263 = .ok (.iload_n 3, 1) := by decide +kernel
theorem dX9_dayGoes_264 : decode cX9_dayGoes 264 = .ok (.aload_n 0, 1) := by decide +kernel
theorem dX9_dayGoes_265 : decode cX9_dayGoes 265 = .ok (.getfield 291, 3) := by decide +kernel
theorem dX9_dayGoes_268 : decode cX9_dayGoes 268 = .ok (.if_icmp .ge 44, 3) := by decide +kernel
theorem dX9_dayGoes_271 : decode cX9_dayGoes 271 = .ok (.aload_n 0, 1) := by decide +kernel
theorem dX9_dayGoes_272 : decode cX9_dayGoes 272 = .ok (.getfield 63, 3) := by decide +kernel
theorem dX9_dayGoes_275 : decode cX9_dayGoes 275 = .ok (.iload_n 1, 1) := by decide +kernel
theorem dX9_dayGoes_276 : decode cX9_dayGoes 276 = .ok (.bipush 38, 2) := by decide +kernel
theorem dX9_dayGoes_278 : decode cX9_dayGoes 278 = .ok (.iadd, 1) := by decide +kernel
theorem dX9_dayGoes_279 : decode cX9_dayGoes 279 = .ok (.iload_n 3, 1) := by decide +kernel
theorem dX9_dayGoes_280 : decode cX9_dayGoes 280 = .ok (.iadd, 1) := by decide +kernel
theorem dX9_dayGoes_281 : decode cX9_dayGoes 281 = .ok (.aload_n 0, 1) := by decide +kernel
theorem dX9_dayGoes_282 : decode cX9_dayGoes 282 = .ok (.getfield 63, 3) := by decide +kernel
theorem dX9_dayGoes_285 : decode cX9_dayGoes 285 = .ok (.iload_n 1, 1) := by decide +kernel
theorem dX9_dayGoes_286 : decode cX9_dayGoes 286 = .ok (.bipush 38, 2) := by decide +kernel
theorem dX9_dayGoes_288 : decode cX9_dayGoes 288 = .ok (.iadd, 1) := by decide +kernel
theorem dX9_dayGoes_289 : decode cX9_dayGoes 289 = .ok (.iload_n 3, 1) := by decide +kernel
theorem dX9_dayGoes_290 : decode cX9_dayGoes 290 = .ok (.iadd, 1) := by decide +kernel
theorem dX9_dayGoes_291 : decode cX9_dayGoes 291 = .ok (.iaload, 1) := by decide +kernel
theorem dX9_dayGoes_292 : decode cX9_dayGoes 292 = .ok (.aload_n 0, 1) := by decide +kernel
theorem dX9_dayGoes_293 : decode cX9_dayGoes 293 = .ok (.getfield 81, 3) := by decide +kernel
theorem dX9_dayGoes_296 : decode cX9_dayGoes 296 = .ok (.iload_n 3, 1) := by decide +kernel
theorem dX9_dayGoes_297 : decode cX9_dayGoes 297 = .ok (.iaload, 1) := by decide +kernel
theorem dX9_dayGoes_298 : decode cX9_dayGoes 298 = .ok (.iadd, 1) := by decide +kernel
theorem dX9_dayGoes_299 : decode cX9_dayGoes 299 = .ok (.iconst 0, 1) := by decide +kernel
theorem dX9_dayGoes_300 : decode cX9_dayGoes 300 = .ok (.bipush 99, 2) := by decide +kernel
theorem dX9_dayGoes_302 : decode cX9_dayGoes 302 = .ok (.invokestatic 340, 3) := by decide +kernel
theorem dX9_dayGoes_305 : decode cX9_dayGoes 305 = .ok (.iastore, 1) := by decide +kernel
theorem dX9_dayGoes_306 : decode cX9_dayGoes 306 = .ok (.iinc 3 1, 3) := by decide +kernel
theorem dX9_dayGoes_309 : decode cX9_dayGoes 309 = .ok (.goto (-46), 3) := by decide +kernel
theorem dX9_dayGoes_312 : decode cX9_dayGoes 312 = .ok (.aload_n 0, 1) := by decide +kernel
theorem dX9_dayGoes_313 : decode cX9_dayGoes 313 = .ok (.getfield 63, 3) := by decide +kernel
theorem dX9_dayGoes_316 : decode cX9_dayGoes 316 = .ok (.iload_n 1, 1) := by decide +kernel
theorem dX9_dayGoes_317 : decode cX9_dayGoes 317 = .ok (.iconst 5, 1) := by decide +kernel
theorem dX9_dayGoes_318 : decode cX9_dayGoes 318 = .ok (.iadd, 1) := by decide +kernel
theorem dX9_dayGoes_319 : decode cX9_dayGoes 319 = .ok (.iload_n 2, 1) := by decide +kernel
theorem dX9_dayGoes_320 : decode cX9_dayGoes 320 = .ok (.iastore, 1) := by decide +kernel
theorem dX9_dayGoes_321 : decode cX9_dayGoes 321 = .ok (.aload_n 0, 1) := by decide +kernel
theorem dX9_dayGoes_322 : decode cX9_dayGoes 322 = .ok (.dup, 1) := by decide +kernel
theorem dX9_dayGoes_323 : decode cX9_dayGoes 323 = .ok (.getfield 311, 3) := by decide +kernel
theorem dX9_dayGoes_326 : decode cX9_dayGoes 326 = .ok (.iload_n 2, 1) := by decide +kernel
theorem dX9_dayGoes_327 : decode cX9_dayGoes 327 = .ok (.iadd, 1) := by decide +kernel
theorem dX9_dayGoes_328 : decode cX9_dayGoes 328 = .ok (.putfield 311, 3) := by decide +kernel
theorem dX9_dayGoes_331 : decode cX9_dayGoes 331 = .ok (.aload_n 0, 1) := by decide +kernel
theorem dX9_dayGoes_332 : decode cX9_dayGoes 332 = .ok (.getfield 63, 3) := by decide +kernel
theorem dX9_dayGoes_335 : decode cX9_dayGoes 335 = .ok (.iload_n 1, 1) := by decide +kernel
theorem dX9_dayGoes_336 : decode cX9_dayGoes 336 = .ok (.iconst 0, 1) := by decide +kernel
theorem dX9_dayGoes_337 : decode cX9_dayGoes 337 = .ok (.iadd, 1) := by decide +kernel
theorem dX9_dayGoes_338 : decode cX9_dayGoes 338 = .ok (.dup2, 1) := by decide +kernel
theorem dX9_dayGoes_339 : decode cX9_dayGoes 339 = .ok (.iaload, 1) := by decide +kernel
theorem dX9_dayGoes_340 : decode cX9_dayGoes 340 = .ok (.iconst 1, 1) := by decide +kernel
theorem dX9_dayGoes_341 : decode cX9_dayGoes 341 = .ok (.iadd, 1) := by decide +kernel
theorem dX9_dayGoes_342 : decode cX9_dayGoes 342 = .ok (.iastore, 1) := by decide +kernel
theorem dX9_dayGoes_343 : decode cX9_dayGoes 343 = .ok (.return_, 1) := by decide +kernel
theorem dX9_daysGo_0 : decode cX9_daysGo 0 = .ok (.iconst 0, 1) := by decide +kernel
theorem dX9_daysGo_1 : decode cX9_daysGo 1 = .ok (.istore_n 2, 1) := by decide +kernel
theorem dX9_daysGo_2 : decode cX9_daysGo 2 = .ok (.iload_n 2, 1) := by decide +kernel
theorem dX9_daysGo_3 : decode cX9_daysGo 3 = .ok (.iload_n 1, 1) := by decide +kernel
theorem dX9_daysGo_4 : decode cX9_daysGo 4 = .ok (.if_icmp .ge 15, 3) := by decide +kernel
theorem dX9_daysGo_7 : decode cX9_daysGo 7 = .ok (.aload_n 0, 1) := by decide +kernel
theorem dX9_daysGo_8 : decode cX9_daysGo 8 = .ok (.bipush 54, 2) := by decide +kernel
theorem dX9_daysGo_10 : decode cX9_daysGo 10 = .ok (.invokevirtual 364, 3) := by decide +kernel
theorem dX9_daysGo_13 : decode cX9_daysGo 13 = .ok (.iinc 2 1, 3) := by decide +kernel
theorem dX9_daysGo_16 : decode cX9_daysGo 16 = .ok (.goto (-14), 3) := by decide +kernel
theorem dX9_daysGo_19 : decode cX9_daysGo 19 = .ok (.return_, 1) := by decide +kernel
theorem dX9_goesTo_0 : decode cX9_goesTo 0 = .ok (.aload_n 0, 1) := by decide +kernel
theorem dX9_goesTo_1 : decode cX9_goesTo 1 = .ok (.invokevirtual 367, 3) := by decide +kernel
theorem dX9_goesTo_4 : decode cX9_goesTo 4 = .ok (.aload_n 0, 1) := by decide +kernel
theorem dX9_goesTo_5 : decode cX9_goesTo 5 = .ok (.iload_n 1, 1) := by decide +kernel
theorem dX9_goesTo_6 : decode cX9_goesTo 6 = .ok (.invokevirtual 370, 3) := by decide +kernel
theorem dX9_goesTo_9 : decode cX9_goesTo 9 = .ok (.return_, 1) := by decide +kernel
theorem dX9_doubters_0 : decode cX9_doubters 0 = .ok (.iconst 0, 1) := by decide +kernel
theorem dX9_doubters_1 : decode cX9_doubters 1 = .ok (.istore_n 2, 1) := by decide +kernel
theorem dX9_doubters_2 : decode cX9_doubters 2 = .ok (.iconst 0, 1) := by decide +kernel
theorem dX9_doubters_3 : decode cX9_doubters 3 = .ok (.istore_n 3, 1) := by decide +kernel
theorem dX9_doubters_4 : decode cX9_doubters 4 = .ok (.iload_n 3, 1) := by decide +kernel
theorem dX9_doubters_5 : decode cX9_doubters 5 = .ok (.aload_n 0, 1) := by decide +kernel
theorem dX9_doubters_6 : decode cX9_doubters 6 = .ok (.getfield 291, 3) := by decide +kernel
theorem dX9_doubters_9 : decode cX9_doubters 9 = .ok (.if_icmp .ge 35, 3) := by decide +kernel
theorem dX9_doubters_12 : decode cX9_doubters 12 = .ok (.iload_n 2, 1) := by decide +kernel
theorem dX9_doubters_13 : decode cX9_doubters 13 = .ok (.aload_n 0, 1) := by decide +kernel
theorem dX9_doubters_14 : decode cX9_doubters 14 = .ok (.getfield 63, 3) := by decide +kernel
theorem dX9_doubters_17 : decode cX9_doubters 17 = .ok (.iload_n 1, 1) := by decide +kernel
theorem dX9_doubters_18 : decode cX9_doubters 18 = .ok (.bipush 38, 2) := by decide +kernel
theorem dX9_doubters_20 : decode cX9_doubters 20 = .ok (.iadd, 1) := by decide +kernel
theorem dX9_doubters_21 : decode cX9_doubters 21 = .ok (.iload_n 3, 1) := by decide +kernel
theorem dX9_doubters_22 : decode cX9_doubters 22 = .ok (.iadd, 1) := by decide +kernel
theorem dX9_doubters_23 : decode cX9_doubters 23 = .ok (.iaload, 1) := by decide +kernel
theorem dX9_doubters_24 : decode cX9_doubters 24 = .ok (.bipush 10, 2) := by decide +kernel
theorem dX9_doubters_26 : decode cX9_doubters 26 = .ok (.if_icmp .ge 9, 3) := by decide +kernel
theorem dX9_doubters_29 : decode cX9_doubters 29 = .ok (.iconst 1, 1) := by decide +kernel
theorem dX9_doubters_30 : decode cX9_doubters 30 = .ok (.iload_n 3, 1) := by decide +kernel
theorem dX9_doubters_31 : decode cX9_doubters 31 = .ok (.ishl, 1) := by decide +kernel
theorem dX9_doubters_32 : decode cX9_doubters 32 = .ok (.goto 4, 3) := by decide +kernel
theorem dX9_doubters_35 : decode cX9_doubters 35 = .ok (.iconst 0, 1) := by decide +kernel
theorem dX9_doubters_36 : decode cX9_doubters 36 = .ok (.ior, 1) := by decide +kernel
theorem dX9_doubters_37 : decode cX9_doubters 37 = .ok (.istore_n 2, 1) := by decide +kernel
theorem dX9_doubters_38 : decode cX9_doubters 38 = .ok (.iinc 3 1, 3) := by decide +kernel
theorem dX9_doubters_41 : decode cX9_doubters 41 = .ok (.goto (-37), 3) := by decide +kernel
theorem dX9_doubters_44 : decode cX9_doubters 44 = .ok (.iload_n 2, 1) := by decide +kernel
theorem dX9_doubters_45 : decode cX9_doubters 45 = .ok (.ireturn, 1) := by decide +kernel
theorem dX9_hanging_0 : decode cX9_hanging 0 = .ok (.iconst 1, 1) := by decide +kernel
theorem dX9_hanging_1 : decode cX9_hanging 1 = .ok (.iload_n 1, 1) := by decide +kernel
theorem dX9_hanging_2 : decode cX9_hanging 2 = .ok (.ishl, 1) := by decide +kernel
theorem dX9_hanging_3 : decode cX9_hanging 3 = .ok (.istore_n 3, 1) := by decide +kernel
theorem dX9_hanging_4 : decode cX9_hanging 4 = .ok (.iconst 0, 1) := by decide +kernel
theorem dX9_hanging_5 : decode cX9_hanging 5 = .ok (.istore 4, 2) := by decide +kernel
theorem dX9_hanging_7 : decode cX9_hanging 7 = .ok (.iload 4, 2) := by decide +kernel
theorem dX9_hanging_9 : decode cX9_hanging 9 = .ok (.iload_n 3, 1) := by decide +kernel
theorem dX9_hanging_10 : decode cX9_hanging 10 = .ok (.if_icmp .eq 59, 3) := by decide +kernel
theorem dX9_hanging_13 : decode cX9_hanging 13 = .ok (.iload_n 3, 1) := by decide +kernel
theorem dX9_hanging_14 : decode cX9_hanging 14 = .ok (.istore 4, 2) := by decide +kernel
theorem dX9_hanging_16 : decode cX9_hanging 16 = .ok (.iconst 0, 1) := by decide +kernel
theorem dX9_hanging_17 : decode cX9_hanging 17 = .ok (.istore 5, 2) := by decide +kernel
theorem dX9_hanging_19 : decode cX9_hanging 19 = .ok (.iload 5, 2) := by decide +kernel
theorem dX9_hanging_21 : decode cX9_hanging 21 = .ok (.aload_n 0, 1) := by decide +kernel
theorem dX9_hanging_22 : decode cX9_hanging 22 = .ok (.getfield 291, 3) := by decide +kernel
theorem dX9_hanging_25 : decode cX9_hanging 25 = .ok (.if_icmp .ge 41, 3) := by decide +kernel
theorem dX9_hanging_28 : decode cX9_hanging 28 = .ok (.iload_n 3, 1) := by decide +kernel
theorem dX9_hanging_29 : decode cX9_hanging 29 = .ok (.iload 4, 2) := by decide +kernel
theorem dX9_hanging_31 : decode cX9_hanging 31 = .ok (.iload 5, 2) := by decide +kernel
theorem dX9_hanging_33 : decode cX9_hanging 33 = .ok (.ishr, 1) := by decide +kernel
theorem dX9_hanging_34 : decode cX9_hanging 34 = .ok (.iconst 1, 1) := by decide +kernel
theorem dX9_hanging_35 : decode cX9_hanging 35 = .ok (.iand, 1) := by decide +kernel
theorem dX9_hanging_36 : decode cX9_hanging 36 = .ok (.iconst 1, 1) := by decide +kernel
theorem dX9_hanging_37 : decode cX9_hanging 37 = .ok (.if_icmp .ne 20, 3) := by decide +kernel
theorem dX9_hanging_40 : decode cX9_hanging 40 = .ok (.aload_n 0, 1) := by decide +kernel
theorem dX9_hanging_41 : decode cX9_hanging 41 = .ok (.getfield 63, 3) := by decide +kernel
theorem dX9_hanging_44 : decode cX9_hanging 44 = .ok (.bipush 46, 2) := by decide +kernel
theorem dX9_hanging_46 : decode cX9_hanging 46 = .ok (.iload 5, 2) := by decide +kernel
theorem dX9_hanging_48 : decode cX9_hanging 48 = .ok (.iadd, 1) := by decide +kernel
theorem dX9_hanging_49 : decode cX9_hanging 49 = .ok (.iaload, 1) := by decide +kernel
theorem dX9_hanging_50 : decode cX9_hanging 50 = .ok (.iload_n 2, 1) := by decide +kernel
theorem dX9_hanging_51 : decode cX9_hanging 51 = .ok (.iconst (-1), 1) := by decide +kernel
theorem dX9_hanging_52 : decode cX9_hanging 52 = .ok (.ixor, 1) := by decide +kernel
theorem dX9_hanging_53 : decode cX9_hanging 53 = .ok (.iand, 1) := by decide +kernel
theorem dX9_hanging_54 : decode cX9_hanging 54 = .ok (.goto 4, 3) := by decide +kernel
theorem dX9_hanging_57 : decode cX9_hanging 57 = .ok (.iconst 0, 1) := by decide +kernel
theorem dX9_hanging_58 : decode cX9_hanging 58 = .ok (.ior, 1) := by decide +kernel
theorem dX9_hanging_59 : decode cX9_hanging 59 = .ok (.istore_n 3, 1) := by decide +kernel
theorem dX9_hanging_60 : decode cX9_hanging 60 = .ok (.iinc 5 1, 3) := by decide +kernel
theorem dX9_hanging_63 : decode cX9_hanging 63 = .ok (.goto (-44), 3) := by decide +kernel
theorem dX9_hanging_66 : decode cX9_hanging 66 = .ok (.goto (-59), 3) := by decide +kernel
theorem dX9_hanging_69 : decode cX9_hanging 69 = .ok (.iload_n 3, 1) := by decide +kernel
theorem dX9_hanging_70 : decode cX9_hanging 70 = .ok (.ireturn, 1) := by decide +kernel
theorem dX9_parts_0 : decode cX9_parts 0 = .ok (.iconst 0, 1) := by decide +kernel
theorem dX9_parts_1 : decode cX9_parts 1 = .ok (.istore_n 1, 1) := by decide +kernel
theorem dX9_parts_2 : decode cX9_parts 2 = .ok (.iconst 0, 1) := by decide +kernel
theorem dX9_parts_3 : decode cX9_parts 3 = .ok (.istore_n 2, 1) := by decide +kernel
theorem dX9_parts_4 : decode cX9_parts 4 = .ok (.iload_n 2, 1) := by decide +kernel
theorem dX9_parts_5 : decode cX9_parts 5 = .ok (.aload_n 0, 1) := by decide +kernel
theorem dX9_parts_6 : decode cX9_parts 6 = .ok (.getfield 291, 3) := by decide +kernel
theorem dX9_parts_9 : decode cX9_parts 9 = .ok (.if_icmp .ge 32, 3) := by decide +kernel
theorem dX9_parts_12 : decode cX9_parts 12 = .ok (.iload_n 1, 1) := by decide +kernel
theorem dX9_parts_13 : decode cX9_parts 13 = .ok (.aload_n 0, 1) := by decide +kernel
theorem dX9_parts_14 : decode cX9_parts 14 = .ok (.iload_n 2, 1) := by decide +kernel
theorem dX9_parts_15 : decode cX9_parts 15 = .ok (.iconst 0, 1) := by decide +kernel
theorem dX9_parts_16 : decode cX9_parts 16 = .ok (.invokevirtual 373, 3) := by decide +kernel
theorem dX9_parts_19 : decode cX9_parts 19 = .ok (.iconst 1, 1) := by decide +kernel
theorem dX9_parts_20 : decode cX9_parts 20 = .ok (.iload_n 2, 1) := by decide +kernel
theorem dX9_parts_21 : decode cX9_parts 21 = .ok (.ishl, 1) := by decide +kernel
theorem dX9_parts_22 : decode cX9_parts 22 = .ok (.iconst 1, 1) := by decide +kernel
theorem dX9_parts_23 : decode cX9_parts 23 = .ok (.isub, 1) := by decide +kernel
theorem dX9_parts_24 : decode cX9_parts 24 = .ok (.iand, 1) := by decide +kernel
theorem dX9_parts_25 : decode cX9_parts 25 = .ok (.ifCond .ne 7, 3) := by decide +kernel
theorem dX9_parts_28 : decode cX9_parts 28 = .ok (.iconst 1, 1) := by decide +kernel
theorem dX9_parts_29 : decode cX9_parts 29 = .ok (.goto 4, 3) := by decide +kernel
theorem dX9_parts_32 : decode cX9_parts 32 = .ok (.iconst 0, 1) := by decide +kernel
theorem dX9_parts_33 : decode cX9_parts 33 = .ok (.iadd, 1) := by decide +kernel
theorem dX9_parts_34 : decode cX9_parts 34 = .ok (.istore_n 1, 1) := by decide +kernel
theorem dX9_parts_35 : decode cX9_parts 35 = .ok (.iinc 2 1, 3) := by decide +kernel
theorem dX9_parts_38 : decode cX9_parts 38 = .ok (.goto (-34), 3) := by decide +kernel
theorem dX9_parts_41 : decode cX9_parts 41 = .ok (.iload_n 1, 1) := by decide +kernel
theorem dX9_parts_42 : decode cX9_parts 42 = .ok (.ireturn, 1) := by decide +kernel
theorem dX9_even_0 : decode cX9_even 0 = .ok (.aload_n 0, 1) := by decide +kernel
theorem dX9_even_1 : decode cX9_even 1 = .ok (.iconst 0, 1) := by decide +kernel
theorem dX9_even_2 : decode cX9_even 2 = .ok (.bipush 38, 2) := by decide +kernel
theorem dX9_even_4 : decode cX9_even 4 = .ok (.aload_n 0, 1) := by decide +kernel
theorem dX9_even_5 : decode cX9_even 5 = .ok (.getfield 291, 3) := by decide +kernel
theorem dX9_even_8 : decode cX9_even 8 = .ok (.invokevirtual 318, 3) := by decide +kernel
theorem dX9_even_11 : decode cX9_even 11 = .ok (.istore_n 2, 1) := by decide +kernel
theorem dX9_even_12 : decode cX9_even 12 = .ok (.iconst 0, 1) := by decide +kernel
theorem dX9_even_13 : decode cX9_even 13 = .ok (.istore_n 3, 1) := by decide +kernel
theorem dX9_even_14 : decode cX9_even 14 = .ok (.sipush 9999, 3) := by decide +kernel
theorem dX9_even_17 : decode cX9_even 17 = .ok (.istore 4, 2) := by decide +kernel
theorem dX9_even_19 : decode cX9_even 19 = .ok (.iconst 1, 1) := by decide +kernel
theorem dX9_even_20 : decode cX9_even 20 = .ok (.istore 5, 2) := by decide +kernel
theorem dX9_even_22 : decode cX9_even 22 = .ok (.iload 5, 2) := by decide +kernel
theorem dX9_even_24 : decode cX9_even 24 = .ok (.iconst 1, 1) := by decide +kernel
theorem dX9_even_25 : decode cX9_even 25 = .ok (.aload_n 0, 1) := by decide +kernel
theorem dX9_even_26 : decode cX9_even 26 = .ok (.getfield 291, 3) := by decide +kernel
theorem dX9_even_29 : decode cX9_even 29 = .ok (.ishl, 1) := by decide +kernel
theorem dX9_even_30 : decode cX9_even 30 = .ok (.if_icmp .ge 82, 3) := by decide +kernel
theorem dX9_even_33 : decode cX9_even 33 = .ok (.iconst 0, 1) := by decide +kernel
theorem dX9_even_34 : decode cX9_even 34 = .ok (.istore 6, 2) := by decide +kernel
theorem dX9_even_36 : decode cX9_even 36 = .ok (.iconst 0, 1) := by decide +kernel
theorem dX9_even_37 : decode cX9_even 37 = .ok (.istore 7, 2) := by decide +kernel
theorem dX9_even_39 : decode cX9_even 39 = .ok (.iload 7, 2) := by decide +kernel
theorem dX9_even_41 : decode cX9_even 41 = .ok (.aload_n 0, 1) := by decide +kernel
theorem dX9_even_42 : decode cX9_even 42 = .ok (.getfield 291, 3) := by decide +kernel
theorem dX9_even_45 : decode cX9_even 45 = .ok (.if_icmp .ge 32, 3) := by decide +kernel
theorem dX9_even_48 : decode cX9_even 48 = .ok (.iload 6, 2) := by decide +kernel
theorem dX9_even_50 : decode cX9_even 50 = .ok (.iload 5, 2) := by decide +kernel
theorem dX9_even_52 : decode cX9_even 52 = .ok (.iload 7, 2) := by decide +kernel
theorem dX9_even_54 : decode cX9_even 54 = .ok (.ishr, 1) := by decide +kernel
theorem dX9_even_55 : decode cX9_even 55 = .ok (.iconst 1, 1) := by decide +kernel
theorem dX9_even_56 : decode cX9_even 56 = .ok (.iand, 1) := by decide +kernel
theorem dX9_even_57 : decode cX9_even 57 = .ok (.aload_n 0, 1) := by decide +kernel
theorem dX9_even_58 : decode cX9_even 58 = .ok (.getfield 63, 3) := by decide +kernel
theorem dX9_even_61 : decode cX9_even 61 = .ok (.bipush 38, 2) := by decide +kernel
theorem dX9_even_63 : decode cX9_even 63 = .ok (.iload 7, 2) := by decide +kernel
theorem dX9_even_65 : decode cX9_even 65 = .ok (.iadd, 1) := by decide +kernel
theorem dX9_even_66 : decode cX9_even 66 = .ok (.iaload, 1) := by decide +kernel
theorem dX9_even_67 : decode cX9_even 67 = .ok (.imul, 1) := by decide +kernel
theorem dX9_even_68 : decode cX9_even 68 = .ok (.iadd, 1) := by decide +kernel
theorem dX9_even_69 : decode cX9_even 69 = .ok (.istore 6, 2) := by decide +kernel
theorem dX9_even_71 : decode cX9_even 71 = .ok (.iinc 7 1, 3) := by decide +kernel
theorem dX9_even_74 : decode cX9_even 74 = .ok (.goto (-35), 3) := by decide +kernel
theorem dX9_even_77 : decode cX9_even 77 = .ok (.iconst 2, 1) := by decide +kernel
theorem dX9_even_78 : decode cX9_even 78 = .ok (.iload 6, 2) := by decide +kernel
theorem dX9_even_80 : decode cX9_even 80 = .ok (.imul, 1) := by decide +kernel
theorem dX9_even_81 : decode cX9_even 81 = .ok (.iload_n 2, 1) := by decide +kernel
theorem dX9_even_82 : decode cX9_even 82 = .ok (.invokestatic 376, 3) := by decide +kernel
theorem dX9_even_85 : decode cX9_even 85 = .ok (.iload 4, 2) := by decide +kernel
theorem dX9_even_87 : decode cX9_even 87 = .ok (.if_icmp .lt 6, 3) := by decide +kernel
theorem dX9_even_90 : decode cX9_even 90 = .ok (.goto 16, 3) := by decide +kernel
theorem dX9_even_93 : decode cX9_even 93 = .ok (.iload 5, 2) := by decide +kernel
theorem dX9_even_95 : decode cX9_even 95 = .ok (.istore_n 3, 1) := by decide +kernel
theorem dX9_even_96 : decode cX9_even 96 = .ok (.iconst 2, 1) := by decide +kernel
theorem dX9_even_97 : decode cX9_even 97 = .ok (.iload 6, 2) := by decide +kernel
theorem dX9_even_99 : decode cX9_even 99 = .ok (.imul, 1) := by decide +kernel
theorem dX9_even_100 : decode cX9_even 100 = .ok (.iload_n 2, 1) := by decide +kernel
theorem dX9_even_101 : decode cX9_even 101 = .ok (.invokestatic 376, 3) := by decide +kernel
theorem dX9_even_104 : decode cX9_even 104 = .ok (.istore 4, 2) := by decide +kernel
theorem dX9_even_106 : decode cX9_even 106 = .ok (.iinc 5 2, 3) := by decide +kernel
theorem dX9_even_109 : decode cX9_even 109 = .ok (.goto (-87), 3) := by decide +kernel
theorem dX9_even_112 : decode cX9_even 112 = .ok (.iload_n 1, 1) := by decide +kernel
theorem dX9_even_113 : decode cX9_even 113 = .ok (.ifCond .eq 7, 3) := by decide +kernel
theorem dX9_even_116 : decode cX9_even 116 = .ok (.iload_n 3, 1) := by decide +kernel
theorem dX9_even_117 : decode cX9_even 117 = .ok (.goto 17, 3) := by decide +kernel
theorem dX9_even_120 : decode cX9_even 120 = .ok (.iload 4, 2) := by decide +kernel
theorem dX9_even_122 : decode cX9_even 122 = .ok (.sipush 9999, 3) := by decide +kernel
theorem dX9_even_125 : decode cX9_even 125 = .ok (.if_icmp .ne 7, 3) := by decide +kernel
theorem dX9_even_128 : decode cX9_even 128 = .ok (.iconst 0, 1) := by decide +kernel
theorem dX9_even_129 : decode cX9_even 129 = .ok (.goto 5, 3) := by decide +kernel
theorem dX9_even_132 : decode cX9_even 132 = .ok (.iload 4, 2) := by decide +kernel
theorem dX9_even_134 : decode cX9_even 134 = .ok (.ireturn, 1) := by decide +kernel
theorem dX9_bears_0 : decode cX9_bears 0 = .ok (.iconst 0, 1) := by decide +kernel
theorem dX9_bears_1 : decode cX9_bears 1 = .ok (.istore_n 1, 1) := by decide +kernel
theorem dX9_bears_2 : decode cX9_bears 2 = .ok (.aload_n 0, 1) := by decide +kernel
theorem dX9_bears_3 : decode cX9_bears 3 = .ok (.invokevirtual 367, 3) := by decide +kernel
theorem dX9_bears_6 : decode cX9_bears 6 = .ok (.iconst 1, 1) := by decide +kernel
theorem dX9_bears_7 : decode cX9_bears 7 = .ok (.istore_n 2, 1) := by decide +kernel
theorem dX9_bears_8 : decode cX9_bears 8 = .ok (.aload_n 0, 1) := by decide +kernel
theorem dX9_bears_9 : decode cX9_bears 9 = .ok (.getfield 63, 3) := by decide +kernel
theorem dX9_bears_12 : decode cX9_bears 12 = .ok (.bipush 57, 2) := by decide +kernel
theorem dX9_bears_14 : decode cX9_bears 14 = .ok (.iaload, 1) := by decide +kernel
theorem dX9_bears_15 : decode cX9_bears 15 = .ok (.aload_n 0, 1) := by decide +kernel
theorem dX9_bears_16 : decode cX9_bears 16 = .ok (.getfield 63, 3) := by decide +kernel
theorem dX9_bears_19 : decode cX9_bears 19 = .ok (.bipush 58, 2) := by decide +kernel
theorem dX9_bears_21 : decode cX9_bears 21 = .ok (.iaload, 1) := by decide +kernel
theorem dX9_bears_22 : decode cX9_bears 22 = .ok (.if_icmp .ge 46, 3) := by decide +kernel
theorem dX9_bears_25 : decode cX9_bears 25 = .ok (.aload_n 0, 1) := by decide +kernel
theorem dX9_bears_26 : decode cX9_bears 26 = .ok (.getfield 63, 3) := by decide +kernel
theorem dX9_bears_29 : decode cX9_bears 29 = .ok (.bipush 57, 2) := by decide +kernel
theorem dX9_bears_31 : decode cX9_bears 31 = .ok (.dup2, 1) := by decide +kernel
theorem dX9_bears_32 : decode cX9_bears 32 = .ok (.iaload, 1) := by decide +kernel
theorem dX9_bears_33 : decode cX9_bears 33 = .ok (.iconst 1, 1) := by decide +kernel
theorem dX9_bears_34 : decode cX9_bears 34 = .ok (.iadd, 1) := by decide +kernel
theorem dX9_bears_35 : decode cX9_bears 35 = .ok (.iastore, 1) := by decide +kernel
theorem dX9_bears_36 : decode cX9_bears 36 = .ok (.aload_n 0, 1) := by decide +kernel
theorem dX9_bears_37 : decode cX9_bears 37 = .ok (.bipush 54, 2) := by decide +kernel
theorem dX9_bears_39 : decode cX9_bears 39 = .ok (.invokevirtual 327, 3) := by decide +kernel
theorem dX9_bears_42 : decode cX9_bears 42 = .ok (.aload_n 0, 1) := by decide +kernel
theorem dX9_bears_43 : decode cX9_bears 43 = .ok (.getfield 63, 3) := by decide +kernel
theorem dX9_bears_46 : decode cX9_bears 46 = .ok (.iconst 2, 1) := by decide +kernel
theorem dX9_bears_47 : decode cX9_bears 47 = .ok (.iaload, 1) := by decide +kernel
theorem dX9_bears_48 : decode cX9_bears 48 = .ok (.iconst 5, 1) := by decide +kernel
theorem dX9_bears_49 : decode cX9_bears 49 = .ok (.idiv, 1) := by decide +kernel
theorem dX9_bears_50 : decode cX9_bears 50 = .ok (.iadd, 1) := by decide +kernel
theorem dX9_bears_51 : decode cX9_bears 51 = .ok (.aload_n 0, 1) := by decide +kernel
theorem dX9_bears_52 : decode cX9_bears 52 = .ok (.bipush 54, 2) := by decide +kernel
theorem dX9_bears_54 : decode cX9_bears 54 = .ok (.invokevirtual 355, 3) := by decide +kernel
theorem dX9_bears_57 : decode cX9_bears 57 = .ok (.if_icmp .gt 5, 3) := by decide +kernel
theorem dX9_bears_60 : decode cX9_bears 60 = .ok (.iload_n 2, 1) := by decide +kernel
theorem dX9_bears_61 : decode cX9_bears 61 = .ok (.istore_n 1, 1) := by decide +kernel
theorem dX9_bears_62 : decode cX9_bears 62 = .ok (.iinc 2 1, 3) := by decide +kernel
theorem dX9_bears_65 : decode cX9_bears 65 = .ok (.goto (-57), 3) := by decide +kernel
theorem dX9_bears_68 : decode cX9_bears 68 = .ok (.iload_n 1, 1) := by decide +kernel
theorem dX9_bears_69 : decode cX9_bears 69 = .ok (.ireturn, 1) := by decide +kernel
theorem dX9_count_0 : decode cX9_count 0 = .ok (.aload_n 0, 1) := by decide +kernel
theorem dX9_count_1 : decode cX9_count 1 = .ok (.iconst 0, 1) := by decide +kernel
theorem dX9_count_2 : decode cX9_count 2 = .ok (.putfield 102, 3) := by decide +kernel
theorem dX9_count_5 : decode cX9_count 5 = .ok (.aload_n 0, 1) := by decide +kernel
theorem dX9_count_6 : decode cX9_count 6 = .ok (.iload_n 1, 1) := by decide +kernel
theorem dX9_count_7 : decode cX9_count 7 = .ok (.iconst 0, 1) := by decide +kernel
theorem dX9_count_8 : decode cX9_count 8 = .ok (.bipush 21, 2) := by decide +kernel
theorem dX9_count_10 : decode cX9_count 10 = .ok (.invokestatic 379, 3) := by decide +kernel
theorem dX9_count_13 : decode cX9_count 13 = .ok (.iconst 1, 1) := by decide +kernel
theorem dX9_count_14 : decode cX9_count 14 = .ok (.invokevirtual 284, 3) := by decide +kernel
theorem dX9_count_17 : decode cX9_count 17 = .ok (.ifCond .ne 5, 3) := by decide +kernel
theorem dX9_count_20 : decode cX9_count 20 = .ok (.iconst 0, 1) := by decide +kernel
theorem dX9_count_21 : decode cX9_count 21 = .ok (.ireturn, 1) := by decide +kernel
theorem dX9_count_22 : decode cX9_count 22 = .ok (.iload_n 1, 1) := by decide +kernel
theorem dX9_count_23 : decode cX9_count 23 = .ok (.tableswitch 233 0 18 #[89, 96, 110, 115, 122, 129, 136, 142, 148, 169, 174, 188, 195, 200, 206, 212, 218, 223, 228], 89) := by decide +kernel
theorem dX9_count_112 : decode cX9_count 112 = .ok (.aload_n 0, 1) := by decide +kernel
theorem dX9_count_113 : decode cX9_count 113 = .ok (.getfield 63, 3) := by decide +kernel
theorem dX9_count_116 : decode cX9_count 116 = .ok (.iconst 3, 1) := by decide +kernel
theorem dX9_count_117 : decode cX9_count 117 = .ok (.iaload, 1) := by decide +kernel
theorem dX9_count_118 : decode cX9_count 118 = .ok (.ireturn, 1) := by decide +kernel
theorem dX9_count_119 : decode cX9_count 119 = .ok (.aload_n 0, 1) := by decide +kernel
theorem dX9_count_120 : decode cX9_count 120 = .ok (.getfield 63, 3) := by decide +kernel
theorem dX9_count_123 : decode cX9_count 123 = .ok (.iconst 4, 1) := by decide +kernel
theorem dX9_count_124 : decode cX9_count 124 = .ok (.iaload, 1) := by decide +kernel
theorem dX9_count_125 : decode cX9_count 125 = .ok (.aload_n 0, 1) := by decide +kernel
theorem dX9_count_126 : decode cX9_count 126 = .ok (.getfield 63, 3) := by decide +kernel
theorem dX9_count_129 : decode cX9_count 129 = .ok (.iconst 3, 1) := by decide +kernel
theorem dX9_count_130 : decode cX9_count 130 = .ok (.iaload, 1) := by decide +kernel
theorem dX9_count_131 : decode cX9_count 131 = .ok (.isub, 1) := by decide +kernel
theorem dX9_count_132 : decode cX9_count 132 = .ok (.ireturn, 1) := by decide +kernel
theorem dX9_count_133 : decode cX9_count 133 = .ok (.aload_n 0, 1) := by decide +kernel
theorem dX9_count_134 : decode cX9_count 134 = .ok (.getfield 291, 3) := by decide +kernel
theorem dX9_count_137 : decode cX9_count 137 = .ok (.ireturn, 1) := by decide +kernel
theorem dX9_count_138 : decode cX9_count 138 = .ok (.aload_n 0, 1) := by decide +kernel
theorem dX9_count_139 : decode cX9_count 139 = .ok (.getfield 63, 3) := by decide +kernel
theorem dX9_count_142 : decode cX9_count 142 = .ok (.iconst 0, 1) := by decide +kernel
theorem dX9_count_143 : decode cX9_count 143 = .ok (.iaload, 1) := by decide +kernel
theorem dX9_count_144 : decode cX9_count 144 = .ok (.ireturn, 1) := by decide +kernel
theorem dX9_count_145 : decode cX9_count 145 = .ok (.aload_n 0, 1) := by decide +kernel
theorem dX9_count_146 : decode cX9_count 146 = .ok (.getfield 63, 3) := by decide +kernel
theorem dX9_count_149 : decode cX9_count 149 = .ok (.iconst 1, 1) := by decide +kernel
theorem dX9_count_150 : decode cX9_count 150 = .ok (.iaload, 1) := by decide +kernel
theorem dX9_count_151 : decode cX9_count 151 = .ok (.ireturn, 1) := by decide +kernel
theorem dX9_count_152 : decode cX9_count 152 = .ok (.aload_n 0, 1) := by decide +kernel
theorem dX9_count_153 : decode cX9_count 153 = .ok (.getfield 63, 3) := by decide +kernel
theorem dX9_count_156 : decode cX9_count 156 = .ok (.iconst 2, 1) := by decide +kernel
theorem dX9_count_157 : decode cX9_count 157 = .ok (.iaload, 1) := by decide +kernel
theorem dX9_count_158 : decode cX9_count 158 = .ok (.ireturn, 1) := by decide +kernel
theorem dX9_count_159 : decode cX9_count 159 = .ok (.aload_n 0, 1) := by decide +kernel
theorem dX9_count_160 : decode cX9_count 160 = .ok (.iconst 0, 1) := by decide +kernel
theorem dX9_count_161 : decode cX9_count 161 = .ok (.invokevirtual 327, 3) := by decide +kernel
theorem dX9_count_164 : decode cX9_count 164 = .ok (.ireturn, 1) := by decide +kernel
theorem dX9_count_165 : decode cX9_count 165 = .ok (.aload_n 0, 1) := by decide +kernel
theorem dX9_count_166 : decode cX9_count 166 = .ok (.iconst 0, 1) := by decide +kernel
theorem dX9_count_167 : decode cX9_count 167 = .ok (.invokevirtual 355, 3) := by decide +kernel
theorem dX9_count_170 : decode cX9_count 170 = .ok (.ireturn, 1) := by decide +kernel
theorem dX9_count_171 : decode cX9_count 171 = .ok (.aload_n 0, 1) := by decide +kernel
theorem dX9_count_172 : decode cX9_count 172 = .ok (.iconst 0, 1) := by decide +kernel
theorem dX9_count_173 : decode cX9_count 173 = .ok (.invokevirtual 355, 3) := by decide +kernel
theorem dX9_count_176 : decode cX9_count 176 = .ok (.aload_n 0, 1) := by decide +kernel
theorem dX9_count_177 : decode cX9_count 177 = .ok (.iconst 0, 1) := by decide +kernel
theorem dX9_count_178 : decode cX9_count 178 = .ok (.invokevirtual 327, 3) := by decide +kernel
theorem dX9_count_181 : decode cX9_count 181 = .ok (.isub, 1) := by decide +kernel
theorem dX9_count_182 : decode cX9_count 182 = .ok (.aload_n 0, 1) := by decide +kernel
theorem dX9_count_183 : decode cX9_count 183 = .ok (.getfield 63, 3) := by decide +kernel
theorem dX9_count_186 : decode cX9_count 186 = .ok (.iconst 2, 1) := by decide +kernel
theorem dX9_count_187 : decode cX9_count 187 = .ok (.iaload, 1) := by decide +kernel
theorem dX9_count_188 : decode cX9_count 188 = .ok (.iconst 5, 1) := by decide +kernel
theorem dX9_count_189 : decode cX9_count 189 = .ok (.idiv, 1) := by decide +kernel
theorem dX9_count_190 : decode cX9_count 190 = .ok (.isub, 1) := by decide +kernel
theorem dX9_count_191 : decode cX9_count 191 = .ok (.ireturn, 1) := by decide +kernel
theorem dX9_count_192 : decode cX9_count 192 = .ok (.aload_n 0, 1) := by decide +kernel
theorem dX9_count_193 : decode cX9_count 193 = .ok (.invokevirtual 383, 3) := by decide +kernel
theorem dX9_count_196 : decode cX9_count 196 = .ok (.ireturn, 1) := by decide +kernel
theorem dX9_count_197 : decode cX9_count 197 = .ok (.aload_n 0, 1) := by decide +kernel
theorem dX9_count_198 : decode cX9_count 198 = .ok (.iconst 0, 1) := by decide +kernel
theorem dX9_count_199 : decode cX9_count 199 = .ok (.invokevirtual 352, 3) := by decide +kernel
theorem dX9_count_202 : decode cX9_count 202 = .ok (.ifCond .eq 7, 3) := by decide +kernel
theorem dX9_count_205 : decode cX9_count 205 = .ok (.iconst 1, 1) := by decide +kernel
theorem dX9_count_206 : decode cX9_count 206 = .ok (.goto 4, 3) := by decide +kernel
theorem dX9_count_209 : decode cX9_count 209 = .ok (.iconst 0, 1) := by decide +kernel
theorem dX9_count_210 : decode cX9_count 210 = .ok (.ireturn, 1) := by decide +kernel
theorem dX9_count_211 : decode cX9_count 211 = .ok (.aload_n 0, 1) := by decide +kernel
theorem dX9_count_212 : decode cX9_count 212 = .ok (.getfield 63, 3) := by decide +kernel
theorem dX9_count_215 : decode cX9_count 215 = .ok (.iconst 5, 1) := by decide +kernel
theorem dX9_count_216 : decode cX9_count 216 = .ok (.iaload, 1) := by decide +kernel
theorem dX9_count_217 : decode cX9_count 217 = .ok (.ireturn, 1) := by decide +kernel
theorem dX9_count_218 : decode cX9_count 218 = .ok (.aload_n 0, 1) := by decide +kernel
theorem dX9_count_219 : decode cX9_count 219 = .ok (.invokevirtual 386, 3) := by decide +kernel
theorem dX9_count_222 : decode cX9_count 222 = .ok (.ireturn, 1) := by decide +kernel
theorem dX9_count_223 : decode cX9_count 223 = .ok (.aload_n 0, 1) := by decide +kernel
theorem dX9_count_224 : decode cX9_count 224 = .ok (.iconst 0, 1) := by decide +kernel
theorem dX9_count_225 : decode cX9_count 225 = .ok (.invokevirtual 389, 3) := by decide +kernel
theorem dX9_count_228 : decode cX9_count 228 = .ok (.ireturn, 1) := by decide +kernel
theorem dX9_count_229 : decode cX9_count 229 = .ok (.aload_n 0, 1) := by decide +kernel
theorem dX9_count_230 : decode cX9_count 230 = .ok (.iconst 1, 1) := by decide +kernel
theorem dX9_count_231 : decode cX9_count 231 = .ok (.invokevirtual 389, 3) := by decide +kernel
theorem dX9_count_234 : decode cX9_count 234 = .ok (.ireturn, 1) := by decide +kernel
theorem dX9_count_235 : decode cX9_count 235 = .ok (.aload_n 0, 1) := by decide +kernel
theorem dX9_count_236 : decode cX9_count 236 = .ok (.iconst 0, 1) := by decide +kernel
theorem dX9_count_237 : decode cX9_count 237 = .ok (.invokevirtual 393, 3) := by decide +kernel
theorem dX9_count_240 : decode cX9_count 240 = .ok (.ireturn, 1) := by decide +kernel
theorem dX9_count_241 : decode cX9_count 241 = .ok (.aload_n 0, 1) := by decide +kernel
theorem dX9_count_242 : decode cX9_count 242 = .ok (.getfield 301, 3) := by decide +kernel
theorem dX9_count_245 : decode cX9_count 245 = .ok (.ireturn, 1) := by decide +kernel
theorem dX9_count_246 : decode cX9_count 246 = .ok (.aload_n 0, 1) := by decide +kernel
theorem dX9_count_247 : decode cX9_count 247 = .ok (.getfield 304, 3) := by decide +kernel
theorem dX9_count_250 : decode cX9_count 250 = .ok (.ireturn, 1) := by decide +kernel
theorem dX9_count_251 : decode cX9_count 251 = .ok (.aload_n 0, 1) := by decide +kernel
theorem dX9_count_252 : decode cX9_count 252 = .ok (.getfield 105, 3) := by decide +kernel
theorem dX9_count_255 : decode cX9_count 255 = .ok (.ireturn, 1) := by decide +kernel
theorem dX9_count_256 : decode cX9_count 256 = .ok (.aload_n 0, 1) := by decide +kernel
theorem dX9_count_257 : decode cX9_count 257 = .ok (.getfield 38, 3) := by decide +kernel
theorem dX9_count_260 : decode cX9_count 260 = .ok (.iload_n 1, 1) := by decide +kernel
theorem dX9_count_261 : decode cX9_count 261 = .ok (.bipush 19, 2) := by decide +kernel
theorem dX9_count_263 : decode cX9_count 263 = .ok (.isub, 1) := by decide +kernel
theorem dX9_count_264 : decode cX9_count 264 = .ok (.iaload, 1) := by decide +kernel
theorem dX9_count_265 : decode cX9_count 265 = .ok (.ireturn, 1) := by decide +kernel
theorem dX9_isWard_0 : decode cX9_isWard 0 = .ok (.aload_n 0, 1) := by decide +kernel
theorem dX9_isWard_1 : decode cX9_isWard 1 = .ok (.iload_n 1, 1) := by decide +kernel
theorem dX9_isWard_2 : decode cX9_isWard 2 = .ok (.ifCond .lt 15, 3) := by decide +kernel
theorem dX9_isWard_5 : decode cX9_isWard 5 = .ok (.iload_n 1, 1) := by decide +kernel
theorem dX9_isWard_6 : decode cX9_isWard 6 = .ok (.aload_n 0, 1) := by decide +kernel
theorem dX9_isWard_7 : decode cX9_isWard 7 = .ok (.getfield 291, 3) := by decide +kernel
theorem dX9_isWard_10 : decode cX9_isWard 10 = .ok (.if_icmp .ge 7, 3) := by decide +kernel
theorem dX9_isWard_13 : decode cX9_isWard 13 = .ok (.iconst 1, 1) := by decide +kernel
theorem dX9_isWard_14 : decode cX9_isWard 14 = .ok (.goto 4, 3) := by decide +kernel
theorem dX9_isWard_17 : decode cX9_isWard 17 = .ok (.iconst 0, 1) := by decide +kernel
theorem dX9_isWard_18 : decode cX9_isWard 18 = .ok (.iconst 1, 1) := by decide +kernel
theorem dX9_isWard_19 : decode cX9_isWard 19 = .ok (.invokevirtual 284, 3) := by decide +kernel
theorem dX9_isWard_22 : decode cX9_isWard 22 = .ok (.ireturn, 1) := by decide +kernel
theorem dX9_isWhat_0 : decode cX9_isWhat 0 = .ok (.aload_n 0, 1) := by decide +kernel
theorem dX9_isWhat_1 : decode cX9_isWhat 1 = .ok (.iload_n 1, 1) := by decide +kernel
theorem dX9_isWhat_2 : decode cX9_isWhat 2 = .ok (.iconst 0, 1) := by decide +kernel
theorem dX9_isWhat_3 : decode cX9_isWhat 3 = .ok (.iload_n 2, 1) := by decide +kernel
theorem dX9_isWhat_4 : decode cX9_isWhat 4 = .ok (.invokestatic 379, 3) := by decide +kernel
theorem dX9_isWhat_7 : decode cX9_isWhat 7 = .ok (.iconst 1, 1) := by decide +kernel
theorem dX9_isWhat_8 : decode cX9_isWhat 8 = .ok (.invokevirtual 284, 3) := by decide +kernel
theorem dX9_isWhat_11 : decode cX9_isWhat 11 = .ok (.ireturn, 1) := by decide +kernel
theorem dX9_isSoon_0 : decode cX9_isSoon 0 = .ok (.aload_n 0, 1) := by decide +kernel
theorem dX9_isSoon_1 : decode cX9_isSoon 1 = .ok (.iload_n 1, 1) := by decide +kernel
theorem dX9_isSoon_2 : decode cX9_isSoon 2 = .ok (.iload_n 2, 1) := by decide +kernel
theorem dX9_isSoon_3 : decode cX9_isSoon 3 = .ok (.bipush 60, 2) := by decide +kernel
theorem dX9_isSoon_5 : decode cX9_isSoon 5 = .ok (.invokestatic 379, 3) := by decide +kernel
theorem dX9_isSoon_8 : decode cX9_isSoon 8 = .ok (.iload_n 3, 1) := by decide +kernel
theorem dX9_isSoon_9 : decode cX9_isSoon 9 = .ok (.invokevirtual 284, 3) := by decide +kernel
theorem dX9_isSoon_12 : decode cX9_isSoon 12 = .ok (.ireturn, 1) := by decide +kernel
theorem dX9_course_0 : decode cX9_course 0 = .ok (.aload_n 0, 1) := by decide +kernel
theorem dX9_course_1 : decode cX9_course 1 = .ok (.iconst 0, 1) := by decide +kernel
theorem dX9_course_2 : decode cX9_course 2 = .ok (.putfield 102, 3) := by decide +kernel
theorem dX9_course_5 : decode cX9_course 5 = .ok (.aload_n 0, 1) := by decide +kernel
theorem dX9_course_6 : decode cX9_course 6 = .ok (.iload_n 1, 1) := by decide +kernel
theorem dX9_course_7 : decode cX9_course 7 = .ok (.ifCond .lt 17, 3) := by decide +kernel
theorem dX9_course_10 : decode cX9_course 10 = .ok (.iload_n 1, 1) := by decide +kernel
theorem dX9_course_11 : decode cX9_course 11 = .ok (.aload_n 0, 1) := by decide +kernel
theorem dX9_course_12 : decode cX9_course 12 = .ok (.getfield 63, 3) := by decide +kernel
theorem dX9_course_15 : decode cX9_course 15 = .ok (.iconst 4, 1) := by decide +kernel
theorem dX9_course_16 : decode cX9_course 16 = .ok (.iaload, 1) := by decide +kernel
theorem dX9_course_17 : decode cX9_course 17 = .ok (.if_icmp .ge 7, 3) := by decide +kernel
theorem dX9_course_20 : decode cX9_course 20 = .ok (.iconst 1, 1) := by decide +kernel
theorem dX9_course_21 : decode cX9_course 21 = .ok (.goto 4, 3) := by decide +kernel
theorem dX9_course_24 : decode cX9_course 24 = .ok (.iconst 0, 1) := by decide +kernel
theorem dX9_course_25 : decode cX9_course 25 = .ok (.iconst 1, 1) := by decide +kernel
theorem dX9_course_26 : decode cX9_course 26 = .ok (.invokevirtual 284, 3) := by decide +kernel
theorem dX9_course_29 : decode cX9_course 29 = .ok (.ifCond .eq 12, 3) := by decide +kernel
theorem dX9_course_32 : decode cX9_course 32 = .ok (.aload_n 0, 1) := by decide +kernel
theorem dX9_course_33 : decode cX9_course 33 = .ok (.iload_n 2, 1) := by decide +kernel
theorem dX9_course_34 : decode cX9_course 34 = .ok (.iconst 2, 1) := by decide +kernel
theorem dX9_course_35 : decode cX9_course 35 = .ok (.invokevirtual 396, 3) := by decide +kernel
theorem dX9_course_38 : decode cX9_course 38 = .ok (.ifCond .ne 5, 3) := by decide +kernel
theorem dX9_course_41 : decode cX9_course 41 = .ok (.iconst 0, 1) := by decide +kernel
theorem dX9_course_42 : decode cX9_course 42 = .ok (.ireturn, 1) := by decide +kernel
theorem dX9_course_43 : decode cX9_course 43 = .ok (.iload_n 2, 1) := by decide +kernel
theorem dX9_course_44 : decode cX9_course 44 = .ok (.ifCond .ne 15, 3) := by decide +kernel
theorem dX9_course_47 : decode cX9_course 47 = .ok (.aload_n 0, 1) := by decide +kernel
theorem dX9_course_48 : decode cX9_course 48 = .ok (.getfield 63, 3) := by decide +kernel
theorem dX9_course_51 : decode cX9_course 51 = .ok (.bipush 6, 2) := by decide +kernel
theorem dX9_course_53 : decode cX9_course 53 = .ok (.iload_n 1, 1) := by decide +kernel
theorem dX9_course_54 : decode cX9_course 54 = .ok (.iadd, 1) := by decide +kernel
theorem dX9_course_55 : decode cX9_course 55 = .ok (.iaload, 1) := by decide +kernel
theorem dX9_course_56 : decode cX9_course 56 = .ok (.goto 35, 3) := by decide +kernel
theorem dX9_course_59 : decode cX9_course 59 = .ok (.iload_n 2, 1) := by decide +kernel
theorem dX9_course_60 : decode cX9_course 60 = .ok (.iconst 1, 1) := by decide +kernel
theorem dX9_course_61 : decode cX9_course 61 = .ok (.if_icmp .ne 15, 3) := by decide +kernel
theorem dX9_course_64 : decode cX9_course 64 = .ok (.aload_n 0, 1) := by decide +kernel
theorem dX9_course_65 : decode cX9_course 65 = .ok (.getfield 63, 3) := by decide +kernel
theorem dX9_course_68 : decode cX9_course 68 = .ok (.bipush 22, 2) := by decide +kernel
theorem dX9_course_70 : decode cX9_course 70 = .ok (.iload_n 1, 1) := by decide +kernel
theorem dX9_course_71 : decode cX9_course 71 = .ok (.iadd, 1) := by decide +kernel
theorem dX9_course_72 : decode cX9_course 72 = .ok (.iaload, 1) := by decide +kernel
theorem dX9_course_73 : decode cX9_course 73 = .ok (.goto 18, 3) := by decide +kernel
theorem dX9_course_76 : decode cX9_course 76 = .ok (.iload_n 1, 1) := by decide +kernel
theorem dX9_course_77 : decode cX9_course 77 = .ok (.aload_n 0, 1) := by decide +kernel
theorem dX9_course_78 : decode cX9_course 78 = .ok (.getfield 63, 3) := by decide +kernel
theorem dX9_course_81 : decode cX9_course 81 = .ok (.iconst 3, 1) := by decide +kernel
theorem dX9_course_82 : decode cX9_course 82 = .ok (.iaload, 1) := by decide +kernel
theorem dX9_course_83 : decode cX9_course 83 = .ok (.if_icmp .ge 7, 3) := by decide +kernel
theorem dX9_course_86 : decode cX9_course 86 = .ok (.iconst 1, 1) := by decide +kernel
theorem dX9_course_87 : decode cX9_course 87 = .ok (.goto 4, 3) := by decide +kernel
theorem dX9_course_90 : decode cX9_course 90 = .ok (.iconst 0, 1) := by decide +kernel
theorem dX9_course_91 : decode cX9_course 91 = .ok (.ireturn, 1) := by decide +kernel
theorem dX9_ward_0 : decode cX9_ward 0 = .ok (.aload_n 0, 1) := by decide +kernel
theorem dX9_ward_1 : decode cX9_ward 1 = .ok (.iconst 0, 1) := by decide +kernel
theorem dX9_ward_2 : decode cX9_ward 2 = .ok (.putfield 102, 3) := by decide +kernel
theorem dX9_ward_5 : decode cX9_ward 5 = .ok (.aload_n 0, 1) := by decide +kernel
theorem dX9_ward_6 : decode cX9_ward 6 = .ok (.iload_n 1, 1) := by decide +kernel
theorem dX9_ward_7 : decode cX9_ward 7 = .ok (.invokevirtual 400, 3) := by decide +kernel
theorem dX9_ward_10 : decode cX9_ward 10 = .ok (.ifCond .eq 12, 3) := by decide +kernel
theorem dX9_ward_13 : decode cX9_ward 13 = .ok (.aload_n 0, 1) := by decide +kernel
theorem dX9_ward_14 : decode cX9_ward 14 = .ok (.iload_n 2, 1) := by decide +kernel
theorem dX9_ward_15 : decode cX9_ward 15 = .ok (.iconst 3, 1) := by decide +kernel
theorem dX9_ward_16 : decode cX9_ward 16 = .ok (.invokevirtual 396, 3) := by decide +kernel
theorem dX9_ward_19 : decode cX9_ward 19 = .ok (.ifCond .ne 5, 3) := by decide +kernel
theorem dX9_ward_22 : decode cX9_ward 22 = .ok (.iconst 0, 1) := by decide +kernel
theorem dX9_ward_23 : decode cX9_ward 23 = .ok (.ireturn, 1) := by decide +kernel
theorem dX9_ward_24 : decode cX9_ward 24 = .ok (.iload_n 2, 1) := by decide +kernel
theorem dX9_ward_25 : decode cX9_ward 25 = .ok (.ifCond .ne 15, 3) := by decide +kernel
theorem dX9_ward_28 : decode cX9_ward 28 = .ok (.aload_n 0, 1) := by decide +kernel
theorem dX9_ward_29 : decode cX9_ward 29 = .ok (.getfield 63, 3) := by decide +kernel
theorem dX9_ward_32 : decode cX9_ward 32 = .ok (.bipush 38, 2) := by decide +kernel
theorem dX9_ward_34 : decode cX9_ward 34 = .ok (.iload_n 1, 1) := by decide +kernel
theorem dX9_ward_35 : decode cX9_ward 35 = .ok (.iadd, 1) := by decide +kernel
theorem dX9_ward_36 : decode cX9_ward 36 = .ok (.iaload, 1) := by decide +kernel
theorem dX9_ward_37 : decode cX9_ward 37 = .ok (.goto 40, 3) := by decide +kernel
theorem dX9_ward_40 : decode cX9_ward 40 = .ok (.iload_n 2, 1) := by decide +kernel
theorem dX9_ward_41 : decode cX9_ward 41 = .ok (.iconst 1, 1) := by decide +kernel
theorem dX9_ward_42 : decode cX9_ward 42 = .ok (.if_icmp .ne 15, 3) := by decide +kernel
theorem dX9_ward_45 : decode cX9_ward 45 = .ok (.aload_n 0, 1) := by decide +kernel
theorem dX9_ward_46 : decode cX9_ward 46 = .ok (.getfield 63, 3) := by decide +kernel
theorem dX9_ward_49 : decode cX9_ward 49 = .ok (.bipush 46, 2) := by decide +kernel
theorem dX9_ward_51 : decode cX9_ward 51 = .ok (.iload_n 1, 1) := by decide +kernel
theorem dX9_ward_52 : decode cX9_ward 52 = .ok (.iadd, 1) := by decide +kernel
theorem dX9_ward_53 : decode cX9_ward 53 = .ok (.iaload, 1) := by decide +kernel
theorem dX9_ward_54 : decode cX9_ward 54 = .ok (.goto 23, 3) := by decide +kernel
theorem dX9_ward_57 : decode cX9_ward 57 = .ok (.iload_n 2, 1) := by decide +kernel
theorem dX9_ward_58 : decode cX9_ward 58 = .ok (.iconst 2, 1) := by decide +kernel
theorem dX9_ward_59 : decode cX9_ward 59 = .ok (.if_icmp .ne 12, 3) := by decide +kernel
theorem dX9_ward_62 : decode cX9_ward 62 = .ok (.aload_n 0, 1) := by decide +kernel
theorem dX9_ward_63 : decode cX9_ward 63 = .ok (.iconst 0, 1) := by decide +kernel
theorem dX9_ward_64 : decode cX9_ward 64 = .ok (.iload_n 1, 1) := by decide +kernel
theorem dX9_ward_65 : decode cX9_ward 65 = .ok (.invokevirtual 333, 3) := by decide +kernel
theorem dX9_ward_68 : decode cX9_ward 68 = .ok (.goto 9, 3) := by decide +kernel
theorem dX9_ward_71 : decode cX9_ward 71 = .ok (.aload_n 0, 1) := by decide +kernel
theorem dX9_ward_72 : decode cX9_ward 72 = .ok (.iconst 0, 1) := by decide +kernel
theorem dX9_ward_73 : decode cX9_ward 73 = .ok (.iload_n 1, 1) := by decide +kernel
theorem dX9_ward_74 : decode cX9_ward 74 = .ok (.invokevirtual 349, 3) := by decide +kernel
theorem dX9_ward_77 : decode cX9_ward 77 = .ok (.ireturn, 1) := by decide +kernel
theorem dX9_days_0 : decode cX9_days 0 = .ok (.aload_n 0, 1) := by decide +kernel
theorem dX9_days_1 : decode cX9_days 1 = .ok (.iconst 0, 1) := by decide +kernel
theorem dX9_days_2 : decode cX9_days 2 = .ok (.putfield 102, 3) := by decide +kernel
theorem dX9_days_5 : decode cX9_days 5 = .ok (.iload_n 1, 1) := by decide +kernel
theorem dX9_days_6 : decode cX9_days 6 = .ok (.iconst 1, 1) := by decide +kernel
theorem dX9_days_7 : decode cX9_days 7 = .ok (.bipush 20, 2) := by decide +kernel
theorem dX9_days_9 : decode cX9_days 9 = .ok (.invokestatic 379, 3) := by decide +kernel
theorem dX9_days_12 : decode cX9_days 12 = .ok (.ifCond .eq 17, 3) := by decide +kernel
theorem dX9_days_15 : decode cX9_days 15 = .ok (.aload_n 0, 1) := by decide +kernel
theorem dX9_days_16 : decode cX9_days 16 = .ok (.getfield 63, 3) := by decide +kernel
theorem dX9_days_19 : decode cX9_days 19 = .ok (.iconst 0, 1) := by decide +kernel
theorem dX9_days_20 : decode cX9_days 20 = .ok (.iaload, 1) := by decide +kernel
theorem dX9_days_21 : decode cX9_days 21 = .ok (.iload_n 1, 1) := by decide +kernel
theorem dX9_days_22 : decode cX9_days 22 = .ok (.iadd, 1) := by decide +kernel
theorem dX9_days_23 : decode cX9_days 23 = .ok (.sipush 9999, 3) := by decide +kernel
theorem dX9_days_26 : decode cX9_days 26 = .ok (.if_icmp .le 9, 3) := by decide +kernel
theorem dX9_days_29 : decode cX9_days 29 = .ok (.aload_n 0, 1) := by decide +kernel
theorem dX9_days_30 : decode cX9_days 30 = .ok (.iconst 1, 1) := by decide +kernel
theorem dX9_days_31 : decode cX9_days 31 = .ok (.invokevirtual 403, 3) := by decide +kernel
theorem dX9_days_34 : decode cX9_days 34 = .ok (.ireturn, 1) := by decide +kernel
theorem dX9_days_35 : decode cX9_days 35 = .ok (.aload_n 0, 1) := by decide +kernel
theorem dX9_days_36 : decode cX9_days 36 = .ok (.invokevirtual 406, 3) := by decide +kernel
theorem dX9_days_39 : decode cX9_days 39 = .ok (.iconst 0, 1) := by decide +kernel
theorem dX9_days_40 : decode cX9_days 40 = .ok (.istore_n 2, 1) := by decide +kernel
theorem dX9_days_41 : decode cX9_days 41 = .ok (.iload_n 2, 1) := by decide +kernel
theorem dX9_days_42 : decode cX9_days 42 = .ok (.iload_n 1, 1) := by decide +kernel
theorem dX9_days_43 : decode cX9_days 43 = .ok (.if_icmp .ge 14, 3) := by decide +kernel
theorem dX9_days_46 : decode cX9_days 46 = .ok (.aload_n 0, 1) := by decide +kernel
theorem dX9_days_47 : decode cX9_days 47 = .ok (.iconst 0, 1) := by decide +kernel
theorem dX9_days_48 : decode cX9_days 48 = .ok (.invokevirtual 364, 3) := by decide +kernel
theorem dX9_days_51 : decode cX9_days 51 = .ok (.iinc 2 1, 3) := by decide +kernel
theorem dX9_days_54 : decode cX9_days 54 = .ok (.goto (-13), 3) := by decide +kernel
theorem dX9_days_57 : decode cX9_days 57 = .ok (.aload_n 0, 1) := by decide +kernel
theorem dX9_days_58 : decode cX9_days 58 = .ok (.getfield 63, 3) := by decide +kernel
theorem dX9_days_61 : decode cX9_days 61 = .ok (.iconst 0, 1) := by decide +kernel
theorem dX9_days_62 : decode cX9_days 62 = .ok (.iaload, 1) := by decide +kernel
theorem dX9_days_63 : decode cX9_days 63 = .ok (.ireturn, 1) := by decide +kernel
theorem dX9_give_0 : decode cX9_give 0 = .ok (.aload_n 0, 1) := by decide +kernel
theorem dX9_give_1 : decode cX9_give 1 = .ok (.iconst 0, 1) := by decide +kernel
theorem dX9_give_2 : decode cX9_give 2 = .ok (.putfield 102, 3) := by decide +kernel
theorem dX9_give_5 : decode cX9_give 5 = .ok (.iload_n 1, 1) := by decide +kernel
theorem dX9_give_6 : decode cX9_give 6 = .ok (.iconst 1, 1) := by decide +kernel
theorem dX9_give_7 : decode cX9_give 7 = .ok (.bipush 99, 2) := by decide +kernel
theorem dX9_give_9 : decode cX9_give 9 = .ok (.invokestatic 379, 3) := by decide +kernel
theorem dX9_give_12 : decode cX9_give 12 = .ok (.ifCond .ne 9, 3) := by decide +kernel
theorem dX9_give_15 : decode cX9_give 15 = .ok (.aload_n 0, 1) := by decide +kernel
theorem dX9_give_16 : decode cX9_give 16 = .ok (.iconst 1, 1) := by decide +kernel
theorem dX9_give_17 : decode cX9_give 17 = .ok (.invokevirtual 403, 3) := by decide +kernel
theorem dX9_give_20 : decode cX9_give 20 = .ok (.ireturn, 1) := by decide +kernel
theorem dX9_give_21 : decode cX9_give 21 = .ok (.aload_n 0, 1) := by decide +kernel
theorem dX9_give_22 : decode cX9_give 22 = .ok (.invokevirtual 406, 3) := by decide +kernel
theorem dX9_give_25 : decode cX9_give 25 = .ok (.aload_n 0, 1) := by decide +kernel
theorem dX9_give_26 : decode cX9_give 26 = .ok (.getfield 63, 3) := by decide +kernel
theorem dX9_give_29 : decode cX9_give 29 = .ok (.iconst 1, 1) := by decide +kernel
theorem dX9_give_30 : decode cX9_give 30 = .ok (.aload_n 0, 1) := by decide +kernel
theorem dX9_give_31 : decode cX9_give 31 = .ok (.getfield 63, 3) := by decide +kernel
theorem dX9_give_34 : decode cX9_give 34 = .ok (.iconst 1, 1) := by decide +kernel
theorem dX9_give_35 : decode cX9_give 35 = .ok (.iaload, 1) := by decide +kernel
theorem dX9_give_36 : decode cX9_give 36 = .ok (.iload_n 1, 1) := by decide +kernel
theorem dX9_give_37 : decode cX9_give 37 = .ok (.iadd, 1) := by decide +kernel
theorem dX9_give_38 : decode cX9_give 38 = .ok (.iconst 0, 1) := by decide +kernel
theorem dX9_give_39 : decode cX9_give 39 = .ok (.sipush 999, 3) := by decide +kernel
theorem dX9_give_42 : decode cX9_give 42 = .ok (.invokestatic 340, 3) := by decide +kernel
theorem dX9_give_45 : decode cX9_give 45 = .ok (.iastore, 1) := by decide +kernel
theorem dX9_give_46 : decode cX9_give 46 = .ok (.aload_n 0, 1) := by decide +kernel
theorem dX9_give_47 : decode cX9_give 47 = .ok (.getfield 63, 3) := by decide +kernel
theorem dX9_give_50 : decode cX9_give 50 = .ok (.iconst 1, 1) := by decide +kernel
theorem dX9_give_51 : decode cX9_give 51 = .ok (.iaload, 1) := by decide +kernel
theorem dX9_give_52 : decode cX9_give 52 = .ok (.ireturn, 1) := by decide +kernel
theorem dX9_preaches_0 : decode cX9_preaches 0 = .ok (.aload_n 0, 1) := by decide +kernel
theorem dX9_preaches_1 : decode cX9_preaches 1 = .ok (.getfield 63, 3) := by decide +kernel
theorem dX9_preaches_4 : decode cX9_preaches 4 = .ok (.iload_n 1, 1) := by decide +kernel
theorem dX9_preaches_5 : decode cX9_preaches 5 = .ok (.bipush 38, 2) := by decide +kernel
theorem dX9_preaches_7 : decode cX9_preaches 7 = .ok (.iadd, 1) := by decide +kernel
theorem dX9_preaches_8 : decode cX9_preaches 8 = .ok (.iload_n 2, 1) := by decide +kernel
theorem dX9_preaches_9 : decode cX9_preaches 9 = .ok (.iadd, 1) := by decide +kernel
theorem dX9_preaches_10 : decode cX9_preaches 10 = .ok (.aload_n 0, 1) := by decide +kernel
theorem dX9_preaches_11 : decode cX9_preaches 11 = .ok (.getfield 63, 3) := by decide +kernel
theorem dX9_preaches_14 : decode cX9_preaches 14 = .ok (.iload_n 1, 1) := by decide +kernel
theorem dX9_preaches_15 : decode cX9_preaches 15 = .ok (.bipush 38, 2) := by decide +kernel
theorem dX9_preaches_17 : decode cX9_preaches 17 = .ok (.iadd, 1) := by decide +kernel
theorem dX9_preaches_18 : decode cX9_preaches 18 = .ok (.iload_n 2, 1) := by decide +kernel
theorem dX9_preaches_19 : decode cX9_preaches 19 = .ok (.iadd, 1) := by decide +kernel
theorem dX9_preaches_20 : decode cX9_preaches 20 = .ok (.iaload, 1) := by decide +kernel
theorem dX9_preaches_21 : decode cX9_preaches 21 = .ok (.bipush 10, 2) := by decide +kernel
theorem dX9_preaches_23 : decode cX9_preaches 23 = .ok (.iadd, 1) := by decide +kernel
theorem dX9_preaches_24 : decode cX9_preaches 24 = .ok (.iconst 0, 1) := by decide +kernel
theorem dX9_preaches_25 : decode cX9_preaches 25 = .ok (.bipush 99, 2) := by decide +kernel
theorem dX9_preaches_27 : decode cX9_preaches 27 = .ok (.invokestatic 340, 3) := by decide +kernel
theorem dX9_preaches_30 : decode cX9_preaches 30 = .ok (.iastore, 1) := by decide +kernel
theorem dX9_preaches_31 : decode cX9_preaches 31 = .ok (.return_, 1) := by decide +kernel
theorem dX9_preach_0 : decode cX9_preach 0 = .ok (.aload_n 0, 1) := by decide +kernel
theorem dX9_preach_1 : decode cX9_preach 1 = .ok (.iconst 0, 1) := by decide +kernel
theorem dX9_preach_2 : decode cX9_preach 2 = .ok (.putfield 102, 3) := by decide +kernel
theorem dX9_preach_5 : decode cX9_preach 5 = .ok (.aload_n 0, 1) := by decide +kernel
theorem dX9_preach_6 : decode cX9_preach 6 = .ok (.iload_n 1, 1) := by decide +kernel
theorem dX9_preach_7 : decode cX9_preach 7 = .ok (.invokevirtual 400, 3) := by decide +kernel
theorem dX9_preach_10 : decode cX9_preach 10 = .ok (.ifCond .ne 5, 3) := by decide +kernel
theorem dX9_preach_13 : decode cX9_preach 13 = .ok (.iconst 0, 1) := by decide +kernel
theorem dX9_preach_14 : decode cX9_preach 14 = .ok (.ireturn, 1) := by decide +kernel
theorem dX9_preach_15 : decode cX9_preach 15 = .ok (.aload_n 0, 1) := by decide +kernel
theorem dX9_preach_16 : decode cX9_preach 16 = .ok (.getfield 63, 3) := by decide +kernel
theorem dX9_preach_19 : decode cX9_preach 19 = .ok (.bipush 38, 2) := by decide +kernel
theorem dX9_preach_21 : decode cX9_preach 21 = .ok (.iload_n 1, 1) := by decide +kernel
theorem dX9_preach_22 : decode cX9_preach 22 = .ok (.iadd, 1) := by decide +kernel
theorem dX9_preach_23 : decode cX9_preach 23 = .ok (.iaload, 1) := by decide +kernel
theorem dX9_preach_24 : decode cX9_preach 24 = .ok (.bipush 99, 2) := by decide +kernel
theorem dX9_preach_26 : decode cX9_preach 26 = .ok (.if_icmp .ne 9, 3) := by decide +kernel
theorem dX9_preach_29 : decode cX9_preach 29 = .ok (.aload_n 0, 1) := by decide +kernel
theorem dX9_preach_30 : decode cX9_preach 30 = .ok (.iconst 1, 1) := by decide +kernel
theorem dX9_preach_31 : decode cX9_preach 31 = .ok (.invokevirtual 403, 3) := by decide +kernel
theorem dX9_preach_34 : decode cX9_preach 34 = .ok (.ireturn, 1) := by decide +kernel
theorem dX9_preach_35 : decode cX9_preach 35 = .ok (.aload_n 0, 1) := by decide +kernel
theorem dX9_preach_36 : decode cX9_preach 36 = .ok (.invokevirtual 406, 3) := by decide +kernel
theorem dX9_preach_39 : decode cX9_preach 39 = .ok (.aload_n 0, 1) := by decide +kernel
theorem dX9_preach_40 : decode cX9_preach 40 = .ok (.iconst 0, 1) := by decide +kernel
theorem dX9_preach_41 : decode cX9_preach 41 = .ok (.iload_n 1, 1) := by decide +kernel
theorem dX9_preach_42 : decode cX9_preach 42 = .ok (.invokevirtual 409, 3) := by decide +kernel
theorem dX9_preach_45 : decode cX9_preach 45 = .ok (.aload_n 0, 1) := by decide +kernel
theorem dX9_preach_46 : decode cX9_preach 46 = .ok (.getfield 63, 3) := by decide +kernel
theorem dX9_preach_49 : decode cX9_preach 49 = .ok (.bipush 38, 2) := by decide +kernel
theorem dX9_preach_51 : decode cX9_preach 51 = .ok (.iload_n 1, 1) := by decide +kernel
theorem dX9_preach_52 : decode cX9_preach 52 = .ok (.iadd, 1) := by decide +kernel
theorem dX9_preach_53 : decode cX9_preach 53 = .ok (.iaload, 1) := by decide +kernel
theorem dX9_preach_54 : decode cX9_preach 54 = .ok (.ireturn, 1) := by decide +kernel
theorem dX9_mortar_0 : decode cX9_mortar 0 = .ok (.aload_n 0, 1) := by decide +kernel
theorem dX9_mortar_1 : decode cX9_mortar 1 = .ok (.iconst 0, 1) := by decide +kernel
theorem dX9_mortar_2 : decode cX9_mortar 2 = .ok (.putfield 102, 3) := by decide +kernel
theorem dX9_mortar_5 : decode cX9_mortar 5 = .ok (.aload_n 0, 1) := by decide +kernel
theorem dX9_mortar_6 : decode cX9_mortar 6 = .ok (.iload_n 1, 1) := by decide +kernel
theorem dX9_mortar_7 : decode cX9_mortar 7 = .ok (.ifCond .lt 17, 3) := by decide +kernel
theorem dX9_mortar_10 : decode cX9_mortar 10 = .ok (.iload_n 1, 1) := by decide +kernel
theorem dX9_mortar_11 : decode cX9_mortar 11 = .ok (.aload_n 0, 1) := by decide +kernel
theorem dX9_mortar_12 : decode cX9_mortar 12 = .ok (.getfield 63, 3) := by decide +kernel
theorem dX9_mortar_15 : decode cX9_mortar 15 = .ok (.iconst 3, 1) := by decide +kernel
theorem dX9_mortar_16 : decode cX9_mortar 16 = .ok (.iaload, 1) := by decide +kernel
theorem dX9_mortar_17 : decode cX9_mortar 17 = .ok (.if_icmp .ge 7, 3) := by decide +kernel
theorem dX9_mortar_20 : decode cX9_mortar 20 = .ok (.iconst 1, 1) := by decide +kernel
theorem dX9_mortar_21 : decode cX9_mortar 21 = .ok (.goto 4, 3) := by decide +kernel
theorem dX9_mortar_24 : decode cX9_mortar 24 = .ok (.iconst 0, 1) := by decide +kernel
theorem dX9_mortar_25 : decode cX9_mortar 25 = .ok (.iconst 1, 1) := by decide +kernel
theorem dX9_mortar_26 : decode cX9_mortar 26 = .ok (.invokevirtual 284, 3) := by decide +kernel
theorem dX9_mortar_29 : decode cX9_mortar 29 = .ok (.ifCond .ne 5, 3) := by decide +kernel
theorem dX9_mortar_32 : decode cX9_mortar 32 = .ok (.iconst 0, 1) := by decide +kernel
theorem dX9_mortar_33 : decode cX9_mortar 33 = .ok (.ireturn, 1) := by decide +kernel
theorem dX9_mortar_34 : decode cX9_mortar 34 = .ok (.aload_n 0, 1) := by decide +kernel
theorem dX9_mortar_35 : decode cX9_mortar 35 = .ok (.getfield 63, 3) := by decide +kernel
theorem dX9_mortar_38 : decode cX9_mortar 38 = .ok (.bipush 22, 2) := by decide +kernel
theorem dX9_mortar_40 : decode cX9_mortar 40 = .ok (.iload_n 1, 1) := by decide +kernel
theorem dX9_mortar_41 : decode cX9_mortar 41 = .ok (.iadd, 1) := by decide +kernel
theorem dX9_mortar_42 : decode cX9_mortar 42 = .ok (.iaload, 1) := by decide +kernel
theorem dX9_mortar_43 : decode cX9_mortar 43 = .ok (.bipush 9, 2) := by decide +kernel
theorem dX9_mortar_45 : decode cX9_mortar 45 = .ok (.if_icmp .ne 9, 3) := by decide +kernel
theorem dX9_mortar_48 : decode cX9_mortar 48 = .ok (.aload_n 0, 1) := by decide +kernel
theorem dX9_mortar_49 : decode cX9_mortar 49 = .ok (.iconst 1, 1) := by decide +kernel
theorem dX9_mortar_50 : decode cX9_mortar 50 = .ok (.invokevirtual 403, 3) := by decide +kernel
theorem dX9_mortar_53 : decode cX9_mortar 53 = .ok (.ireturn, 1) := by decide +kernel
theorem dX9_mortar_54 : decode cX9_mortar 54 = .ok (.aload_n 0, 1) := by decide +kernel
theorem dX9_mortar_55 : decode cX9_mortar 55 = .ok (.invokevirtual 406, 3) := by decide +kernel
theorem dX9_mortar_58 : decode cX9_mortar 58 = .ok (.aload_n 0, 1) := by decide +kernel
theorem dX9_mortar_59 : decode cX9_mortar 59 = .ok (.getfield 63, 3) := by decide +kernel
theorem dX9_mortar_62 : decode cX9_mortar 62 = .ok (.bipush 22, 2) := by decide +kernel
theorem dX9_mortar_64 : decode cX9_mortar 64 = .ok (.iload_n 1, 1) := by decide +kernel
theorem dX9_mortar_65 : decode cX9_mortar 65 = .ok (.iadd, 1) := by decide +kernel
theorem dX9_mortar_66 : decode cX9_mortar 66 = .ok (.dup2, 1) := by decide +kernel
theorem dX9_mortar_67 : decode cX9_mortar 67 = .ok (.iaload, 1) := by decide +kernel
theorem dX9_mortar_68 : decode cX9_mortar 68 = .ok (.iconst 1, 1) := by decide +kernel
theorem dX9_mortar_69 : decode cX9_mortar 69 = .ok (.iadd, 1) := by decide +kernel
theorem dX9_mortar_70 : decode cX9_mortar 70 = .ok (.iastore, 1) := by decide +kernel
theorem dX9_mortar_71 : decode cX9_mortar 71 = .ok (.aload_n 0, 1) := by decide +kernel
theorem dX9_mortar_72 : decode cX9_mortar 72 = .ok (.getfield 63, 3) := by decide +kernel
theorem dX9_mortar_75 : decode cX9_mortar 75 = .ok (.bipush 22, 2) := by decide +kernel
theorem dX9_mortar_77 : decode cX9_mortar 77 = .ok (.iload_n 1, 1) := by decide +kernel
theorem dX9_mortar_78 : decode cX9_mortar 78 = .ok (.iadd, 1) := by decide +kernel
theorem dX9_mortar_79 : decode cX9_mortar 79 = .ok (.iaload, 1) := by decide +kernel
theorem dX9_mortar_80 : decode cX9_mortar 80 = .ok (.ireturn, 1) := by decide +kernel
theorem dX9_prop_0 : decode cX9_prop 0 = .ok (.aload_n 0, 1) := by decide +kernel
theorem dX9_prop_1 : decode cX9_prop 1 = .ok (.iconst 0, 1) := by decide +kernel
theorem dX9_prop_2 : decode cX9_prop 2 = .ok (.putfield 102, 3) := by decide +kernel
theorem dX9_prop_5 : decode cX9_prop 5 = .ok (.aload_n 0, 1) := by decide +kernel
theorem dX9_prop_6 : decode cX9_prop 6 = .ok (.getfield 63, 3) := by decide +kernel
theorem dX9_prop_9 : decode cX9_prop 9 = .ok (.iconst 2, 1) := by decide +kernel
theorem dX9_prop_10 : decode cX9_prop 10 = .ok (.iaload, 1) := by decide +kernel
theorem dX9_prop_11 : decode cX9_prop 11 = .ok (.istore_n 1, 1) := by decide +kernel
theorem dX9_prop_12 : decode cX9_prop 12 = .ok (.iload_n 1, 1) := by decide +kernel
theorem dX9_prop_13 : decode cX9_prop 13 = .ok (.ifCond .ne 9, 3) := by decide +kernel
theorem dX9_prop_16 : decode cX9_prop 16 = .ok (.aload_n 0, 1) := by decide +kernel
theorem dX9_prop_17 : decode cX9_prop 17 = .ok (.iconst 1, 1) := by decide +kernel
theorem dX9_prop_18 : decode cX9_prop 18 = .ok (.invokevirtual 403, 3) := by decide +kernel
theorem dX9_prop_21 : decode cX9_prop 21 = .ok (.ireturn, 1) := by decide +kernel
theorem dX9_prop_22 : decode cX9_prop 22 = .ok (.aload_n 0, 1) := by decide +kernel
theorem dX9_prop_23 : decode cX9_prop 23 = .ok (.invokevirtual 406, 3) := by decide +kernel
theorem dX9_prop_26 : decode cX9_prop 26 = .ok (.aload_n 0, 1) := by decide +kernel
theorem dX9_prop_27 : decode cX9_prop 27 = .ok (.getfield 63, 3) := by decide +kernel
theorem dX9_prop_30 : decode cX9_prop 30 = .ok (.iconst 2, 1) := by decide +kernel
theorem dX9_prop_31 : decode cX9_prop 31 = .ok (.iconst 0, 1) := by decide +kernel
theorem dX9_prop_32 : decode cX9_prop 32 = .ok (.iastore, 1) := by decide +kernel
theorem dX9_prop_33 : decode cX9_prop 33 = .ok (.iload_n 1, 1) := by decide +kernel
theorem dX9_prop_34 : decode cX9_prop 34 = .ok (.ireturn, 1) := by decide +kernel
theorem dX9_street_0 : decode cX9_street 0 = .ok (.aload_n 0, 1) := by decide +kernel
theorem dX9_street_1 : decode cX9_street 1 = .ok (.iconst 0, 1) := by decide +kernel
theorem dX9_street_2 : decode cX9_street 2 = .ok (.putfield 102, 3) := by decide +kernel
theorem dX9_street_5 : decode cX9_street 5 = .ok (.aload_n 0, 1) := by decide +kernel
theorem dX9_street_6 : decode cX9_street 6 = .ok (.iload_n 1, 1) := by decide +kernel
theorem dX9_street_7 : decode cX9_street 7 = .ok (.invokevirtual 400, 3) := by decide +kernel
theorem dX9_street_10 : decode cX9_street 10 = .ok (.ifCond .eq 11, 3) := by decide +kernel
theorem dX9_street_13 : decode cX9_street 13 = .ok (.aload_n 0, 1) := by decide +kernel
theorem dX9_street_14 : decode cX9_street 14 = .ok (.iload_n 2, 1) := by decide +kernel
theorem dX9_street_15 : decode cX9_street 15 = .ok (.invokevirtual 400, 3) := by decide +kernel
theorem dX9_street_18 : decode cX9_street 18 = .ok (.ifCond .ne 5, 3) := by decide +kernel
theorem dX9_street_21 : decode cX9_street 21 = .ok (.iconst 0, 1) := by decide +kernel
theorem dX9_street_22 : decode cX9_street 22 = .ok (.ireturn, 1) := by decide +kernel
theorem dX9_street_23 : decode cX9_street 23 = .ok (.iload_n 1, 1) := by decide +kernel
theorem dX9_street_24 : decode cX9_street 24 = .ok (.iload_n 2, 1) := by decide +kernel
theorem dX9_street_25 : decode cX9_street 25 = .ok (.if_icmp .eq 29, 3) := by decide +kernel
theorem dX9_street_28 : decode cX9_street 28 = .ok (.aload_n 0, 1) := by decide +kernel
theorem dX9_street_29 : decode cX9_street 29 = .ok (.getfield 63, 3) := by decide +kernel
theorem dX9_street_32 : decode cX9_street 32 = .ok (.bipush 46, 2) := by decide +kernel
theorem dX9_street_34 : decode cX9_street 34 = .ok (.iload_n 1, 1) := by decide +kernel
theorem dX9_street_35 : decode cX9_street 35 = .ok (.iadd, 1) := by decide +kernel
theorem dX9_street_36 : decode cX9_street 36 = .ok (.iaload, 1) := by decide +kernel
theorem dX9_street_37 : decode cX9_street 37 = .ok (.iload_n 2, 1) := by decide +kernel
theorem dX9_street_38 : decode cX9_street 38 = .ok (.ishr, 1) := by decide +kernel
theorem dX9_street_39 : decode cX9_street 39 = .ok (.iconst 1, 1) := by decide +kernel
theorem dX9_street_40 : decode cX9_street 40 = .ok (.iand, 1) := by decide +kernel
theorem dX9_street_41 : decode cX9_street 41 = .ok (.iconst 1, 1) := by decide +kernel
theorem dX9_street_42 : decode cX9_street 42 = .ok (.if_icmp .ne 7, 3) := by decide +kernel
theorem dX9_street_45 : decode cX9_street 45 = .ok (.iconst 1, 1) := by decide +kernel
theorem dX9_street_46 : decode cX9_street 46 = .ok (.goto 4, 3) := by decide +kernel
theorem dX9_street_49 : decode cX9_street 49 = .ok (.iconst 0, 1) := by decide +kernel
theorem dX9_street_50 : decode cX9_street 50 = .ok (.iload_n 3, 1) := by decide +kernel
theorem dX9_street_51 : decode cX9_street 51 = .ok (.if_icmp .ne 17, 3) := by decide +kernel
theorem dX9_street_54 : decode cX9_street 54 = .ok (.aload_n 0, 1) := by decide +kernel
theorem dX9_street_55 : decode cX9_street 55 = .ok (.iconst 1, 1) := by decide +kernel
theorem dX9_street_56 : decode cX9_street 56 = .ok (.invokevirtual 403, 3) := by decide +kernel
theorem dX9_street_59 : decode cX9_street 59 = .ok (.ifCond .le 7, 3) := by decide +kernel
theorem dX9_street_62 : decode cX9_street 62 = .ok (.iconst 1, 1) := by decide +kernel
theorem dX9_street_63 : decode cX9_street 63 = .ok (.goto 4, 3) := by decide +kernel
theorem dX9_street_66 : decode cX9_street 66 = .ok (.iconst 0, 1) := by decide +kernel
theorem dX9_street_67 : decode cX9_street 67 = .ok (.ireturn, 1) := by decide +kernel
theorem dX9_street_68 : decode cX9_street 68 = .ok (.aload_n 0, 1) := by decide +kernel
theorem dX9_street_69 : decode cX9_street 69 = .ok (.invokevirtual 406, 3) := by decide +kernel
theorem dX9_street_72 : decode cX9_street 72 = .ok (.aload_n 0, 1) := by decide +kernel
theorem dX9_street_73 : decode cX9_street 73 = .ok (.getfield 63, 3) := by decide +kernel
theorem dX9_street_76 : decode cX9_street 76 = .ok (.bipush 46, 2) := by decide +kernel
theorem dX9_street_78 : decode cX9_street 78 = .ok (.iload_n 1, 1) := by decide +kernel
theorem dX9_street_79 : decode cX9_street 79 = .ok (.iadd, 1) := by decide +kernel
theorem dX9_street_80 : decode cX9_street 80 = .ok (.dup2, 1) := by decide +kernel
theorem dX9_street_81 : decode cX9_street 81 = .ok (.iaload, 1) := by decide +kernel
theorem dX9_street_82 : decode cX9_street 82 = .ok (.iload_n 3, 1) := by decide +kernel
theorem dX9_street_83 : decode cX9_street 83 = .ok (.ifCond .eq 9, 3) := by decide +kernel
theorem dX9_street_86 : decode cX9_street 86 = .ok (.iconst 1, 1) := by decide +kernel
theorem dX9_street_87 : decode cX9_street 87 = .ok (.iload_n 2, 1) := by decide +kernel
theorem dX9_street_88 : decode cX9_street 88 = .ok (.ishl, 1) := by decide +kernel
theorem dX9_street_89 : decode cX9_street 89 = .ok (.goto 8, 3) := by decide +kernel
theorem dX9_street_92 : decode cX9_street 92 = .ok (.iconst 0, 1) := by decide +kernel
theorem dX9_street_93 : decode cX9_street 93 = .ok (.iconst 1, 1) := by decide +kernel
theorem dX9_street_94 : decode cX9_street 94 = .ok (.iload_n 2, 1) := by decide +kernel
theorem dX9_street_95 : decode cX9_street 95 = .ok (.ishl, 1) := by decide +kernel
theorem dX9_street_96 : decode cX9_street 96 = .ok (.isub, 1) := by decide +kernel
theorem dX9_street_97 : decode cX9_street 97 = .ok (.iadd, 1) := by decide +kernel
theorem dX9_street_98 : decode cX9_street 98 = .ok (.iastore, 1) := by decide +kernel
theorem dX9_street_99 : decode cX9_street 99 = .ok (.aload_n 0, 1) := by decide +kernel
theorem dX9_street_100 : decode cX9_street 100 = .ok (.getfield 63, 3) := by decide +kernel
theorem dX9_street_103 : decode cX9_street 103 = .ok (.bipush 46, 2) := by decide +kernel
theorem dX9_street_105 : decode cX9_street 105 = .ok (.iload_n 2, 1) := by decide +kernel
theorem dX9_street_106 : decode cX9_street 106 = .ok (.iadd, 1) := by decide +kernel
theorem dX9_street_107 : decode cX9_street 107 = .ok (.dup2, 1) := by decide +kernel
theorem dX9_street_108 : decode cX9_street 108 = .ok (.iaload, 1) := by decide +kernel
theorem dX9_street_109 : decode cX9_street 109 = .ok (.iload_n 3, 1) := by decide +kernel
theorem dX9_street_110 : decode cX9_street 110 = .ok (.ifCond .eq 9, 3) := by decide +kernel
theorem dX9_street_113 : decode cX9_street 113 = .ok (.iconst 1, 1) := by decide +kernel
theorem dX9_street_114 : decode cX9_street 114 = .ok (.iload_n 1, 1) := by decide +kernel
theorem dX9_street_115 : decode cX9_street 115 = .ok (.ishl, 1) := by decide +kernel
theorem dX9_street_116 : decode cX9_street 116 = .ok (.goto 8, 3) := by decide +kernel
theorem dX9_street_119 : decode cX9_street 119 = .ok (.iconst 0, 1) := by decide +kernel
theorem dX9_street_120 : decode cX9_street 120 = .ok (.iconst 1, 1) := by decide +kernel
theorem dX9_street_121 : decode cX9_street 121 = .ok (.iload_n 1, 1) := by decide +kernel
theorem dX9_street_122 : decode cX9_street 122 = .ok (.ishl, 1) := by decide +kernel
theorem dX9_street_123 : decode cX9_street 123 = .ok (.isub, 1) := by decide +kernel
theorem dX9_street_124 : decode cX9_street 124 = .ok (.iadd, 1) := by decide +kernel
theorem dX9_street_125 : decode cX9_street 125 = .ok (.iastore, 1) := by decide +kernel
theorem dX9_street_126 : decode cX9_street 126 = .ok (.iconst 1, 1) := by decide +kernel
theorem dX9_street_127 : decode cX9_street 127 = .ok (.ireturn, 1) := by decide +kernel
theorem dX9_then_0 : decode cX9_then 0 = .ok (.aload_n 0, 1) := by decide +kernel
theorem dX9_then_1 : decode cX9_then 1 = .ok (.iconst 0, 1) := by decide +kernel
theorem dX9_then_2 : decode cX9_then 2 = .ok (.putfield 102, 3) := by decide +kernel
theorem dX9_then_5 : decode cX9_then 5 = .ok (.aload_n 0, 1) := by decide +kernel
theorem dX9_then_6 : decode cX9_then 6 = .ok (.iload_n 2, 1) := by decide +kernel
theorem dX9_then_7 : decode cX9_then 7 = .ok (.bipush 6, 2) := by decide +kernel
theorem dX9_then_9 : decode cX9_then 9 = .ok (.invokevirtual 396, 3) := by decide +kernel
theorem dX9_then_12 : decode cX9_then 12 = .ok (.ifCond .eq 13, 3) := by decide +kernel
theorem dX9_then_15 : decode cX9_then 15 = .ok (.aload_n 0, 1) := by decide +kernel
theorem dX9_then_16 : decode cX9_then 16 = .ok (.iload_n 1, 1) := by decide +kernel
theorem dX9_then_17 : decode cX9_then 17 = .ok (.iconst 0, 1) := by decide +kernel
theorem dX9_then_18 : decode cX9_then 18 = .ok (.iconst 2, 1) := by decide +kernel
theorem dX9_then_19 : decode cX9_then 19 = .ok (.invokevirtual 412, 3) := by decide +kernel
theorem dX9_then_22 : decode cX9_then 22 = .ok (.ifCond .ne 5, 3) := by decide +kernel
theorem dX9_then_25 : decode cX9_then 25 = .ok (.iconst 0, 1) := by decide +kernel
theorem dX9_then_26 : decode cX9_then 26 = .ok (.ireturn, 1) := by decide +kernel
theorem dX9_then_27 : decode cX9_then 27 = .ok (.aload_n 0, 1) := by decide +kernel
theorem dX9_then_28 : decode cX9_then 28 = .ok (.iload_n 1, 1) := by decide +kernel
theorem dX9_then_29 : decode cX9_then 29 = .ok (.invokevirtual 415, 3) := by decide +kernel
theorem dX9_then_32 : decode cX9_then 32 = .ok (.aload_n 0, 1) := by decide +kernel
theorem dX9_then_33 : decode cX9_then 33 = .ok (.getfield 63, 3) := by decide +kernel
theorem dX9_then_36 : decode cX9_then 36 = .ok (.bipush 57, 2) := by decide +kernel
theorem dX9_then_38 : decode cX9_then 38 = .ok (.iaload, 1) := by decide +kernel
theorem dX9_then_39 : decode cX9_then 39 = .ok (.istore_n 3, 1) := by decide +kernel
theorem dX9_then_40 : decode cX9_then 40 = .ok (.iload_n 2, 1) := by decide +kernel
theorem dX9_then_41 : decode cX9_then 41 = .ok (.tableswitch 79 0 5 #[39, 41, 48, 56, 64, 74], 39) := by decide +kernel
theorem dX9_then_80 : decode cX9_then 80 = .ok (.iload_n 3, 1) := by decide +kernel
theorem dX9_then_81 : decode cX9_then 81 = .ok (.ireturn, 1) := by decide +kernel
theorem dX9_then_82 : decode cX9_then 82 = .ok (.aload_n 0, 1) := by decide +kernel
theorem dX9_then_83 : decode cX9_then 83 = .ok (.bipush 54, 2) := by decide +kernel
theorem dX9_then_85 : decode cX9_then 85 = .ok (.invokevirtual 327, 3) := by decide +kernel
theorem dX9_then_88 : decode cX9_then 88 = .ok (.ireturn, 1) := by decide +kernel
theorem dX9_then_89 : decode cX9_then 89 = .ok (.aload_n 0, 1) := by decide +kernel
theorem dX9_then_90 : decode cX9_then 90 = .ok (.getfield 63, 3) := by decide +kernel
theorem dX9_then_93 : decode cX9_then 93 = .ok (.bipush 56, 2) := by decide +kernel
theorem dX9_then_95 : decode cX9_then 95 = .ok (.iaload, 1) := by decide +kernel
theorem dX9_then_96 : decode cX9_then 96 = .ok (.ireturn, 1) := by decide +kernel
theorem dX9_then_97 : decode cX9_then 97 = .ok (.aload_n 0, 1) := by decide +kernel
theorem dX9_then_98 : decode cX9_then 98 = .ok (.getfield 63, 3) := by decide +kernel
theorem dX9_then_101 : decode cX9_then 101 = .ok (.bipush 55, 2) := by decide +kernel
theorem dX9_then_103 : decode cX9_then 103 = .ok (.iaload, 1) := by decide +kernel
theorem dX9_then_104 : decode cX9_then 104 = .ok (.ireturn, 1) := by decide +kernel
theorem dX9_then_105 : decode cX9_then 105 = .ok (.aload_n 0, 1) := by decide +kernel
theorem dX9_then_106 : decode cX9_then 106 = .ok (.getfield 63, 3) := by decide +kernel
theorem dX9_then_109 : decode cX9_then 109 = .ok (.bipush 58, 2) := by decide +kernel
theorem dX9_then_111 : decode cX9_then 111 = .ok (.iaload, 1) := by decide +kernel
theorem dX9_then_112 : decode cX9_then 112 = .ok (.iload_n 3, 1) := by decide +kernel
theorem dX9_then_113 : decode cX9_then 113 = .ok (.isub, 1) := by decide +kernel
theorem dX9_then_114 : decode cX9_then 114 = .ok (.ireturn, 1) := by decide +kernel
theorem dX9_then_115 : decode cX9_then 115 = .ok (.aload_n 0, 1) := by decide +kernel
theorem dX9_then_116 : decode cX9_then 116 = .ok (.getfield 311, 3) := by decide +kernel
theorem dX9_then_119 : decode cX9_then 119 = .ok (.ireturn, 1) := by decide +kernel
theorem dX9_then_120 : decode cX9_then 120 = .ok (.iload_n 3, 1) := by decide +kernel
theorem dX9_then_121 : decode cX9_then 121 = .ok (.ifCond .ne 7, 3) := by decide +kernel
theorem dX9_then_124 : decode cX9_then 124 = .ok (.iconst (-1), 1) := by decide +kernel
theorem dX9_then_125 : decode cX9_then 125 = .ok (.goto 14, 3) := by decide +kernel
theorem dX9_then_128 : decode cX9_then 128 = .ok (.aload_n 0, 1) := by decide +kernel
theorem dX9_then_129 : decode cX9_then 129 = .ok (.getfield 63, 3) := by decide +kernel
theorem dX9_then_132 : decode cX9_then 132 = .ok (.bipush 60, 2) := by decide +kernel
theorem dX9_then_134 : decode cX9_then 134 = .ok (.iload_n 3, 1) := by decide +kernel
theorem dX9_then_135 : decode cX9_then 135 = .ok (.iadd, 1) := by decide +kernel
theorem dX9_then_136 : decode cX9_then 136 = .ok (.iconst 1, 1) := by decide +kernel
theorem dX9_then_137 : decode cX9_then 137 = .ok (.isub, 1) := by decide +kernel
theorem dX9_then_138 : decode cX9_then 138 = .ok (.iaload, 1) := by decide +kernel
theorem dX9_then_139 : decode cX9_then 139 = .ok (.ireturn, 1) := by decide +kernel
theorem dX9_wardThen_0 : decode cX9_wardThen 0 = .ok (.aload_n 0, 1) := by decide +kernel
theorem dX9_wardThen_1 : decode cX9_wardThen 1 = .ok (.iconst 0, 1) := by decide +kernel
theorem dX9_wardThen_2 : decode cX9_wardThen 2 = .ok (.putfield 102, 3) := by decide +kernel
theorem dX9_wardThen_5 : decode cX9_wardThen 5 = .ok (.aload_n 0, 1) := by decide +kernel
theorem dX9_wardThen_6 : decode cX9_wardThen 6 = .ok (.iload_n 1, 1) := by decide +kernel
theorem dX9_wardThen_7 : decode cX9_wardThen 7 = .ok (.invokevirtual 400, 3) := by decide +kernel
theorem dX9_wardThen_10 : decode cX9_wardThen 10 = .ok (.ifCond .eq 22, 3) := by decide +kernel
theorem dX9_wardThen_13 : decode cX9_wardThen 13 = .ok (.aload_n 0, 1) := by decide +kernel
theorem dX9_wardThen_14 : decode cX9_wardThen 14 = .ok (.iload_n 3, 1) := by decide +kernel
theorem dX9_wardThen_15 : decode cX9_wardThen 15 = .ok (.iconst 1, 1) := by decide +kernel
theorem dX9_wardThen_16 : decode cX9_wardThen 16 = .ok (.invokevirtual 396, 3) := by decide +kernel
theorem dX9_wardThen_19 : decode cX9_wardThen 19 = .ok (.ifCond .eq 13, 3) := by decide +kernel
theorem dX9_wardThen_22 : decode cX9_wardThen 22 = .ok (.aload_n 0, 1) := by decide +kernel
theorem dX9_wardThen_23 : decode cX9_wardThen 23 = .ok (.iload_n 2, 1) := by decide +kernel
theorem dX9_wardThen_24 : decode cX9_wardThen 24 = .ok (.iconst 0, 1) := by decide +kernel
theorem dX9_wardThen_25 : decode cX9_wardThen 25 = .ok (.iconst 2, 1) := by decide +kernel
theorem dX9_wardThen_26 : decode cX9_wardThen 26 = .ok (.invokevirtual 412, 3) := by decide +kernel
theorem dX9_wardThen_29 : decode cX9_wardThen 29 = .ok (.ifCond .ne 5, 3) := by decide +kernel
theorem dX9_wardThen_32 : decode cX9_wardThen 32 = .ok (.iconst 0, 1) := by decide +kernel
theorem dX9_wardThen_33 : decode cX9_wardThen 33 = .ok (.ireturn, 1) := by decide +kernel
theorem dX9_wardThen_34 : decode cX9_wardThen 34 = .ok (.aload_n 0, 1) := by decide +kernel
theorem dX9_wardThen_35 : decode cX9_wardThen 35 = .ok (.iload_n 2, 1) := by decide +kernel
theorem dX9_wardThen_36 : decode cX9_wardThen 36 = .ok (.invokevirtual 415, 3) := by decide +kernel
theorem dX9_wardThen_39 : decode cX9_wardThen 39 = .ok (.iload_n 3, 1) := by decide +kernel
theorem dX9_wardThen_40 : decode cX9_wardThen 40 = .ok (.ifCond .ne 15, 3) := by decide +kernel
theorem dX9_wardThen_43 : decode cX9_wardThen 43 = .ok (.aload_n 0, 1) := by decide +kernel
theorem dX9_wardThen_44 : decode cX9_wardThen 44 = .ok (.getfield 63, 3) := by decide +kernel
theorem dX9_wardThen_47 : decode cX9_wardThen 47 = .ok (.bipush 92, 2) := by decide +kernel
theorem dX9_wardThen_49 : decode cX9_wardThen 49 = .ok (.iload_n 1, 1) := by decide +kernel
theorem dX9_wardThen_50 : decode cX9_wardThen 50 = .ok (.iadd, 1) := by decide +kernel
theorem dX9_wardThen_51 : decode cX9_wardThen 51 = .ok (.iaload, 1) := by decide +kernel
theorem dX9_wardThen_52 : decode cX9_wardThen 52 = .ok (.goto 9, 3) := by decide +kernel
theorem dX9_wardThen_55 : decode cX9_wardThen 55 = .ok (.aload_n 0, 1) := by decide +kernel
theorem dX9_wardThen_56 : decode cX9_wardThen 56 = .ok (.getfield 69, 3) := by decide +kernel
theorem dX9_wardThen_59 : decode cX9_wardThen 59 = .ok (.iload_n 1, 1) := by decide +kernel
theorem dX9_wardThen_60 : decode cX9_wardThen 60 = .ok (.iaload, 1) := by decide +kernel
theorem dX9_wardThen_61 : decode cX9_wardThen 61 = .ok (.ireturn, 1) := by decide +kernel
theorem dX9_share_0 : decode cX9_share 0 = .ok (.aload_n 0, 1) := by decide +kernel
theorem dX9_share_1 : decode cX9_share 1 = .ok (.iconst 0, 1) := by decide +kernel
theorem dX9_share_2 : decode cX9_share 2 = .ok (.putfield 102, 3) := by decide +kernel
theorem dX9_share_5 : decode cX9_share 5 = .ok (.aload_n 0, 1) := by decide +kernel
theorem dX9_share_6 : decode cX9_share 6 = .ok (.iload_n 1, 1) := by decide +kernel
theorem dX9_share_7 : decode cX9_share 7 = .ok (.invokevirtual 400, 3) := by decide +kernel
theorem dX9_share_10 : decode cX9_share 10 = .ok (.ifCond .eq 13, 3) := by decide +kernel
theorem dX9_share_13 : decode cX9_share 13 = .ok (.aload_n 0, 1) := by decide +kernel
theorem dX9_share_14 : decode cX9_share 14 = .ok (.iload_n 2, 1) := by decide +kernel
theorem dX9_share_15 : decode cX9_share 15 = .ok (.iconst 0, 1) := by decide +kernel
theorem dX9_share_16 : decode cX9_share 16 = .ok (.iconst 2, 1) := by decide +kernel
theorem dX9_share_17 : decode cX9_share 17 = .ok (.invokevirtual 412, 3) := by decide +kernel
theorem dX9_share_20 : decode cX9_share 20 = .ok (.ifCond .ne 5, 3) := by decide +kernel
theorem dX9_share_23 : decode cX9_share 23 = .ok (.iconst 0, 1) := by decide +kernel
theorem dX9_share_24 : decode cX9_share 24 = .ok (.ireturn, 1) := by decide +kernel
theorem dX9_share_25 : decode cX9_share 25 = .ok (.aload_n 0, 1) := by decide +kernel
theorem dX9_share_26 : decode cX9_share 26 = .ok (.iload_n 2, 1) := by decide +kernel
theorem dX9_share_27 : decode cX9_share 27 = .ok (.invokevirtual 415, 3) := by decide +kernel
theorem dX9_share_30 : decode cX9_share 30 = .ok (.iconst 0, 1) := by decide +kernel
theorem dX9_share_31 : decode cX9_share 31 = .ok (.istore_n 3, 1) := by decide +kernel
theorem dX9_share_32 : decode cX9_share 32 = .ok (.iconst 0, 1) := by decide +kernel
theorem dX9_share_33 : decode cX9_share 33 = .ok (.istore 4, 2) := by decide +kernel
theorem dX9_share_35 : decode cX9_share 35 = .ok (.iload 4, 2) := by decide +kernel
theorem dX9_share_37 : decode cX9_share 37 = .ok (.aload_n 0, 1) := by decide +kernel
theorem dX9_share_38 : decode cX9_share 38 = .ok (.getfield 291, 3) := by decide +kernel
theorem dX9_share_41 : decode cX9_share 41 = .ok (.if_icmp .ge 19, 3) := by decide +kernel
theorem dX9_share_44 : decode cX9_share 44 = .ok (.iload_n 3, 1) := by decide +kernel
theorem dX9_share_45 : decode cX9_share 45 = .ok (.aload_n 0, 1) := by decide +kernel
theorem dX9_share_46 : decode cX9_share 46 = .ok (.getfield 69, 3) := by decide +kernel
theorem dX9_share_49 : decode cX9_share 49 = .ok (.iload 4, 2) := by decide +kernel
theorem dX9_share_51 : decode cX9_share 51 = .ok (.iaload, 1) := by decide +kernel
theorem dX9_share_52 : decode cX9_share 52 = .ok (.iadd, 1) := by decide +kernel
theorem dX9_share_53 : decode cX9_share 53 = .ok (.istore_n 3, 1) := by decide +kernel
theorem dX9_share_54 : decode cX9_share 54 = .ok (.iinc 4 1, 3) := by decide +kernel
theorem dX9_share_57 : decode cX9_share 57 = .ok (.goto (-22), 3) := by decide +kernel
theorem dX9_share_60 : decode cX9_share 60 = .ok (.iload_n 3, 1) := by decide +kernel
theorem dX9_share_61 : decode cX9_share 61 = .ok (.ifCond .ne 7, 3) := by decide +kernel
theorem dX9_share_64 : decode cX9_share 64 = .ok (.iconst 0, 1) := by decide +kernel
theorem dX9_share_65 : decode cX9_share 65 = .ok (.goto 14, 3) := by decide +kernel
theorem dX9_share_68 : decode cX9_share 68 = .ok (.bipush 100, 2) := by decide +kernel
theorem dX9_share_70 : decode cX9_share 70 = .ok (.aload_n 0, 1) := by decide +kernel
theorem dX9_share_71 : decode cX9_share 71 = .ok (.getfield 69, 3) := by decide +kernel
theorem dX9_share_74 : decode cX9_share 74 = .ok (.iload_n 1, 1) := by decide +kernel
theorem dX9_share_75 : decode cX9_share 75 = .ok (.iaload, 1) := by decide +kernel
theorem dX9_share_76 : decode cX9_share 76 = .ok (.imul, 1) := by decide +kernel
theorem dX9_share_77 : decode cX9_share 77 = .ok (.iload_n 3, 1) := by decide +kernel
theorem dX9_share_78 : decode cX9_share 78 = .ok (.idiv, 1) := by decide +kernel
theorem dX9_share_79 : decode cX9_share 79 = .ok (.ireturn, 1) := by decide +kernel
theorem dX9_reaches_0 : decode cX9_reaches 0 = .ok (.aload_n 0, 1) := by decide +kernel
theorem dX9_reaches_1 : decode cX9_reaches 1 = .ok (.iconst 0, 1) := by decide +kernel
theorem dX9_reaches_2 : decode cX9_reaches 2 = .ok (.putfield 102, 3) := by decide +kernel
theorem dX9_reaches_5 : decode cX9_reaches 5 = .ok (.aload_n 0, 1) := by decide +kernel
theorem dX9_reaches_6 : decode cX9_reaches 6 = .ok (.iload_n 1, 1) := by decide +kernel
theorem dX9_reaches_7 : decode cX9_reaches 7 = .ok (.iconst 0, 1) := by decide +kernel
theorem dX9_reaches_8 : decode cX9_reaches 8 = .ok (.bipush 16, 2) := by decide +kernel
theorem dX9_reaches_10 : decode cX9_reaches 10 = .ok (.invokestatic 379, 3) := by decide +kernel
theorem dX9_reaches_13 : decode cX9_reaches 13 = .ok (.iconst 1, 1) := by decide +kernel
theorem dX9_reaches_14 : decode cX9_reaches 14 = .ok (.invokevirtual 284, 3) := by decide +kernel
theorem dX9_reaches_17 : decode cX9_reaches 17 = .ok (.ifCond .ne 5, 3) := by decide +kernel
theorem dX9_reaches_20 : decode cX9_reaches 20 = .ok (.iconst 0, 1) := by decide +kernel
theorem dX9_reaches_21 : decode cX9_reaches 21 = .ok (.ireturn, 1) := by decide +kernel
theorem dX9_reaches_22 : decode cX9_reaches 22 = .ok (.aload_n 0, 1) := by decide +kernel
theorem dX9_reaches_23 : decode cX9_reaches 23 = .ok (.invokevirtual 367, 3) := by decide +kernel
theorem dX9_reaches_26 : decode cX9_reaches 26 = .ok (.iconst 0, 1) := by decide +kernel
theorem dX9_reaches_27 : decode cX9_reaches 27 = .ok (.istore_n 2, 1) := by decide +kernel
theorem dX9_reaches_28 : decode cX9_reaches 28 = .ok (.iload_n 2, 1) := by decide +kernel
theorem dX9_reaches_29 : decode cX9_reaches 29 = .ok (.bipush 60, 2) := by decide +kernel
theorem dX9_reaches_31 : decode cX9_reaches 31 = .ok (.if_icmp .gt 28, 3) := by decide +kernel
theorem dX9_reaches_34 : decode cX9_reaches 34 = .ok (.aload_n 0, 1) := by decide +kernel
theorem dX9_reaches_35 : decode cX9_reaches 35 = .ok (.getfield 63, 3) := by decide +kernel
theorem dX9_reaches_38 : decode cX9_reaches 38 = .ok (.bipush 57, 2) := by decide +kernel
theorem dX9_reaches_40 : decode cX9_reaches 40 = .ok (.iaload, 1) := by decide +kernel
theorem dX9_reaches_41 : decode cX9_reaches 41 = .ok (.iload_n 1, 1) := by decide +kernel
theorem dX9_reaches_42 : decode cX9_reaches 42 = .ok (.if_icmp .lt 5, 3) := by decide +kernel
theorem dX9_reaches_45 : decode cX9_reaches 45 = .ok (.iload_n 2, 1) := by decide +kernel
theorem dX9_reaches_46 : decode cX9_reaches 46 = .ok (.ireturn, 1) := by decide +kernel
theorem dX9_reaches_47 : decode cX9_reaches 47 = .ok (.aload_n 0, 1) := by decide +kernel
theorem dX9_reaches_48 : decode cX9_reaches 48 = .ok (.bipush 54, 2) := by decide +kernel
theorem dX9_reaches_50 : decode cX9_reaches 50 = .ok (.invokevirtual 364, 3) := by decide +kernel
theorem dX9_reaches_53 : decode cX9_reaches 53 = .ok (.iinc 2 1, 3) := by decide +kernel
theorem dX9_reaches_56 : decode cX9_reaches 56 = .ok (.goto (-28), 3) := by decide +kernel
theorem dX9_reaches_59 : decode cX9_reaches 59 = .ok (.iconst (-1), 1) := by decide +kernel
theorem dX9_reaches_60 : decode cX9_reaches 60 = .ok (.ireturn, 1) := by decide +kernel
theorem dX9_falls_0 : decode cX9_falls 0 = .ok (.aload_n 0, 1) := by decide +kernel
theorem dX9_falls_1 : decode cX9_falls 1 = .ok (.iconst 0, 1) := by decide +kernel
theorem dX9_falls_2 : decode cX9_falls 2 = .ok (.putfield 102, 3) := by decide +kernel
theorem dX9_falls_5 : decode cX9_falls 5 = .ok (.aload_n 0, 1) := by decide +kernel
theorem dX9_falls_6 : decode cX9_falls 6 = .ok (.invokevirtual 367, 3) := by decide +kernel
theorem dX9_falls_9 : decode cX9_falls 9 = .ok (.iconst 1, 1) := by decide +kernel
theorem dX9_falls_10 : decode cX9_falls 10 = .ok (.istore_n 1, 1) := by decide +kernel
theorem dX9_falls_11 : decode cX9_falls 11 = .ok (.iload_n 1, 1) := by decide +kernel
theorem dX9_falls_12 : decode cX9_falls 12 = .ok (.bipush 60, 2) := by decide +kernel
theorem dX9_falls_14 : decode cX9_falls 14 = .ok (.if_icmp .gt 24, 3) := by decide +kernel
theorem dX9_falls_17 : decode cX9_falls 17 = .ok (.aload_n 0, 1) := by decide +kernel
theorem dX9_falls_18 : decode cX9_falls 18 = .ok (.bipush 54, 2) := by decide +kernel
theorem dX9_falls_20 : decode cX9_falls 20 = .ok (.invokevirtual 364, 3) := by decide +kernel
theorem dX9_falls_23 : decode cX9_falls 23 = .ok (.aload_n 0, 1) := by decide +kernel
theorem dX9_falls_24 : decode cX9_falls 24 = .ok (.getfield 311, 3) := by decide +kernel
theorem dX9_falls_27 : decode cX9_falls 27 = .ok (.ifCond .le 5, 3) := by decide +kernel
theorem dX9_falls_30 : decode cX9_falls 30 = .ok (.iload_n 1, 1) := by decide +kernel
theorem dX9_falls_31 : decode cX9_falls 31 = .ok (.ireturn, 1) := by decide +kernel
theorem dX9_falls_32 : decode cX9_falls 32 = .ok (.iinc 1 1, 3) := by decide +kernel
theorem dX9_falls_35 : decode cX9_falls 35 = .ok (.goto (-24), 3) := by decide +kernel
theorem dX9_falls_38 : decode cX9_falls 38 = .ok (.iconst (-1), 1) := by decide +kernel
theorem dX9_falls_39 : decode cX9_falls 39 = .ok (.ireturn, 1) := by decide +kernel
theorem dX9_later_0 : decode cX9_later 0 = .ok (.aload_n 0, 1) := by decide +kernel
theorem dX9_later_1 : decode cX9_later 1 = .ok (.iconst 0, 1) := by decide +kernel
theorem dX9_later_2 : decode cX9_later 2 = .ok (.putfield 102, 3) := by decide +kernel
theorem dX9_later_5 : decode cX9_later 5 = .ok (.aload_n 0, 1) := by decide +kernel
theorem dX9_later_6 : decode cX9_later 6 = .ok (.iload_n 2, 1) := by decide +kernel
theorem dX9_later_7 : decode cX9_later 7 = .ok (.iconst 1, 1) := by decide +kernel
theorem dX9_later_8 : decode cX9_later 8 = .ok (.invokevirtual 396, 3) := by decide +kernel
theorem dX9_later_11 : decode cX9_later 11 = .ok (.ifCond .eq 13, 3) := by decide +kernel
theorem dX9_later_14 : decode cX9_later 14 = .ok (.aload_n 0, 1) := by decide +kernel
theorem dX9_later_15 : decode cX9_later 15 = .ok (.iload_n 1, 1) := by decide +kernel
theorem dX9_later_16 : decode cX9_later 16 = .ok (.iconst 0, 1) := by decide +kernel
theorem dX9_later_17 : decode cX9_later 17 = .ok (.iconst 2, 1) := by decide +kernel
theorem dX9_later_18 : decode cX9_later 18 = .ok (.invokevirtual 412, 3) := by decide +kernel
theorem dX9_later_21 : decode cX9_later 21 = .ok (.ifCond .ne 5, 3) := by decide +kernel
theorem dX9_later_24 : decode cX9_later 24 = .ok (.iconst 0, 1) := by decide +kernel
theorem dX9_later_25 : decode cX9_later 25 = .ok (.ireturn, 1) := by decide +kernel
theorem dX9_later_26 : decode cX9_later 26 = .ok (.aload_n 0, 1) := by decide +kernel
theorem dX9_later_27 : decode cX9_later 27 = .ok (.iload_n 1, 1) := by decide +kernel
theorem dX9_later_28 : decode cX9_later 28 = .ok (.invokevirtual 415, 3) := by decide +kernel
theorem dX9_later_31 : decode cX9_later 31 = .ok (.iconst (-1), 1) := by decide +kernel
theorem dX9_later_32 : decode cX9_later 32 = .ok (.istore_n 3, 1) := by decide +kernel
theorem dX9_later_33 : decode cX9_later 33 = .ok (.iconst 0, 1) := by decide +kernel
theorem dX9_later_34 : decode cX9_later 34 = .ok (.istore 4, 2) := by decide +kernel
theorem dX9_later_36 : decode cX9_later 36 = .ok (.iload 4, 2) := by decide +kernel
theorem dX9_later_38 : decode cX9_later 38 = .ok (.aload_n 0, 1) := by decide +kernel
theorem dX9_later_39 : decode cX9_later 39 = .ok (.getfield 291, 3) := by decide +kernel
theorem dX9_later_42 : decode cX9_later 42 = .ok (.if_icmp .ge 39, 3) := by decide +kernel
theorem dX9_later_45 : decode cX9_later 45 = .ok (.iload_n 3, 1) := by decide +kernel
theorem dX9_later_46 : decode cX9_later 46 = .ok (.iconst (-1), 1) := by decide +kernel
theorem dX9_later_47 : decode cX9_later 47 = .ok (.if_icmp .eq 25, 3) := by decide +kernel
theorem dX9_later_50 : decode cX9_later 50 = .ok (.aload_n 0, 1) := by decide +kernel
theorem dX9_later_51 : decode cX9_later 51 = .ok (.getfield 63, 3) := by decide +kernel
theorem dX9_later_54 : decode cX9_later 54 = .ok (.bipush 92, 2) := by decide +kernel
theorem dX9_later_56 : decode cX9_later 56 = .ok (.iload 4, 2) := by decide +kernel
theorem dX9_later_58 : decode cX9_later 58 = .ok (.iadd, 1) := by decide +kernel
theorem dX9_later_59 : decode cX9_later 59 = .ok (.iaload, 1) := by decide +kernel
theorem dX9_later_60 : decode cX9_later 60 = .ok (.aload_n 0, 1) := by decide +kernel
theorem dX9_later_61 : decode cX9_later 61 = .ok (.getfield 63, 3) := by decide +kernel
theorem dX9_later_64 : decode cX9_later 64 = .ok (.bipush 92, 2) := by decide +kernel
theorem dX9_later_66 : decode cX9_later 66 = .ok (.iload_n 3, 1) := by decide +kernel
theorem dX9_later_67 : decode cX9_later 67 = .ok (.iadd, 1) := by decide +kernel
theorem dX9_later_68 : decode cX9_later 68 = .ok (.iaload, 1) := by decide +kernel
theorem dX9_later_69 : decode cX9_later 69 = .ok (.if_icmp .le 6, 3) := by decide +kernel
theorem dX9_later_72 : decode cX9_later 72 = .ok (.iload 4, 2) := by decide +kernel
theorem dX9_later_74 : decode cX9_later 74 = .ok (.istore_n 3, 1) := by decide +kernel
theorem dX9_later_75 : decode cX9_later 75 = .ok (.iinc 4 1, 3) := by decide +kernel
theorem dX9_later_78 : decode cX9_later 78 = .ok (.goto (-42), 3) := by decide +kernel
theorem dX9_later_81 : decode cX9_later 81 = .ok (.iload_n 2, 1) := by decide +kernel
theorem dX9_later_82 : decode cX9_later 82 = .ok (.ifCond .ne 12, 3) := by decide +kernel
theorem dX9_later_85 : decode cX9_later 85 = .ok (.aload_n 0, 1) := by decide +kernel
theorem dX9_later_86 : decode cX9_later 86 = .ok (.bipush 54, 2) := by decide +kernel
theorem dX9_later_88 : decode cX9_later 88 = .ok (.invokevirtual 393, 3) := by decide +kernel
theorem dX9_later_91 : decode cX9_later 91 = .ok (.goto 4, 3) := by decide +kernel
theorem dX9_later_94 : decode cX9_later 94 = .ok (.iload_n 3, 1) := by decide +kernel
theorem dX9_later_95 : decode cX9_later 95 = .ok (.ireturn, 1) := by decide +kernel
theorem dX9_through_0 : decode cX9_through 0 = .ok (.aload_n 0, 1) := by decide +kernel
theorem dX9_through_1 : decode cX9_through 1 = .ok (.iconst 0, 1) := by decide +kernel
theorem dX9_through_2 : decode cX9_through 2 = .ok (.putfield 102, 3) := by decide +kernel
theorem dX9_through_5 : decode cX9_through 5 = .ok (.aload_n 0, 1) := by decide +kernel
theorem dX9_through_6 : decode cX9_through 6 = .ok (.iload_n 2, 1) := by decide +kernel
theorem dX9_through_7 : decode cX9_through 7 = .ok (.iconst 3, 1) := by decide +kernel
theorem dX9_through_8 : decode cX9_through 8 = .ok (.invokevirtual 396, 3) := by decide +kernel
theorem dX9_through_11 : decode cX9_through 11 = .ok (.ifCond .eq 13, 3) := by decide +kernel
theorem dX9_through_14 : decode cX9_through 14 = .ok (.aload_n 0, 1) := by decide +kernel
theorem dX9_through_15 : decode cX9_through 15 = .ok (.iload_n 1, 1) := by decide +kernel
theorem dX9_through_16 : decode cX9_through 16 = .ok (.iconst 1, 1) := by decide +kernel
theorem dX9_through_17 : decode cX9_through 17 = .ok (.iconst 2, 1) := by decide +kernel
theorem dX9_through_18 : decode cX9_through 18 = .ok (.invokevirtual 412, 3) := by decide +kernel
theorem dX9_through_21 : decode cX9_through 21 = .ok (.ifCond .ne 5, 3) := by decide +kernel
theorem dX9_through_24 : decode cX9_through 24 = .ok (.iconst 0, 1) := by decide +kernel
theorem dX9_through_25 : decode cX9_through 25 = .ok (.ireturn, 1) := by decide +kernel
theorem dX9_through_26 : decode cX9_through 26 = .ok (.iconst 0, 1) := by decide +kernel
theorem dX9_through_27 : decode cX9_through 27 = .ok (.istore_n 3, 1) := by decide +kernel
theorem dX9_through_28 : decode cX9_through 28 = .ok (.iconst 0, 1) := by decide +kernel
theorem dX9_through_29 : decode cX9_through 29 = .ok (.istore 4, 2) := by decide +kernel
theorem dX9_through_31 : decode cX9_through 31 = .ok (.iconst 0, 1) := by decide +kernel
theorem dX9_through_32 : decode cX9_through 32 = .ok (.istore 5, 2) := by decide +kernel
theorem dX9_through_34 : decode cX9_through 34 = .ok (.iconst (-1), 1) := by decide +kernel
theorem dX9_through_35 : decode cX9_through 35 = .ok (.istore 6, 2) := by decide +kernel
theorem dX9_through_37 : decode cX9_through 37 = .ok (.iconst 0, 1) := by decide +kernel
theorem dX9_through_38 : decode cX9_through 38 = .ok (.istore 7, 2) := by decide +kernel
theorem dX9_through_40 : decode cX9_through 40 = .ok (.aload_n 0, 1) := by decide +kernel
theorem dX9_through_41 : decode cX9_through 41 = .ok (.invokevirtual 367, 3) := by decide +kernel
theorem dX9_through_44 : decode cX9_through 44 = .ok (.iconst 1, 1) := by decide +kernel
theorem dX9_through_45 : decode cX9_through 45 = .ok (.istore 8, 2) := by decide +kernel
theorem dX9_through_47 : decode cX9_through 47 = .ok (.iload 8, 2) := by decide +kernel
theorem dX9_through_49 : decode cX9_through 49 = .ok (.iload_n 1, 1) := by decide +kernel
theorem dX9_through_50 : decode cX9_through 50 = .ok (.if_icmp .gt 99, 3) := by decide +kernel
theorem dX9_through_53 : decode cX9_through 53 = .ok (.aload_n 0, 1) := by decide +kernel
theorem dX9_through_54 : decode cX9_through 54 = .ok (.bipush 54, 2) := by decide +kernel
theorem dX9_through_56 : decode cX9_through 56 = .ok (.invokevirtual 364, 3) := by decide +kernel
theorem dX9_through_59 : decode cX9_through 59 = .ok (.aload_n 0, 1) := by decide +kernel
theorem dX9_through_60 : decode cX9_through 60 = .ok (.getfield 63, 3) := by decide +kernel
theorem dX9_through_63 : decode cX9_through 63 = .ok (.bipush 56, 2) := by decide +kernel
theorem dX9_through_65 : decode cX9_through 65 = .ok (.iaload, 1) := by decide +kernel
theorem dX9_through_66 : decode cX9_through 66 = .ok (.iload_n 3, 1) := by decide +kernel
theorem dX9_through_67 : decode cX9_through 67 = .ok (.if_icmp .le 13, 3) := by decide +kernel
theorem dX9_through_70 : decode cX9_through 70 = .ok (.aload_n 0, 1) := by decide +kernel
theorem dX9_through_71 : decode cX9_through 71 = .ok (.getfield 63, 3) := by decide +kernel
theorem dX9_through_74 : decode cX9_through 74 = .ok (.bipush 56, 2) := by decide +kernel
theorem dX9_through_76 : decode cX9_through 76 = .ok (.iaload, 1) := by decide +kernel
theorem dX9_through_77 : decode cX9_through 77 = .ok (.goto 4, 3) := by decide +kernel
theorem dX9_through_80 : decode cX9_through 80 = .ok (.iload_n 3, 1) := by decide +kernel
theorem dX9_through_81 : decode cX9_through 81 = .ok (.istore_n 3, 1) := by decide +kernel
theorem dX9_through_82 : decode cX9_through 82 = .ok (.iload 4, 2) := by decide +kernel
theorem dX9_through_84 : decode cX9_through 84 = .ok (.aload_n 0, 1) := by decide +kernel
theorem dX9_through_85 : decode cX9_through 85 = .ok (.bipush 54, 2) := by decide +kernel
theorem dX9_through_87 : decode cX9_through 87 = .ok (.invokevirtual 352, 3) := by decide +kernel
theorem dX9_through_90 : decode cX9_through 90 = .ok (.ifCond .eq 7, 3) := by decide +kernel
theorem dX9_through_93 : decode cX9_through 93 = .ok (.iconst 1, 1) := by decide +kernel
theorem dX9_through_94 : decode cX9_through 94 = .ok (.goto 4, 3) := by decide +kernel
theorem dX9_through_97 : decode cX9_through 97 = .ok (.iconst 0, 1) := by decide +kernel
theorem dX9_through_98 : decode cX9_through 98 = .ok (.iadd, 1) := by decide +kernel
theorem dX9_through_99 : decode cX9_through 99 = .ok (.istore 4, 2) := by decide +kernel
theorem dX9_through_101 : decode cX9_through 101 = .ok (.iload 7, 2) := by decide +kernel
theorem dX9_through_103 : decode cX9_through 103 = .ok (.aload_n 0, 1) := by decide +kernel
theorem dX9_through_104 : decode cX9_through 104 = .ok (.getfield 63, 3) := by decide +kernel
theorem dX9_through_107 : decode cX9_through 107 = .ok (.bipush 59, 2) := by decide +kernel
theorem dX9_through_109 : decode cX9_through 109 = .ok (.iaload, 1) := by decide +kernel
theorem dX9_through_110 : decode cX9_through 110 = .ok (.ifCond .ne 7, 3) := by decide +kernel
theorem dX9_through_113 : decode cX9_through 113 = .ok (.iconst 1, 1) := by decide +kernel
theorem dX9_through_114 : decode cX9_through 114 = .ok (.goto 4, 3) := by decide +kernel
theorem dX9_through_117 : decode cX9_through 117 = .ok (.iconst 0, 1) := by decide +kernel
theorem dX9_through_118 : decode cX9_through 118 = .ok (.iadd, 1) := by decide +kernel
theorem dX9_through_119 : decode cX9_through 119 = .ok (.istore 7, 2) := by decide +kernel
theorem dX9_through_121 : decode cX9_through 121 = .ok (.aload_n 0, 1) := by decide +kernel
theorem dX9_through_122 : decode cX9_through 122 = .ok (.getfield 346, 3) := by decide +kernel
theorem dX9_through_125 : decode cX9_through 125 = .ok (.iload 6, 2) := by decide +kernel
theorem dX9_through_127 : decode cX9_through 127 = .ok (.if_icmp .gt 6, 3) := by decide +kernel
theorem dX9_through_130 : decode cX9_through 130 = .ok (.goto 13, 3) := by decide +kernel
theorem dX9_through_133 : decode cX9_through 133 = .ok (.aload_n 0, 1) := by decide +kernel
theorem dX9_through_134 : decode cX9_through 134 = .ok (.getfield 346, 3) := by decide +kernel
theorem dX9_through_137 : decode cX9_through 137 = .ok (.istore 6, 2) := by decide +kernel
theorem dX9_through_139 : decode cX9_through 139 = .ok (.iload 8, 2) := by decide +kernel
theorem dX9_through_141 : decode cX9_through 141 = .ok (.istore 5, 2) := by decide +kernel
theorem dX9_through_143 : decode cX9_through 143 = .ok (.iinc 8 1, 3) := by decide +kernel
theorem dX9_through_146 : decode cX9_through 146 = .ok (.goto (-99), 3) := by decide +kernel
theorem dX9_through_149 : decode cX9_through 149 = .ok (.iload_n 2, 1) := by decide +kernel
theorem dX9_through_150 : decode cX9_through 150 = .ok (.ifCond .ne 7, 3) := by decide +kernel
theorem dX9_through_153 : decode cX9_through 153 = .ok (.iload_n 3, 1) := by decide +kernel
theorem dX9_through_154 : decode cX9_through 154 = .ok (.goto 25, 3) := by decide +kernel
theorem dX9_through_157 : decode cX9_through 157 = .ok (.iload_n 2, 1) := by decide +kernel
theorem dX9_through_158 : decode cX9_through 158 = .ok (.iconst 1, 1) := by decide +kernel
theorem dX9_through_159 : decode cX9_through 159 = .ok (.if_icmp .ne 8, 3) := by decide +kernel
theorem dX9_through_162 : decode cX9_through 162 = .ok (.iload 4, 2) := by decide +kernel
theorem dX9_through_164 : decode cX9_through 164 = .ok (.goto 15, 3) := by decide +kernel
theorem dX9_through_167 : decode cX9_through 167 = .ok (.iload_n 2, 1) := by decide +kernel
theorem dX9_through_168 : decode cX9_through 168 = .ok (.iconst 2, 1) := by decide +kernel
theorem dX9_through_169 : decode cX9_through 169 = .ok (.if_icmp .ne 8, 3) := by decide +kernel
theorem dX9_through_172 : decode cX9_through 172 = .ok (.iload 5, 2) := by decide +kernel
theorem dX9_through_174 : decode cX9_through 174 = .ok (.goto 5, 3) := by decide +kernel
theorem dX9_through_177 : decode cX9_through 177 = .ok (.iload 7, 2) := by decide +kernel
theorem dX9_through_179 : decode cX9_through 179 = .ok (.ireturn, 1) := by decide +kernel
theorem dX9_pious_0 : decode cX9_pious 0 = .ok (.aload_n 0, 1) := by decide +kernel
theorem dX9_pious_1 : decode cX9_pious 1 = .ok (.iconst 0, 1) := by decide +kernel
theorem dX9_pious_2 : decode cX9_pious 2 = .ok (.putfield 102, 3) := by decide +kernel
theorem dX9_pious_5 : decode cX9_pious 5 = .ok (.aload_n 0, 1) := by decide +kernel
theorem dX9_pious_6 : decode cX9_pious 6 = .ok (.iload_n 1, 1) := by decide +kernel
theorem dX9_pious_7 : decode cX9_pious 7 = .ok (.invokevirtual 400, 3) := by decide +kernel
theorem dX9_pious_10 : decode cX9_pious 10 = .ok (.ifCond .eq 13, 3) := by decide +kernel
theorem dX9_pious_13 : decode cX9_pious 13 = .ok (.aload_n 0, 1) := by decide +kernel
theorem dX9_pious_14 : decode cX9_pious 14 = .ok (.iload_n 2, 1) := by decide +kernel
theorem dX9_pious_15 : decode cX9_pious 15 = .ok (.iconst 1, 1) := by decide +kernel
theorem dX9_pious_16 : decode cX9_pious 16 = .ok (.iconst 2, 1) := by decide +kernel
theorem dX9_pious_17 : decode cX9_pious 17 = .ok (.invokevirtual 412, 3) := by decide +kernel
theorem dX9_pious_20 : decode cX9_pious 20 = .ok (.ifCond .ne 5, 3) := by decide +kernel
theorem dX9_pious_23 : decode cX9_pious 23 = .ok (.iconst 0, 1) := by decide +kernel
theorem dX9_pious_24 : decode cX9_pious 24 = .ok (.ireturn, 1) := by decide +kernel
theorem dX9_pious_25 : decode cX9_pious 25 = .ok (.iconst 0, 1) := by decide +kernel
theorem dX9_pious_26 : decode cX9_pious 26 = .ok (.istore_n 3, 1) := by decide +kernel
theorem dX9_pious_27 : decode cX9_pious 27 = .ok (.aload_n 0, 1) := by decide +kernel
theorem dX9_pious_28 : decode cX9_pious 28 = .ok (.invokevirtual 367, 3) := by decide +kernel
theorem dX9_pious_31 : decode cX9_pious 31 = .ok (.iconst 0, 1) := by decide +kernel
theorem dX9_pious_32 : decode cX9_pious 32 = .ok (.istore 4, 2) := by decide +kernel
theorem dX9_pious_34 : decode cX9_pious 34 = .ok (.iload 4, 2) := by decide +kernel
theorem dX9_pious_36 : decode cX9_pious 36 = .ok (.iload_n 2, 1) := by decide +kernel
theorem dX9_pious_37 : decode cX9_pious 37 = .ok (.if_icmp .ge 37, 3) := by decide +kernel
theorem dX9_pious_40 : decode cX9_pious 40 = .ok (.aload_n 0, 1) := by decide +kernel
theorem dX9_pious_41 : decode cX9_pious 41 = .ok (.bipush 54, 2) := by decide +kernel
theorem dX9_pious_43 : decode cX9_pious 43 = .ok (.invokevirtual 364, 3) := by decide +kernel
theorem dX9_pious_46 : decode cX9_pious 46 = .ok (.iload_n 3, 1) := by decide +kernel
theorem dX9_pious_47 : decode cX9_pious 47 = .ok (.aload_n 0, 1) := by decide +kernel
theorem dX9_pious_48 : decode cX9_pious 48 = .ok (.getfield 63, 3) := by decide +kernel
theorem dX9_pious_51 : decode cX9_pious 51 = .ok (.bipush 92, 2) := by decide +kernel
theorem dX9_pious_53 : decode cX9_pious 53 = .ok (.iload_n 1, 1) := by decide +kernel
theorem dX9_pious_54 : decode cX9_pious 54 = .ok (.iadd, 1) := by decide +kernel
theorem dX9_pious_55 : decode cX9_pious 55 = .ok (.iaload, 1) := by decide +kernel
theorem dX9_pious_56 : decode cX9_pious 56 = .ok (.bipush 50, 2) := by decide +kernel
theorem dX9_pious_58 : decode cX9_pious 58 = .ok (.if_icmp .lt 7, 3) := by decide +kernel
theorem dX9_pious_61 : decode cX9_pious 61 = .ok (.iconst 1, 1) := by decide +kernel
theorem dX9_pious_62 : decode cX9_pious 62 = .ok (.goto 4, 3) := by decide +kernel
theorem dX9_pious_65 : decode cX9_pious 65 = .ok (.iconst 0, 1) := by decide +kernel
theorem dX9_pious_66 : decode cX9_pious 66 = .ok (.iadd, 1) := by decide +kernel
theorem dX9_pious_67 : decode cX9_pious 67 = .ok (.istore_n 3, 1) := by decide +kernel
theorem dX9_pious_68 : decode cX9_pious 68 = .ok (.iinc 4 1, 3) := by decide +kernel
theorem dX9_pious_71 : decode cX9_pious 71 = .ok (.goto (-37), 3) := by decide +kernel
theorem dX9_pious_74 : decode cX9_pious 74 = .ok (.iload_n 3, 1) := by decide +kernel
theorem dX9_pious_75 : decode cX9_pious 75 = .ok (.ireturn, 1) := by decide +kernel
theorem dX9_heaviest_0 : decode cX9_heaviest 0 = .ok (.aload_n 0, 1) := by decide +kernel
theorem dX9_heaviest_1 : decode cX9_heaviest 1 = .ok (.iconst 0, 1) := by decide +kernel
theorem dX9_heaviest_2 : decode cX9_heaviest 2 = .ok (.putfield 102, 3) := by decide +kernel
theorem dX9_heaviest_5 : decode cX9_heaviest 5 = .ok (.aload_n 0, 1) := by decide +kernel
theorem dX9_heaviest_6 : decode cX9_heaviest 6 = .ok (.iload_n 1, 1) := by decide +kernel
theorem dX9_heaviest_7 : decode cX9_heaviest 7 = .ok (.iconst 0, 1) := by decide +kernel
theorem dX9_heaviest_8 : decode cX9_heaviest 8 = .ok (.iconst 1, 1) := by decide +kernel
theorem dX9_heaviest_9 : decode cX9_heaviest 9 = .ok (.invokevirtual 412, 3) := by decide +kernel
theorem dX9_heaviest_12 : decode cX9_heaviest 12 = .ok (.ifCond .ne 5, 3) := by decide +kernel
theorem dX9_heaviest_15 : decode cX9_heaviest 15 = .ok (.iconst 0, 1) := by decide +kernel
theorem dX9_heaviest_16 : decode cX9_heaviest 16 = .ok (.ireturn, 1) := by decide +kernel
theorem dX9_heaviest_17 : decode cX9_heaviest 17 = .ok (.aload_n 0, 1) := by decide +kernel
theorem dX9_heaviest_18 : decode cX9_heaviest 18 = .ok (.iload_n 1, 1) := by decide +kernel
theorem dX9_heaviest_19 : decode cX9_heaviest 19 = .ok (.invokevirtual 415, 3) := by decide +kernel
theorem dX9_heaviest_22 : decode cX9_heaviest 22 = .ok (.iconst (-1), 1) := by decide +kernel
theorem dX9_heaviest_23 : decode cX9_heaviest 23 = .ok (.istore_n 2, 1) := by decide +kernel
theorem dX9_heaviest_24 : decode cX9_heaviest 24 = .ok (.iconst 0, 1) := by decide +kernel
theorem dX9_heaviest_25 : decode cX9_heaviest 25 = .ok (.istore_n 3, 1) := by decide +kernel
theorem dX9_heaviest_26 : decode cX9_heaviest 26 = .ok (.iload_n 3, 1) := by decide +kernel
theorem dX9_heaviest_27 : decode cX9_heaviest 27 = .ok (.aload_n 0, 1) := by decide +kernel
theorem dX9_heaviest_28 : decode cX9_heaviest 28 = .ok (.getfield 63, 3) := by decide +kernel
theorem dX9_heaviest_31 : decode cX9_heaviest 31 = .ok (.bipush 57, 2) := by decide +kernel
theorem dX9_heaviest_33 : decode cX9_heaviest 33 = .ok (.iaload, 1) := by decide +kernel
theorem dX9_heaviest_34 : decode cX9_heaviest 34 = .ok (.if_icmp .ge 37, 3) := by decide +kernel
theorem dX9_heaviest_37 : decode cX9_heaviest 37 = .ok (.iload_n 2, 1) := by decide +kernel
theorem dX9_heaviest_38 : decode cX9_heaviest 38 = .ok (.iconst (-1), 1) := by decide +kernel
theorem dX9_heaviest_39 : decode cX9_heaviest 39 = .ok (.if_icmp .eq 24, 3) := by decide +kernel
theorem dX9_heaviest_42 : decode cX9_heaviest 42 = .ok (.aload_n 0, 1) := by decide +kernel
theorem dX9_heaviest_43 : decode cX9_heaviest 43 = .ok (.getfield 63, 3) := by decide +kernel
theorem dX9_heaviest_46 : decode cX9_heaviest 46 = .ok (.bipush 60, 2) := by decide +kernel
theorem dX9_heaviest_48 : decode cX9_heaviest 48 = .ok (.iload_n 3, 1) := by decide +kernel
theorem dX9_heaviest_49 : decode cX9_heaviest 49 = .ok (.iadd, 1) := by decide +kernel
theorem dX9_heaviest_50 : decode cX9_heaviest 50 = .ok (.iaload, 1) := by decide +kernel
theorem dX9_heaviest_51 : decode cX9_heaviest 51 = .ok (.aload_n 0, 1) := by decide +kernel
theorem dX9_heaviest_52 : decode cX9_heaviest 52 = .ok (.getfield 63, 3) := by decide +kernel
theorem dX9_heaviest_55 : decode cX9_heaviest 55 = .ok (.bipush 60, 2) := by decide +kernel
theorem dX9_heaviest_57 : decode cX9_heaviest 57 = .ok (.iload_n 2, 1) := by decide +kernel
theorem dX9_heaviest_58 : decode cX9_heaviest 58 = .ok (.iadd, 1) := by decide +kernel
theorem dX9_heaviest_59 : decode cX9_heaviest 59 = .ok (.iaload, 1) := by decide +kernel
theorem dX9_heaviest_60 : decode cX9_heaviest 60 = .ok (.if_icmp .le 5, 3) := by decide +kernel
theorem dX9_heaviest_63 : decode cX9_heaviest 63 = .ok (.iload_n 3, 1) := by decide +kernel
theorem dX9_heaviest_64 : decode cX9_heaviest 64 = .ok (.istore_n 2, 1) := by decide +kernel
theorem dX9_heaviest_65 : decode cX9_heaviest 65 = .ok (.iinc 3 1, 3) := by decide +kernel
theorem dX9_heaviest_68 : decode cX9_heaviest 68 = .ok (.goto (-42), 3) := by decide +kernel
theorem dX9_heaviest_71 : decode cX9_heaviest 71 = .ok (.iload_n 2, 1) := by decide +kernel
theorem dX9_heaviest_72 : decode cX9_heaviest 72 = .ok (.ireturn, 1) := by decide +kernel
theorem dX9_far_0 : decode cX9_far 0 = .ok (.aload_n 0, 1) := by decide +kernel
theorem dX9_far_1 : decode cX9_far 1 = .ok (.iconst 0, 1) := by decide +kernel
theorem dX9_far_2 : decode cX9_far 2 = .ok (.putfield 102, 3) := by decide +kernel
theorem dX9_far_5 : decode cX9_far 5 = .ok (.aload_n 0, 1) := by decide +kernel
theorem dX9_far_6 : decode cX9_far 6 = .ok (.iload_n 1, 1) := by decide +kernel
theorem dX9_far_7 : decode cX9_far 7 = .ok (.invokevirtual 400, 3) := by decide +kernel
theorem dX9_far_10 : decode cX9_far 10 = .ok (.ifCond .eq 11, 3) := by decide +kernel
theorem dX9_far_13 : decode cX9_far 13 = .ok (.aload_n 0, 1) := by decide +kernel
theorem dX9_far_14 : decode cX9_far 14 = .ok (.iload_n 2, 1) := by decide +kernel
theorem dX9_far_15 : decode cX9_far 15 = .ok (.invokevirtual 400, 3) := by decide +kernel
theorem dX9_far_18 : decode cX9_far 18 = .ok (.ifCond .ne 5, 3) := by decide +kernel
theorem dX9_far_21 : decode cX9_far 21 = .ok (.iconst 0, 1) := by decide +kernel
theorem dX9_far_22 : decode cX9_far 22 = .ok (.ireturn, 1) := by decide +kernel
theorem dX9_far_23 : decode cX9_far 23 = .ok (.iconst 1, 1) := by decide +kernel
theorem dX9_far_24 : decode cX9_far 24 = .ok (.iload_n 1, 1) := by decide +kernel
theorem dX9_far_25 : decode cX9_far 25 = .ok (.ishl, 1) := by decide +kernel
theorem dX9_far_26 : decode cX9_far 26 = .ok (.istore_n 3, 1) := by decide +kernel
theorem dX9_far_27 : decode cX9_far 27 = .ok (.iconst 0, 1) := by decide +kernel
theorem dX9_far_28 : decode cX9_far 28 = .ok (.istore 4, 2) := by decide +kernel
theorem dX9_far_30 : decode cX9_far 30 = .ok (.iload 4, 2) := by decide +kernel
theorem dX9_far_32 : decode cX9_far 32 = .ok (.aload_n 0, 1) := by decide +kernel
theorem dX9_far_33 : decode cX9_far 33 = .ok (.getfield 291, 3) := by decide +kernel
theorem dX9_far_36 : decode cX9_far 36 = .ok (.if_icmp .gt 70, 3) := by decide +kernel
theorem dX9_far_39 : decode cX9_far 39 = .ok (.iload_n 3, 1) := by decide +kernel
theorem dX9_far_40 : decode cX9_far 40 = .ok (.iload_n 2, 1) := by decide +kernel
theorem dX9_far_41 : decode cX9_far 41 = .ok (.ishr, 1) := by decide +kernel
theorem dX9_far_42 : decode cX9_far 42 = .ok (.iconst 1, 1) := by decide +kernel
theorem dX9_far_43 : decode cX9_far 43 = .ok (.iand, 1) := by decide +kernel
theorem dX9_far_44 : decode cX9_far 44 = .ok (.iconst 1, 1) := by decide +kernel
theorem dX9_far_45 : decode cX9_far 45 = .ok (.if_icmp .ne 6, 3) := by decide +kernel
theorem dX9_far_48 : decode cX9_far 48 = .ok (.iload 4, 2) := by decide +kernel
theorem dX9_far_50 : decode cX9_far 50 = .ok (.ireturn, 1) := by decide +kernel
theorem dX9_far_51 : decode cX9_far 51 = .ok (.iload_n 3, 1) := by decide +kernel
theorem dX9_far_52 : decode cX9_far 52 = .ok (.istore 5, 2) := by decide +kernel
theorem dX9_far_54 : decode cX9_far 54 = .ok (.iconst 0, 1) := by decide +kernel
theorem dX9_far_55 : decode cX9_far 55 = .ok (.istore 6, 2) := by decide +kernel
theorem dX9_far_57 : decode cX9_far 57 = .ok (.iload 6, 2) := by decide +kernel
theorem dX9_far_59 : decode cX9_far 59 = .ok (.aload_n 0, 1) := by decide +kernel
theorem dX9_far_60 : decode cX9_far 60 = .ok (.getfield 291, 3) := by decide +kernel
theorem dX9_far_63 : decode cX9_far 63 = .ok (.if_icmp .ge 37, 3) := by decide +kernel
theorem dX9_far_66 : decode cX9_far 66 = .ok (.iload_n 3, 1) := by decide +kernel
theorem dX9_far_67 : decode cX9_far 67 = .ok (.iload 5, 2) := by decide +kernel
theorem dX9_far_69 : decode cX9_far 69 = .ok (.iload 6, 2) := by decide +kernel
theorem dX9_far_71 : decode cX9_far 71 = .ok (.ishr, 1) := by decide +kernel
theorem dX9_far_72 : decode cX9_far 72 = .ok (.iconst 1, 1) := by decide +kernel
theorem dX9_far_73 : decode cX9_far 73 = .ok (.iand, 1) := by decide +kernel
theorem dX9_far_74 : decode cX9_far 74 = .ok (.iconst 1, 1) := by decide +kernel
theorem dX9_far_75 : decode cX9_far 75 = .ok (.if_icmp .ne 16, 3) := by decide +kernel
theorem dX9_far_78 : decode cX9_far 78 = .ok (.aload_n 0, 1) := by decide +kernel
theorem dX9_far_79 : decode cX9_far 79 = .ok (.getfield 63, 3) := by decide +kernel
theorem dX9_far_82 : decode cX9_far 82 = .ok (.bipush 46, 2) := by decide +kernel
theorem dX9_far_84 : decode cX9_far 84 = .ok (.iload 6, 2) := by decide +kernel
theorem dX9_far_86 : decode cX9_far 86 = .ok (.iadd, 1) := by decide +kernel
theorem dX9_far_87 : decode cX9_far 87 = .ok (.iaload, 1) := by decide +kernel
theorem dX9_far_88 : decode cX9_far 88 = .ok (.goto 4, 3) := by decide +kernel
theorem dX9_far_91 : decode cX9_far 91 = .ok (.iconst 0, 1) := by decide +kernel
theorem dX9_far_92 : decode cX9_far 92 = .ok (.ior, 1) := by decide +kernel
theorem dX9_far_93 : decode cX9_far 93 = .ok (.istore_n 3, 1) := by decide +kernel
theorem dX9_far_94 : decode cX9_far 94 = .ok (.iinc 6 1, 3) := by decide +kernel
theorem dX9_far_97 : decode cX9_far 97 = .ok (.goto (-40), 3) := by decide +kernel
theorem dX9_far_100 : decode cX9_far 100 = .ok (.iinc 4 1, 3) := by decide +kernel
theorem dX9_far_103 : decode cX9_far 103 = .ok (.goto (-73), 3) := by decide +kernel
theorem dX9_far_106 : decode cX9_far 106 = .ok (.iconst (-1), 1) := by decide +kernel
theorem dX9_far_107 : decode cX9_far 107 = .ok (.ireturn, 1) := by decide +kernel
theorem dX9_apart_0 : decode cX9_apart 0 = .ok (.aload_n 0, 1) := by decide +kernel
theorem dX9_apart_1 : decode cX9_apart 1 = .ok (.iconst 0, 1) := by decide +kernel
theorem dX9_apart_2 : decode cX9_apart 2 = .ok (.putfield 102, 3) := by decide +kernel
theorem dX9_apart_5 : decode cX9_apart 5 = .ok (.aload_n 0, 1) := by decide +kernel
theorem dX9_apart_6 : decode cX9_apart 6 = .ok (.iload_n 1, 1) := by decide +kernel
theorem dX9_apart_7 : decode cX9_apart 7 = .ok (.invokevirtual 400, 3) := by decide +kernel
theorem dX9_apart_10 : decode cX9_apart 10 = .ok (.ifCond .eq 11, 3) := by decide +kernel
theorem dX9_apart_13 : decode cX9_apart 13 = .ok (.aload_n 0, 1) := by decide +kernel
theorem dX9_apart_14 : decode cX9_apart 14 = .ok (.iload_n 2, 1) := by decide +kernel
theorem dX9_apart_15 : decode cX9_apart 15 = .ok (.invokevirtual 400, 3) := by decide +kernel
theorem dX9_apart_18 : decode cX9_apart 18 = .ok (.ifCond .ne 5, 3) := by decide +kernel
theorem dX9_apart_21 : decode cX9_apart 21 = .ok (.iconst 0, 1) := by decide +kernel
theorem dX9_apart_22 : decode cX9_apart 22 = .ok (.ireturn, 1) := by decide +kernel
theorem dX9_apart_23 : decode cX9_apart 23 = .ok (.iconst (-1), 1) := by decide +kernel
theorem dX9_apart_24 : decode cX9_apart 24 = .ok (.istore_n 3, 1) := by decide +kernel
theorem dX9_apart_25 : decode cX9_apart 25 = .ok (.iconst 0, 1) := by decide +kernel
theorem dX9_apart_26 : decode cX9_apart 26 = .ok (.istore 4, 2) := by decide +kernel
theorem dX9_apart_28 : decode cX9_apart 28 = .ok (.iload 4, 2) := by decide +kernel
theorem dX9_apart_30 : decode cX9_apart 30 = .ok (.iconst 1, 1) := by decide +kernel
theorem dX9_apart_31 : decode cX9_apart 31 = .ok (.aload_n 0, 1) := by decide +kernel
theorem dX9_apart_32 : decode cX9_apart 32 = .ok (.getfield 291, 3) := by decide +kernel
theorem dX9_apart_35 : decode cX9_apart 35 = .ok (.ishl, 1) := by decide +kernel
theorem dX9_apart_36 : decode cX9_apart 36 = .ok (.if_icmp .ge 59, 3) := by decide +kernel
theorem dX9_apart_39 : decode cX9_apart 39 = .ok (.iload 4, 2) := by decide +kernel
theorem dX9_apart_41 : decode cX9_apart 41 = .ok (.iconst 1, 1) := by decide +kernel
theorem dX9_apart_42 : decode cX9_apart 42 = .ok (.iload_n 1, 1) := by decide +kernel
theorem dX9_apart_43 : decode cX9_apart 43 = .ok (.ishl, 1) := by decide +kernel
theorem dX9_apart_44 : decode cX9_apart 44 = .ok (.iconst 1, 1) := by decide +kernel
theorem dX9_apart_45 : decode cX9_apart 45 = .ok (.iload_n 2, 1) := by decide +kernel
theorem dX9_apart_46 : decode cX9_apart 46 = .ok (.ishl, 1) := by decide +kernel
theorem dX9_apart_47 : decode cX9_apart 47 = .ok (.ior, 1) := by decide +kernel
theorem dX9_apart_48 : decode cX9_apart 48 = .ok (.iand, 1) := by decide +kernel
theorem dX9_apart_49 : decode cX9_apart 49 = .ok (.ifCond .ne 40, 3) := by decide +kernel
theorem dX9_apart_52 : decode cX9_apart 52 = .ok (.iload_n 3, 1) := by decide +kernel
theorem dX9_apart_53 : decode cX9_apart 53 = .ok (.iconst (-1), 1) := by decide +kernel
theorem dX9_apart_54 : decode cX9_apart 54 = .ok (.if_icmp .eq 18, 3) := by decide +kernel
theorem dX9_apart_57 : decode cX9_apart 57 = .ok (.iload 4, 2) := by decide +kernel
theorem dX9_apart_59 : decode cX9_apart 59 = .ok (.invokestatic 418, 3) := by decide +kernel
theorem dX9_apart_62 : decode cX9_apart 62 = .ok (.iload_n 3, 1) := by decide +kernel
theorem dX9_apart_63 : decode cX9_apart 63 = .ok (.invokestatic 418, 3) := by decide +kernel
theorem dX9_apart_66 : decode cX9_apart 66 = .ok (.if_icmp .lt 6, 3) := by decide +kernel
theorem dX9_apart_69 : decode cX9_apart 69 = .ok (.goto 20, 3) := by decide +kernel
theorem dX9_apart_72 : decode cX9_apart 72 = .ok (.aload_n 0, 1) := by decide +kernel
theorem dX9_apart_73 : decode cX9_apart 73 = .ok (.iload_n 1, 1) := by decide +kernel
theorem dX9_apart_74 : decode cX9_apart 74 = .ok (.iload 4, 2) := by decide +kernel
theorem dX9_apart_76 : decode cX9_apart 76 = .ok (.invokevirtual 373, 3) := by decide +kernel
theorem dX9_apart_79 : decode cX9_apart 79 = .ok (.iload_n 2, 1) := by decide +kernel
theorem dX9_apart_80 : decode cX9_apart 80 = .ok (.ishr, 1) := by decide +kernel
theorem dX9_apart_81 : decode cX9_apart 81 = .ok (.iconst 1, 1) := by decide +kernel
theorem dX9_apart_82 : decode cX9_apart 82 = .ok (.iand, 1) := by decide +kernel
theorem dX9_apart_83 : decode cX9_apart 83 = .ok (.ifCond .ne 6, 3) := by decide +kernel
theorem dX9_apart_86 : decode cX9_apart 86 = .ok (.iload 4, 2) := by decide +kernel
theorem dX9_apart_88 : decode cX9_apart 88 = .ok (.istore_n 3, 1) := by decide +kernel
theorem dX9_apart_89 : decode cX9_apart 89 = .ok (.iinc 4 1, 3) := by decide +kernel
theorem dX9_apart_92 : decode cX9_apart 92 = .ok (.goto (-64), 3) := by decide +kernel
theorem dX9_apart_95 : decode cX9_apart 95 = .ok (.iload_n 3, 1) := by decide +kernel
theorem dX9_apart_96 : decode cX9_apart 96 = .ok (.ireturn, 1) := by decide +kernel
theorem dX9_toPreach_0 : decode cX9_toPreach 0 = .ok (.aload_n 0, 1) := by decide +kernel
theorem dX9_toPreach_1 : decode cX9_toPreach 1 = .ok (.iconst 0, 1) := by decide +kernel
theorem dX9_toPreach_2 : decode cX9_toPreach 2 = .ok (.putfield 102, 3) := by decide +kernel
theorem dX9_toPreach_5 : decode cX9_toPreach 5 = .ok (.aload_n 0, 1) := by decide +kernel
theorem dX9_toPreach_6 : decode cX9_toPreach 6 = .ok (.iload_n 1, 1) := by decide +kernel
theorem dX9_toPreach_7 : decode cX9_toPreach 7 = .ok (.iconst 1, 1) := by decide +kernel
theorem dX9_toPreach_8 : decode cX9_toPreach 8 = .ok (.iconst 1, 1) := by decide +kernel
theorem dX9_toPreach_9 : decode cX9_toPreach 9 = .ok (.invokevirtual 412, 3) := by decide +kernel
theorem dX9_toPreach_12 : decode cX9_toPreach 12 = .ok (.ifCond .ne 5, 3) := by decide +kernel
theorem dX9_toPreach_15 : decode cX9_toPreach 15 = .ok (.iconst 0, 1) := by decide +kernel
theorem dX9_toPreach_16 : decode cX9_toPreach 16 = .ok (.ireturn, 1) := by decide +kernel
theorem dX9_toPreach_17 : decode cX9_toPreach 17 = .ok (.iconst (-1), 1) := by decide +kernel
theorem dX9_toPreach_18 : decode cX9_toPreach 18 = .ok (.istore_n 2, 1) := by decide +kernel
theorem dX9_toPreach_19 : decode cX9_toPreach 19 = .ok (.iconst 0, 1) := by decide +kernel
theorem dX9_toPreach_20 : decode cX9_toPreach 20 = .ok (.istore_n 3, 1) := by decide +kernel
theorem dX9_toPreach_21 : decode cX9_toPreach 21 = .ok (.iload_n 3, 1) := by decide +kernel
theorem dX9_toPreach_22 : decode cX9_toPreach 22 = .ok (.iconst 1, 1) := by decide +kernel
theorem dX9_toPreach_23 : decode cX9_toPreach 23 = .ok (.aload_n 0, 1) := by decide +kernel
theorem dX9_toPreach_24 : decode cX9_toPreach 24 = .ok (.getfield 291, 3) := by decide +kernel
theorem dX9_toPreach_27 : decode cX9_toPreach 27 = .ok (.ishl, 1) := by decide +kernel
theorem dX9_toPreach_28 : decode cX9_toPreach 28 = .ok (.if_icmp .ge 82, 3) := by decide +kernel
theorem dX9_toPreach_31 : decode cX9_toPreach 31 = .ok (.iload_n 2, 1) := by decide +kernel
theorem dX9_toPreach_32 : decode cX9_toPreach 32 = .ok (.iconst (-1), 1) := by decide +kernel
theorem dX9_toPreach_33 : decode cX9_toPreach 33 = .ok (.if_icmp .eq 17, 3) := by decide +kernel
theorem dX9_toPreach_36 : decode cX9_toPreach 36 = .ok (.iload_n 3, 1) := by decide +kernel
theorem dX9_toPreach_37 : decode cX9_toPreach 37 = .ok (.invokestatic 418, 3) := by decide +kernel
theorem dX9_toPreach_40 : decode cX9_toPreach 40 = .ok (.iload_n 2, 1) := by decide +kernel
theorem dX9_toPreach_41 : decode cX9_toPreach 41 = .ok (.invokestatic 418, 3) := by decide +kernel
theorem dX9_toPreach_44 : decode cX9_toPreach 44 = .ok (.if_icmp .lt 6, 3) := by decide +kernel
theorem dX9_toPreach_47 : decode cX9_toPreach 47 = .ok (.goto 57, 3) := by decide +kernel
theorem dX9_toPreach_50 : decode cX9_toPreach 50 = .ok (.aload_n 0, 1) := by decide +kernel
theorem dX9_toPreach_51 : decode cX9_toPreach 51 = .ok (.invokevirtual 367, 3) := by decide +kernel
theorem dX9_toPreach_54 : decode cX9_toPreach 54 = .ok (.iconst 0, 1) := by decide +kernel
theorem dX9_toPreach_55 : decode cX9_toPreach 55 = .ok (.istore 4, 2) := by decide +kernel
theorem dX9_toPreach_57 : decode cX9_toPreach 57 = .ok (.iload 4, 2) := by decide +kernel
theorem dX9_toPreach_59 : decode cX9_toPreach 59 = .ok (.aload_n 0, 1) := by decide +kernel
theorem dX9_toPreach_60 : decode cX9_toPreach 60 = .ok (.getfield 291, 3) := by decide +kernel
theorem dX9_toPreach_63 : decode cX9_toPreach 63 = .ok (.if_icmp .ge 27, 3) := by decide +kernel
theorem dX9_toPreach_66 : decode cX9_toPreach 66 = .ok (.iload_n 3, 1) := by decide +kernel
theorem dX9_toPreach_67 : decode cX9_toPreach 67 = .ok (.iload 4, 2) := by decide +kernel
theorem dX9_toPreach_69 : decode cX9_toPreach 69 = .ok (.ishr, 1) := by decide +kernel
theorem dX9_toPreach_70 : decode cX9_toPreach 70 = .ok (.iconst 1, 1) := by decide +kernel
theorem dX9_toPreach_71 : decode cX9_toPreach 71 = .ok (.iand, 1) := by decide +kernel
theorem dX9_toPreach_72 : decode cX9_toPreach 72 = .ok (.iconst 1, 1) := by decide +kernel
theorem dX9_toPreach_73 : decode cX9_toPreach 73 = .ok (.if_icmp .ne 11, 3) := by decide +kernel
theorem dX9_toPreach_76 : decode cX9_toPreach 76 = .ok (.aload_n 0, 1) := by decide +kernel
theorem dX9_toPreach_77 : decode cX9_toPreach 77 = .ok (.bipush 54, 2) := by decide +kernel
theorem dX9_toPreach_79 : decode cX9_toPreach 79 = .ok (.iload 4, 2) := by decide +kernel
theorem dX9_toPreach_81 : decode cX9_toPreach 81 = .ok (.invokevirtual 409, 3) := by decide +kernel
theorem dX9_toPreach_84 : decode cX9_toPreach 84 = .ok (.iinc 4 1, 3) := by decide +kernel
theorem dX9_toPreach_87 : decode cX9_toPreach 87 = .ok (.goto (-30), 3) := by decide +kernel
theorem dX9_toPreach_90 : decode cX9_toPreach 90 = .ok (.aload_n 0, 1) := by decide +kernel
theorem dX9_toPreach_91 : decode cX9_toPreach 91 = .ok (.iload_n 1, 1) := by decide +kernel
theorem dX9_toPreach_92 : decode cX9_toPreach 92 = .ok (.invokevirtual 370, 3) := by decide +kernel
theorem dX9_toPreach_95 : decode cX9_toPreach 95 = .ok (.aload_n 0, 1) := by decide +kernel
theorem dX9_toPreach_96 : decode cX9_toPreach 96 = .ok (.getfield 311, 3) := by decide +kernel
theorem dX9_toPreach_99 : decode cX9_toPreach 99 = .ok (.ifCond .ne 5, 3) := by decide +kernel
theorem dX9_toPreach_102 : decode cX9_toPreach 102 = .ok (.iload_n 3, 1) := by decide +kernel
theorem dX9_toPreach_103 : decode cX9_toPreach 103 = .ok (.istore_n 2, 1) := by decide +kernel
theorem dX9_toPreach_104 : decode cX9_toPreach 104 = .ok (.iinc 3 1, 3) := by decide +kernel
theorem dX9_toPreach_107 : decode cX9_toPreach 107 = .ok (.goto (-86), 3) := by decide +kernel
theorem dX9_toPreach_110 : decode cX9_toPreach 110 = .ok (.iload_n 2, 1) := by decide +kernel
theorem dX9_toPreach_111 : decode cX9_toPreach 111 = .ok (.ireturn, 1) := by decide +kernel
theorem dX9_isRow_0 : decode cX9_isRow 0 = .ok (.iconst 0, 1) := by decide +kernel
theorem dX9_isRow_1 : decode cX9_isRow 1 = .ok (.istore_n 3, 1) := by decide +kernel
theorem dX9_isRow_2 : decode cX9_isRow 2 = .ok (.iload_n 1, 1) := by decide +kernel
theorem dX9_isRow_3 : decode cX9_isRow 3 = .ok (.istore 4, 2) := by decide +kernel
theorem dX9_isRow_5 : decode cX9_isRow 5 = .ok (.aload_n 0, 1) := by decide +kernel
theorem dX9_isRow_6 : decode cX9_isRow 6 = .ok (.invokevirtual 367, 3) := by decide +kernel
theorem dX9_isRow_9 : decode cX9_isRow 9 = .ok (.iload_n 2, 1) := by decide +kernel
theorem dX9_isRow_10 : decode cX9_isRow 10 = .ok (.iconst 1, 1) := by decide +kernel
theorem dX9_isRow_11 : decode cX9_isRow 11 = .ok (.isub, 1) := by decide +kernel
theorem dX9_isRow_12 : decode cX9_isRow 12 = .ok (.istore 5, 2) := by decide +kernel
theorem dX9_isRow_14 : decode cX9_isRow 14 = .ok (.iload 5, 2) := by decide +kernel
theorem dX9_isRow_16 : decode cX9_isRow 16 = .ok (.ifCond .lt 113, 3) := by decide +kernel
theorem dX9_isRow_19 : decode cX9_isRow 19 = .ok (.iload 4, 2) := by decide +kernel
theorem dX9_isRow_21 : decode cX9_isRow 21 = .ok (.bipush 10, 2) := by decide +kernel
theorem dX9_isRow_23 : decode cX9_isRow 23 = .ok (.irem, 1) := by decide +kernel
theorem dX9_isRow_24 : decode cX9_isRow 24 = .ok (.istore 6, 2) := by decide +kernel
theorem dX9_isRow_26 : decode cX9_isRow 26 = .ok (.iload 4, 2) := by decide +kernel
theorem dX9_isRow_28 : decode cX9_isRow 28 = .ok (.bipush 10, 2) := by decide +kernel
theorem dX9_isRow_30 : decode cX9_isRow 30 = .ok (.idiv, 1) := by decide +kernel
theorem dX9_isRow_31 : decode cX9_isRow 31 = .ok (.istore 4, 2) := by decide +kernel
theorem dX9_isRow_33 : decode cX9_isRow 33 = .ok (.iload 6, 2) := by decide +kernel
theorem dX9_isRow_35 : decode cX9_isRow 35 = .ok (.iload_n 2, 1) := by decide +kernel
theorem dX9_isRow_36 : decode cX9_isRow 36 = .ok (.if_icmp .ge 13, 3) := by decide +kernel
theorem dX9_isRow_39 : decode cX9_isRow 39 = .ok (.iload_n 3, 1) := by decide +kernel
theorem dX9_isRow_40 : decode cX9_isRow 40 = .ok (.iload 6, 2) := by decide +kernel
theorem dX9_isRow_42 : decode cX9_isRow 42 = .ok (.ishr, 1) := by decide +kernel
theorem dX9_isRow_43 : decode cX9_isRow 43 = .ok (.iconst 1, 1) := by decide +kernel
theorem dX9_isRow_44 : decode cX9_isRow 44 = .ok (.iand, 1) := by decide +kernel
theorem dX9_isRow_45 : decode cX9_isRow 45 = .ok (.iconst 1, 1) := by decide +kernel
theorem dX9_isRow_46 : decode cX9_isRow 46 = .ok (.if_icmp .ne 5, 3) := by decide +kernel
theorem dX9_isRow_49 : decode cX9_isRow 49 = .ok (.iconst 0, 1) := by decide +kernel
theorem dX9_isRow_50 : decode cX9_isRow 50 = .ok (.ireturn, 1) := by decide +kernel
theorem dX9_isRow_51 : decode cX9_isRow 51 = .ok (.iload_n 3, 1) := by decide +kernel
theorem dX9_isRow_52 : decode cX9_isRow 52 = .ok (.iconst 1, 1) := by decide +kernel
theorem dX9_isRow_53 : decode cX9_isRow 53 = .ok (.iload 6, 2) := by decide +kernel
theorem dX9_isRow_55 : decode cX9_isRow 55 = .ok (.ishl, 1) := by decide +kernel
theorem dX9_isRow_56 : decode cX9_isRow 56 = .ok (.ior, 1) := by decide +kernel
theorem dX9_isRow_57 : decode cX9_isRow 57 = .ok (.istore_n 3, 1) := by decide +kernel
theorem dX9_isRow_58 : decode cX9_isRow 58 = .ok (.aload_n 0, 1) := by decide +kernel
theorem dX9_isRow_59 : decode cX9_isRow 59 = .ok (.getfield 63, 3) := by decide +kernel
theorem dX9_isRow_62 : decode cX9_isRow 62 = .ok (.iconst 3, 1) := by decide +kernel
theorem dX9_isRow_63 : decode cX9_isRow 63 = .ok (.iaload, 1) := by decide +kernel
theorem dX9_isRow_64 : decode cX9_isRow 64 = .ok (.iload 6, 2) := by decide +kernel
theorem dX9_isRow_66 : decode cX9_isRow 66 = .ok (.iadd, 1) := by decide +kernel
theorem dX9_isRow_67 : decode cX9_isRow 67 = .ok (.istore 7, 2) := by decide +kernel
theorem dX9_isRow_69 : decode cX9_isRow 69 = .ok (.aload_n 0, 1) := by decide +kernel
theorem dX9_isRow_70 : decode cX9_isRow 70 = .ok (.getfield 63, 3) := by decide +kernel
theorem dX9_isRow_73 : decode cX9_isRow 73 = .ok (.bipush 60, 2) := by decide +kernel
theorem dX9_isRow_75 : decode cX9_isRow 75 = .ok (.aload_n 0, 1) := by decide +kernel
theorem dX9_isRow_76 : decode cX9_isRow 76 = .ok (.getfield 63, 3) := by decide +kernel
theorem dX9_isRow_79 : decode cX9_isRow 79 = .ok (.iconst 3, 1) := by decide +kernel
theorem dX9_isRow_80 : decode cX9_isRow 80 = .ok (.iaload, 1) := by decide +kernel
theorem dX9_isRow_81 : decode cX9_isRow 81 = .ok (.iadd, 1) := by decide +kernel
theorem dX9_isRow_82 : decode cX9_isRow 82 = .ok (.iload 5, 2) := by decide +kernel
theorem dX9_isRow_84 : decode cX9_isRow 84 = .ok (.iadd, 1) := by decide +kernel
theorem dX9_isRow_85 : decode cX9_isRow 85 = .ok (.aload_n 0, 1) := by decide +kernel
theorem dX9_isRow_86 : decode cX9_isRow 86 = .ok (.getfield 63, 3) := by decide +kernel
theorem dX9_isRow_89 : decode cX9_isRow 89 = .ok (.bipush 6, 2) := by decide +kernel
theorem dX9_isRow_91 : decode cX9_isRow 91 = .ok (.iload 7, 2) := by decide +kernel
theorem dX9_isRow_93 : decode cX9_isRow 93 = .ok (.iadd, 1) := by decide +kernel
theorem dX9_isRow_94 : decode cX9_isRow 94 = .ok (.iaload, 1) := by decide +kernel
theorem dX9_isRow_95 : decode cX9_isRow 95 = .ok (.iastore, 1) := by decide +kernel
theorem dX9_isRow_96 : decode cX9_isRow 96 = .ok (.aload_n 0, 1) := by decide +kernel
theorem dX9_isRow_97 : decode cX9_isRow 97 = .ok (.getfield 63, 3) := by decide +kernel
theorem dX9_isRow_100 : decode cX9_isRow 100 = .ok (.bipush 76, 2) := by decide +kernel
theorem dX9_isRow_102 : decode cX9_isRow 102 = .ok (.aload_n 0, 1) := by decide +kernel
theorem dX9_isRow_103 : decode cX9_isRow 103 = .ok (.getfield 63, 3) := by decide +kernel
theorem dX9_isRow_106 : decode cX9_isRow 106 = .ok (.iconst 3, 1) := by decide +kernel
theorem dX9_isRow_107 : decode cX9_isRow 107 = .ok (.iaload, 1) := by decide +kernel
theorem dX9_isRow_108 : decode cX9_isRow 108 = .ok (.iadd, 1) := by decide +kernel
theorem dX9_isRow_109 : decode cX9_isRow 109 = .ok (.iload 5, 2) := by decide +kernel
theorem dX9_isRow_111 : decode cX9_isRow 111 = .ok (.iadd, 1) := by decide +kernel
theorem dX9_isRow_112 : decode cX9_isRow 112 = .ok (.aload_n 0, 1) := by decide +kernel
theorem dX9_isRow_113 : decode cX9_isRow 113 = .ok (.getfield 63, 3) := by decide +kernel
theorem dX9_isRow_116 : decode cX9_isRow 116 = .ok (.bipush 22, 2) := by decide +kernel
theorem dX9_isRow_118 : decode cX9_isRow 118 = .ok (.iload 7, 2) := by decide +kernel
theorem dX9_isRow_120 : decode cX9_isRow 120 = .ok (.iadd, 1) := by decide +kernel
theorem dX9_isRow_121 : decode cX9_isRow 121 = .ok (.iaload, 1) := by decide +kernel
theorem dX9_isRow_122 : decode cX9_isRow 122 = .ok (.iastore, 1) := by decide +kernel
theorem dX9_isRow_123 : decode cX9_isRow 123 = .ok (.iinc 5 (-1), 3) := by decide +kernel
theorem dX9_isRow_126 : decode cX9_isRow 126 = .ok (.goto (-112), 3) := by decide +kernel
theorem dX9_isRow_129 : decode cX9_isRow 129 = .ok (.iconst 1, 1) := by decide +kernel
theorem dX9_isRow_130 : decode cX9_isRow 130 = .ok (.ireturn, 1) := by decide +kernel
theorem dX9_row_0 : decode cX9_row 0 = .ok (.aload_n 0, 1) := by decide +kernel
theorem dX9_row_1 : decode cX9_row 1 = .ok (.iconst 0, 1) := by decide +kernel
theorem dX9_row_2 : decode cX9_row 2 = .ok (.putfield 102, 3) := by decide +kernel
theorem dX9_row_5 : decode cX9_row 5 = .ok (.aload_n 0, 1) := by decide +kernel
theorem dX9_row_6 : decode cX9_row 6 = .ok (.iload_n 2, 1) := by decide +kernel
theorem dX9_row_7 : decode cX9_row 7 = .ok (.iconst 1, 1) := by decide +kernel
theorem dX9_row_8 : decode cX9_row 8 = .ok (.invokevirtual 396, 3) := by decide +kernel
theorem dX9_row_11 : decode cX9_row 11 = .ok (.ifCond .eq 13, 3) := by decide +kernel
theorem dX9_row_14 : decode cX9_row 14 = .ok (.aload_n 0, 1) := by decide +kernel
theorem dX9_row_15 : decode cX9_row 15 = .ok (.iload_n 1, 1) := by decide +kernel
theorem dX9_row_16 : decode cX9_row 16 = .ok (.iconst 1, 1) := by decide +kernel
theorem dX9_row_17 : decode cX9_row 17 = .ok (.iconst 2, 1) := by decide +kernel
theorem dX9_row_18 : decode cX9_row 18 = .ok (.invokevirtual 412, 3) := by decide +kernel
theorem dX9_row_21 : decode cX9_row 21 = .ok (.ifCond .ne 5, 3) := by decide +kernel
theorem dX9_row_24 : decode cX9_row 24 = .ok (.iconst 0, 1) := by decide +kernel
theorem dX9_row_25 : decode cX9_row 25 = .ok (.ireturn, 1) := by decide +kernel
theorem dX9_row_26 : decode cX9_row 26 = .ok (.aload_n 0, 1) := by decide +kernel
theorem dX9_row_27 : decode cX9_row 27 = .ok (.getfield 63, 3) := by decide +kernel
theorem dX9_row_30 : decode cX9_row 30 = .ok (.iconst 4, 1) := by decide +kernel
theorem dX9_row_31 : decode cX9_row 31 = .ok (.iaload, 1) := by decide +kernel
theorem dX9_row_32 : decode cX9_row 32 = .ok (.aload_n 0, 1) := by decide +kernel
theorem dX9_row_33 : decode cX9_row 33 = .ok (.getfield 63, 3) := by decide +kernel
theorem dX9_row_36 : decode cX9_row 36 = .ok (.iconst 3, 1) := by decide +kernel
theorem dX9_row_37 : decode cX9_row 37 = .ok (.iaload, 1) := by decide +kernel
theorem dX9_row_38 : decode cX9_row 38 = .ok (.isub, 1) := by decide +kernel
theorem dX9_row_39 : decode cX9_row 39 = .ok (.iconst 4, 1) := by decide +kernel
theorem dX9_row_40 : decode cX9_row 40 = .ok (.if_icmp .ge 19, 3) := by decide +kernel
theorem dX9_row_43 : decode cX9_row 43 = .ok (.aload_n 0, 1) := by decide +kernel
theorem dX9_row_44 : decode cX9_row 44 = .ok (.getfield 63, 3) := by decide +kernel
theorem dX9_row_47 : decode cX9_row 47 = .ok (.iconst 4, 1) := by decide +kernel
theorem dX9_row_48 : decode cX9_row 48 = .ok (.iaload, 1) := by decide +kernel
theorem dX9_row_49 : decode cX9_row 49 = .ok (.aload_n 0, 1) := by decide +kernel
theorem dX9_row_50 : decode cX9_row 50 = .ok (.getfield 63, 3) := by decide +kernel
theorem dX9_row_53 : decode cX9_row 53 = .ok (.iconst 3, 1) := by decide +kernel
theorem dX9_row_54 : decode cX9_row 54 = .ok (.iaload, 1) := by decide +kernel
theorem dX9_row_55 : decode cX9_row 55 = .ok (.isub, 1) := by decide +kernel
theorem dX9_row_56 : decode cX9_row 56 = .ok (.goto 4, 3) := by decide +kernel
theorem dX9_row_59 : decode cX9_row 59 = .ok (.iconst 4, 1) := by decide +kernel
theorem dX9_row_60 : decode cX9_row 60 = .ok (.istore_n 3, 1) := by decide +kernel
theorem dX9_row_61 : decode cX9_row 61 = .ok (.iconst (-1), 1) := by decide +kernel
theorem dX9_row_62 : decode cX9_row 62 = .ok (.istore 4, 2) := by decide +kernel
theorem dX9_row_64 : decode cX9_row 64 = .ok (.iconst (-1), 1) := by decide +kernel
theorem dX9_row_65 : decode cX9_row 65 = .ok (.istore 5, 2) := by decide +kernel
theorem dX9_row_67 : decode cX9_row 67 = .ok (.iload_n 3, 1) := by decide +kernel
theorem dX9_row_68 : decode cX9_row 68 = .ok (.ifCond .ne 7, 3) := by decide +kernel
theorem dX9_row_71 : decode cX9_row 71 = .ok (.iconst 1, 1) := by decide +kernel
theorem dX9_row_72 : decode cX9_row 72 = .ok (.goto 37, 3) := by decide +kernel
theorem dX9_row_75 : decode cX9_row 75 = .ok (.iload_n 3, 1) := by decide +kernel
theorem dX9_row_76 : decode cX9_row 76 = .ok (.iconst 1, 1) := by decide +kernel
theorem dX9_row_77 : decode cX9_row 77 = .ok (.if_icmp .ne 8, 3) := by decide +kernel
theorem dX9_row_80 : decode cX9_row 80 = .ok (.bipush 10, 2) := by decide +kernel
theorem dX9_row_82 : decode cX9_row 82 = .ok (.goto 27, 3) := by decide +kernel
theorem dX9_row_85 : decode cX9_row 85 = .ok (.iload_n 3, 1) := by decide +kernel
theorem dX9_row_86 : decode cX9_row 86 = .ok (.iconst 2, 1) := by decide +kernel
theorem dX9_row_87 : decode cX9_row 87 = .ok (.if_icmp .ne 8, 3) := by decide +kernel
theorem dX9_row_90 : decode cX9_row 90 = .ok (.bipush 100, 2) := by decide +kernel
theorem dX9_row_92 : decode cX9_row 92 = .ok (.goto 17, 3) := by decide +kernel
theorem dX9_row_95 : decode cX9_row 95 = .ok (.iload_n 3, 1) := by decide +kernel
theorem dX9_row_96 : decode cX9_row 96 = .ok (.iconst 3, 1) := by decide +kernel
theorem dX9_row_97 : decode cX9_row 97 = .ok (.if_icmp .ne 9, 3) := by decide +kernel
theorem dX9_row_100 : decode cX9_row 100 = .ok (.sipush 1000, 3) := by decide +kernel
theorem dX9_row_103 : decode cX9_row 103 = .ok (.goto 6, 3) := by decide +kernel
theorem dX9_row_106 : decode cX9_row 106 = .ok (.sipush 10000, 3) := by decide +kernel
theorem dX9_row_109 : decode cX9_row 109 = .ok (.istore 6, 2) := by decide +kernel
theorem dX9_row_111 : decode cX9_row 111 = .ok (.iconst 0, 1) := by decide +kernel
theorem dX9_row_112 : decode cX9_row 112 = .ok (.istore 7, 2) := by decide +kernel
theorem dX9_row_114 : decode cX9_row 114 = .ok (.iload 7, 2) := by decide +kernel
theorem dX9_row_116 : decode cX9_row 116 = .ok (.iload 6, 2) := by decide +kernel
theorem dX9_row_118 : decode cX9_row 118 = .ok (.if_icmp .ge 55, 3) := by decide +kernel
theorem dX9_row_121 : decode cX9_row 121 = .ok (.aload_n 0, 1) := by decide +kernel
theorem dX9_row_122 : decode cX9_row 122 = .ok (.iload 7, 2) := by decide +kernel
theorem dX9_row_124 : decode cX9_row 124 = .ok (.iload_n 3, 1) := by decide +kernel
theorem dX9_row_125 : decode cX9_row 125 = .ok (.invokevirtual 421, 3) := by decide +kernel
theorem dX9_row_128 : decode cX9_row 128 = .ok (.ifCond .ne 6, 3) := by decide +kernel
theorem dX9_row_131 : decode cX9_row 131 = .ok (.goto 36, 3) := by decide +kernel
theorem dX9_row_134 : decode cX9_row 134 = .ok (.aload_n 0, 1) := by decide +kernel
theorem dX9_row_135 : decode cX9_row 135 = .ok (.iload_n 1, 1) := by decide +kernel
theorem dX9_row_136 : decode cX9_row 136 = .ok (.invokevirtual 370, 3) := by decide +kernel
theorem dX9_row_139 : decode cX9_row 139 = .ok (.aload_n 0, 1) := by decide +kernel
theorem dX9_row_140 : decode cX9_row 140 = .ok (.getfield 63, 3) := by decide +kernel
theorem dX9_row_143 : decode cX9_row 143 = .ok (.bipush 57, 2) := by decide +kernel
theorem dX9_row_145 : decode cX9_row 145 = .ok (.iaload, 1) := by decide +kernel
theorem dX9_row_146 : decode cX9_row 146 = .ok (.iload 4, 2) := by decide +kernel
theorem dX9_row_148 : decode cX9_row 148 = .ok (.if_icmp .gt 6, 3) := by decide +kernel
theorem dX9_row_151 : decode cX9_row 151 = .ok (.goto 16, 3) := by decide +kernel
theorem dX9_row_154 : decode cX9_row 154 = .ok (.aload_n 0, 1) := by decide +kernel
theorem dX9_row_155 : decode cX9_row 155 = .ok (.getfield 63, 3) := by decide +kernel
theorem dX9_row_158 : decode cX9_row 158 = .ok (.bipush 57, 2) := by decide +kernel
theorem dX9_row_160 : decode cX9_row 160 = .ok (.iaload, 1) := by decide +kernel
theorem dX9_row_161 : decode cX9_row 161 = .ok (.istore 4, 2) := by decide +kernel
theorem dX9_row_163 : decode cX9_row 163 = .ok (.iload 7, 2) := by decide +kernel
theorem dX9_row_165 : decode cX9_row 165 = .ok (.istore 5, 2) := by decide +kernel
theorem dX9_row_167 : decode cX9_row 167 = .ok (.iinc 7 1, 3) := by decide +kernel
theorem dX9_row_170 : decode cX9_row 170 = .ok (.goto (-56), 3) := by decide +kernel
theorem dX9_row_173 : decode cX9_row 173 = .ok (.iload_n 2, 1) := by decide +kernel
theorem dX9_row_174 : decode cX9_row 174 = .ok (.ifCond .ne 8, 3) := by decide +kernel
theorem dX9_row_177 : decode cX9_row 177 = .ok (.iload 4, 2) := by decide +kernel
theorem dX9_row_179 : decode cX9_row 179 = .ok (.goto 13, 3) := by decide +kernel
theorem dX9_row_182 : decode cX9_row 182 = .ok (.iload_n 3, 1) := by decide +kernel
theorem dX9_row_183 : decode cX9_row 183 = .ok (.ifCond .ne 7, 3) := by decide +kernel
theorem dX9_row_186 : decode cX9_row 186 = .ok (.iconst (-1), 1) := by decide +kernel
theorem dX9_row_187 : decode cX9_row 187 = .ok (.goto 5, 3) := by decide +kernel
theorem dX9_row_190 : decode cX9_row 190 = .ok (.iload 5, 2) := by decide +kernel
theorem dX9_row_192 : decode cX9_row 192 = .ok (.ireturn, 1) := by decide +kernel
theorem dX9_toMortar_0 : decode cX9_toMortar 0 = .ok (.aload_n 0, 1) := by decide +kernel
theorem dX9_toMortar_1 : decode cX9_toMortar 1 = .ok (.iconst 0, 1) := by decide +kernel
theorem dX9_toMortar_2 : decode cX9_toMortar 2 = .ok (.putfield 102, 3) := by decide +kernel
theorem dX9_toMortar_5 : decode cX9_toMortar 5 = .ok (.aload_n 0, 1) := by decide +kernel
theorem dX9_toMortar_6 : decode cX9_toMortar 6 = .ok (.iload_n 1, 1) := by decide +kernel
theorem dX9_toMortar_7 : decode cX9_toMortar 7 = .ok (.iconst 1, 1) := by decide +kernel
theorem dX9_toMortar_8 : decode cX9_toMortar 8 = .ok (.iconst 1, 1) := by decide +kernel
theorem dX9_toMortar_9 : decode cX9_toMortar 9 = .ok (.invokevirtual 412, 3) := by decide +kernel
theorem dX9_toMortar_12 : decode cX9_toMortar 12 = .ok (.ifCond .ne 5, 3) := by decide +kernel
theorem dX9_toMortar_15 : decode cX9_toMortar 15 = .ok (.iconst 0, 1) := by decide +kernel
theorem dX9_toMortar_16 : decode cX9_toMortar 16 = .ok (.ireturn, 1) := by decide +kernel
theorem dX9_toMortar_17 : decode cX9_toMortar 17 = .ok (.aload_n 0, 1) := by decide +kernel
theorem dX9_toMortar_18 : decode cX9_toMortar 18 = .ok (.iload_n 1, 1) := by decide +kernel
theorem dX9_toMortar_19 : decode cX9_toMortar 19 = .ok (.invokevirtual 415, 3) := by decide +kernel
theorem dX9_toMortar_22 : decode cX9_toMortar 22 = .ok (.aload_n 0, 1) := by decide +kernel
theorem dX9_toMortar_23 : decode cX9_toMortar 23 = .ok (.getfield 63, 3) := by decide +kernel
theorem dX9_toMortar_26 : decode cX9_toMortar 26 = .ok (.bipush 57, 2) := by decide +kernel
theorem dX9_toMortar_28 : decode cX9_toMortar 28 = .ok (.iaload, 1) := by decide +kernel
theorem dX9_toMortar_29 : decode cX9_toMortar 29 = .ok (.istore_n 2, 1) := by decide +kernel
theorem dX9_toMortar_30 : decode cX9_toMortar 30 = .ok (.iconst (-1), 1) := by decide +kernel
theorem dX9_toMortar_31 : decode cX9_toMortar 31 = .ok (.istore_n 3, 1) := by decide +kernel
theorem dX9_toMortar_32 : decode cX9_toMortar 32 = .ok (.iconst 0, 1) := by decide +kernel
theorem dX9_toMortar_33 : decode cX9_toMortar 33 = .ok (.istore 4, 2) := by decide +kernel
theorem dX9_toMortar_35 : decode cX9_toMortar 35 = .ok (.iload 4, 2) := by decide +kernel
theorem dX9_toMortar_37 : decode cX9_toMortar 37 = .ok (.aload_n 0, 1) := by decide +kernel
theorem dX9_toMortar_38 : decode cX9_toMortar 38 = .ok (.getfield 63, 3) := by decide +kernel
theorem dX9_toMortar_41 : decode cX9_toMortar 41 = .ok (.iconst 3, 1) := by decide +kernel
theorem dX9_toMortar_42 : decode cX9_toMortar 42 = .ok (.iaload, 1) := by decide +kernel
theorem dX9_toMortar_43 : decode cX9_toMortar 43 = .ok (.if_icmp .ge 75, 3) := by decide +kernel
theorem dX9_toMortar_46 : decode cX9_toMortar 46 = .ok (.aload_n 0, 1) := by decide +kernel
theorem dX9_toMortar_47 : decode cX9_toMortar 47 = .ok (.getfield 63, 3) := by decide +kernel
theorem dX9_toMortar_50 : decode cX9_toMortar 50 = .ok (.bipush 22, 2) := by decide +kernel
theorem dX9_toMortar_52 : decode cX9_toMortar 52 = .ok (.iload 4, 2) := by decide +kernel
theorem dX9_toMortar_54 : decode cX9_toMortar 54 = .ok (.iadd, 1) := by decide +kernel
theorem dX9_toMortar_55 : decode cX9_toMortar 55 = .ok (.iaload, 1) := by decide +kernel
theorem dX9_toMortar_56 : decode cX9_toMortar 56 = .ok (.bipush 9, 2) := by decide +kernel
theorem dX9_toMortar_58 : decode cX9_toMortar 58 = .ok (.if_icmp .ne 6, 3) := by decide +kernel
theorem dX9_toMortar_61 : decode cX9_toMortar 61 = .ok (.goto 51, 3) := by decide +kernel
theorem dX9_toMortar_64 : decode cX9_toMortar 64 = .ok (.aload_n 0, 1) := by decide +kernel
theorem dX9_toMortar_65 : decode cX9_toMortar 65 = .ok (.invokevirtual 367, 3) := by decide +kernel
theorem dX9_toMortar_68 : decode cX9_toMortar 68 = .ok (.aload_n 0, 1) := by decide +kernel
theorem dX9_toMortar_69 : decode cX9_toMortar 69 = .ok (.getfield 63, 3) := by decide +kernel
theorem dX9_toMortar_72 : decode cX9_toMortar 72 = .ok (.bipush 76, 2) := by decide +kernel
theorem dX9_toMortar_74 : decode cX9_toMortar 74 = .ok (.iload 4, 2) := by decide +kernel
theorem dX9_toMortar_76 : decode cX9_toMortar 76 = .ok (.iadd, 1) := by decide +kernel
theorem dX9_toMortar_77 : decode cX9_toMortar 77 = .ok (.dup2, 1) := by decide +kernel
theorem dX9_toMortar_78 : decode cX9_toMortar 78 = .ok (.iaload, 1) := by decide +kernel
theorem dX9_toMortar_79 : decode cX9_toMortar 79 = .ok (.iconst 1, 1) := by decide +kernel
theorem dX9_toMortar_80 : decode cX9_toMortar 80 = .ok (.iadd, 1) := by decide +kernel
theorem dX9_toMortar_81 : decode cX9_toMortar 81 = .ok (.iastore, 1) := by decide +kernel
theorem dX9_toMortar_82 : decode cX9_toMortar 82 = .ok (.aload_n 0, 1) := by decide +kernel
theorem dX9_toMortar_83 : decode cX9_toMortar 83 = .ok (.iload_n 1, 1) := by decide +kernel
theorem dX9_toMortar_84 : decode cX9_toMortar 84 = .ok (.invokevirtual 370, 3) := by decide +kernel
theorem dX9_toMortar_87 : decode cX9_toMortar 87 = .ok (.aload_n 0, 1) := by decide +kernel
theorem dX9_toMortar_88 : decode cX9_toMortar 88 = .ok (.getfield 63, 3) := by decide +kernel
theorem dX9_toMortar_91 : decode cX9_toMortar 91 = .ok (.bipush 57, 2) := by decide +kernel
theorem dX9_toMortar_93 : decode cX9_toMortar 93 = .ok (.iaload, 1) := by decide +kernel
theorem dX9_toMortar_94 : decode cX9_toMortar 94 = .ok (.iload_n 2, 1) := by decide +kernel
theorem dX9_toMortar_95 : decode cX9_toMortar 95 = .ok (.if_icmp .gt 6, 3) := by decide +kernel
theorem dX9_toMortar_98 : decode cX9_toMortar 98 = .ok (.goto 14, 3) := by decide +kernel
theorem dX9_toMortar_101 : decode cX9_toMortar 101 = .ok (.aload_n 0, 1) := by decide +kernel
theorem dX9_toMortar_102 : decode cX9_toMortar 102 = .ok (.getfield 63, 3) := by decide +kernel
theorem dX9_toMortar_105 : decode cX9_toMortar 105 = .ok (.bipush 57, 2) := by decide +kernel
theorem dX9_toMortar_107 : decode cX9_toMortar 107 = .ok (.iaload, 1) := by decide +kernel
theorem dX9_toMortar_108 : decode cX9_toMortar 108 = .ok (.istore_n 2, 1) := by decide +kernel
theorem dX9_toMortar_109 : decode cX9_toMortar 109 = .ok (.iload 4, 2) := by decide +kernel
theorem dX9_toMortar_111 : decode cX9_toMortar 111 = .ok (.istore_n 3, 1) := by decide +kernel
theorem dX9_toMortar_112 : decode cX9_toMortar 112 = .ok (.iinc 4 1, 3) := by decide +kernel
theorem dX9_toMortar_115 : decode cX9_toMortar 115 = .ok (.goto (-80), 3) := by decide +kernel
theorem dX9_toMortar_118 : decode cX9_toMortar 118 = .ok (.iload_n 3, 1) := by decide +kernel
theorem dX9_toMortar_119 : decode cX9_toMortar 119 = .ok (.ireturn, 1) := by decide +kernel
theorem dX9_toProp_0 : decode cX9_toProp 0 = .ok (.aload_n 0, 1) := by decide +kernel
theorem dX9_toProp_1 : decode cX9_toProp 1 = .ok (.iconst 0, 1) := by decide +kernel
theorem dX9_toProp_2 : decode cX9_toProp 2 = .ok (.putfield 102, 3) := by decide +kernel
theorem dX9_toProp_5 : decode cX9_toProp 5 = .ok (.aload_n 0, 1) := by decide +kernel
theorem dX9_toProp_6 : decode cX9_toProp 6 = .ok (.iload_n 2, 1) := by decide +kernel
theorem dX9_toProp_7 : decode cX9_toProp 7 = .ok (.iconst 1, 1) := by decide +kernel
theorem dX9_toProp_8 : decode cX9_toProp 8 = .ok (.invokevirtual 396, 3) := by decide +kernel
theorem dX9_toProp_11 : decode cX9_toProp 11 = .ok (.ifCond .eq 13, 3) := by decide +kernel
theorem dX9_toProp_14 : decode cX9_toProp 14 = .ok (.aload_n 0, 1) := by decide +kernel
theorem dX9_toProp_15 : decode cX9_toProp 15 = .ok (.iload_n 1, 1) := by decide +kernel
theorem dX9_toProp_16 : decode cX9_toProp 16 = .ok (.iconst 1, 1) := by decide +kernel
theorem dX9_toProp_17 : decode cX9_toProp 17 = .ok (.iconst 2, 1) := by decide +kernel
theorem dX9_toProp_18 : decode cX9_toProp 18 = .ok (.invokevirtual 412, 3) := by decide +kernel
theorem dX9_toProp_21 : decode cX9_toProp 21 = .ok (.ifCond .ne 5, 3) := by decide +kernel
theorem dX9_toProp_24 : decode cX9_toProp 24 = .ok (.iconst 0, 1) := by decide +kernel
theorem dX9_toProp_25 : decode cX9_toProp 25 = .ok (.ireturn, 1) := by decide +kernel
theorem dX9_toProp_26 : decode cX9_toProp 26 = .ok (.iconst (-1), 1) := by decide +kernel
theorem dX9_toProp_27 : decode cX9_toProp 27 = .ok (.istore_n 3, 1) := by decide +kernel
theorem dX9_toProp_28 : decode cX9_toProp 28 = .ok (.iconst (-1), 1) := by decide +kernel
theorem dX9_toProp_29 : decode cX9_toProp 29 = .ok (.istore 4, 2) := by decide +kernel
theorem dX9_toProp_31 : decode cX9_toProp 31 = .ok (.iconst 0, 1) := by decide +kernel
theorem dX9_toProp_32 : decode cX9_toProp 32 = .ok (.istore 5, 2) := by decide +kernel
theorem dX9_toProp_34 : decode cX9_toProp 34 = .ok (.iload 5, 2) := by decide +kernel
theorem dX9_toProp_36 : decode cX9_toProp 36 = .ok (.iload_n 1, 1) := by decide +kernel
theorem dX9_toProp_37 : decode cX9_toProp 37 = .ok (.if_icmp .gt 57, 3) := by decide +kernel
theorem dX9_toProp_40 : decode cX9_toProp 40 = .ok (.aload_n 0, 1) := by decide +kernel
theorem dX9_toProp_41 : decode cX9_toProp 41 = .ok (.iload 5, 2) := by decide +kernel
theorem dX9_toProp_43 : decode cX9_toProp 43 = .ok (.invokevirtual 415, 3) := by decide +kernel
theorem dX9_toProp_46 : decode cX9_toProp 46 = .ok (.aload_n 0, 1) := by decide +kernel
theorem dX9_toProp_47 : decode cX9_toProp 47 = .ok (.getfield 63, 3) := by decide +kernel
theorem dX9_toProp_50 : decode cX9_toProp 50 = .ok (.bipush 56, 2) := by decide +kernel
theorem dX9_toProp_52 : decode cX9_toProp 52 = .ok (.iconst 0, 1) := by decide +kernel
theorem dX9_toProp_53 : decode cX9_toProp 53 = .ok (.iastore, 1) := by decide +kernel
theorem dX9_toProp_54 : decode cX9_toProp 54 = .ok (.aload_n 0, 1) := by decide +kernel
theorem dX9_toProp_55 : decode cX9_toProp 55 = .ok (.iload_n 1, 1) := by decide +kernel
theorem dX9_toProp_56 : decode cX9_toProp 56 = .ok (.iload 5, 2) := by decide +kernel
theorem dX9_toProp_58 : decode cX9_toProp 58 = .ok (.isub, 1) := by decide +kernel
theorem dX9_toProp_59 : decode cX9_toProp 59 = .ok (.invokevirtual 370, 3) := by decide +kernel
theorem dX9_toProp_62 : decode cX9_toProp 62 = .ok (.aload_n 0, 1) := by decide +kernel
theorem dX9_toProp_63 : decode cX9_toProp 63 = .ok (.getfield 63, 3) := by decide +kernel
theorem dX9_toProp_66 : decode cX9_toProp 66 = .ok (.bipush 57, 2) := by decide +kernel
theorem dX9_toProp_68 : decode cX9_toProp 68 = .ok (.iaload, 1) := by decide +kernel
theorem dX9_toProp_69 : decode cX9_toProp 69 = .ok (.iload_n 3, 1) := by decide +kernel
theorem dX9_toProp_70 : decode cX9_toProp 70 = .ok (.if_icmp .gt 6, 3) := by decide +kernel
theorem dX9_toProp_73 : decode cX9_toProp 73 = .ok (.goto 15, 3) := by decide +kernel
theorem dX9_toProp_76 : decode cX9_toProp 76 = .ok (.aload_n 0, 1) := by decide +kernel
theorem dX9_toProp_77 : decode cX9_toProp 77 = .ok (.getfield 63, 3) := by decide +kernel
theorem dX9_toProp_80 : decode cX9_toProp 80 = .ok (.bipush 57, 2) := by decide +kernel
theorem dX9_toProp_82 : decode cX9_toProp 82 = .ok (.iaload, 1) := by decide +kernel
theorem dX9_toProp_83 : decode cX9_toProp 83 = .ok (.istore_n 3, 1) := by decide +kernel
theorem dX9_toProp_84 : decode cX9_toProp 84 = .ok (.iload 5, 2) := by decide +kernel
theorem dX9_toProp_86 : decode cX9_toProp 86 = .ok (.istore 4, 2) := by decide +kernel
theorem dX9_toProp_88 : decode cX9_toProp 88 = .ok (.iinc 5 1, 3) := by decide +kernel
theorem dX9_toProp_91 : decode cX9_toProp 91 = .ok (.goto (-57), 3) := by decide +kernel
theorem dX9_toProp_94 : decode cX9_toProp 94 = .ok (.iload_n 2, 1) := by decide +kernel
theorem dX9_toProp_95 : decode cX9_toProp 95 = .ok (.ifCond .ne 8, 3) := by decide +kernel
theorem dX9_toProp_98 : decode cX9_toProp 98 = .ok (.iload 4, 2) := by decide +kernel
theorem dX9_toProp_100 : decode cX9_toProp 100 = .ok (.goto 4, 3) := by decide +kernel
theorem dX9_toProp_103 : decode cX9_toProp 103 = .ok (.iload_n 3, 1) := by decide +kernel
theorem dX9_toProp_104 : decode cX9_toProp 104 = .ok (.ireturn, 1) := by decide +kernel
theorem dX9_see_0 : decode cX9_see 0 = .ok (.aload_n 0, 1) := by decide +kernel
theorem dX9_see_1 : decode cX9_see 1 = .ok (.iconst 0, 1) := by decide +kernel
theorem dX9_see_2 : decode cX9_see 2 = .ok (.putfield 102, 3) := by decide +kernel
theorem dX9_see_5 : decode cX9_see 5 = .ok (.aload_n 0, 1) := by decide +kernel
theorem dX9_see_6 : decode cX9_see 6 = .ok (.getfield 304, 3) := by decide +kernel
theorem dX9_see_9 : decode cX9_see 9 = .ok (.bipush 8, 2) := by decide +kernel
theorem dX9_see_11 : decode cX9_see 11 = .ok (.if_icmp .eq 23, 3) := by decide +kernel
theorem dX9_see_14 : decode cX9_see 14 = .ok (.iload_n 1, 1) := by decide +kernel
theorem dX9_see_15 : decode cX9_see 15 = .ok (.iconst 0, 1) := by decide +kernel
theorem dX9_see_16 : decode cX9_see 16 = .ok (.bipush 20, 2) := by decide +kernel
theorem dX9_see_18 : decode cX9_see 18 = .ok (.invokestatic 379, 3) := by decide +kernel
theorem dX9_see_21 : decode cX9_see 21 = .ok (.ifCond .eq 13, 3) := by decide +kernel
theorem dX9_see_24 : decode cX9_see 24 = .ok (.iload_n 2, 1) := by decide +kernel
theorem dX9_see_25 : decode cX9_see 25 = .ok (.iconst 0, 1) := by decide +kernel
theorem dX9_see_26 : decode cX9_see 26 = .ok (.bipush 99, 2) := by decide +kernel
theorem dX9_see_28 : decode cX9_see 28 = .ok (.invokestatic 379, 3) := by decide +kernel
theorem dX9_see_31 : decode cX9_see 31 = .ok (.ifCond .ne 9, 3) := by decide +kernel
theorem dX9_see_34 : decode cX9_see 34 = .ok (.aload_n 0, 1) := by decide +kernel
theorem dX9_see_35 : decode cX9_see 35 = .ok (.iconst 2, 1) := by decide +kernel
theorem dX9_see_36 : decode cX9_see 36 = .ok (.invokevirtual 403, 3) := by decide +kernel
theorem dX9_see_39 : decode cX9_see 39 = .ok (.ireturn, 1) := by decide +kernel
theorem dX9_see_40 : decode cX9_see 40 = .ok (.aload_n 0, 1) := by decide +kernel
theorem dX9_see_41 : decode cX9_see 41 = .ok (.getfield 84, 3) := by decide +kernel
theorem dX9_see_44 : decode cX9_see 44 = .ok (.iconst 2, 1) := by decide +kernel
theorem dX9_see_45 : decode cX9_see 45 = .ok (.aload_n 0, 1) := by decide +kernel
theorem dX9_see_46 : decode cX9_see 46 = .ok (.getfield 304, 3) := by decide +kernel
theorem dX9_see_49 : decode cX9_see 49 = .ok (.imul, 1) := by decide +kernel
theorem dX9_see_50 : decode cX9_see 50 = .ok (.iload_n 1, 1) := by decide +kernel
theorem dX9_see_51 : decode cX9_see 51 = .ok (.iastore, 1) := by decide +kernel
theorem dX9_see_52 : decode cX9_see 52 = .ok (.aload_n 0, 1) := by decide +kernel
theorem dX9_see_53 : decode cX9_see 53 = .ok (.getfield 84, 3) := by decide +kernel
theorem dX9_see_56 : decode cX9_see 56 = .ok (.iconst 2, 1) := by decide +kernel
theorem dX9_see_57 : decode cX9_see 57 = .ok (.aload_n 0, 1) := by decide +kernel
theorem dX9_see_58 : decode cX9_see 58 = .ok (.getfield 304, 3) := by decide +kernel
theorem dX9_see_61 : decode cX9_see 61 = .ok (.imul, 1) := by decide +kernel
theorem dX9_see_62 : decode cX9_see 62 = .ok (.iconst 1, 1) := by decide +kernel
theorem dX9_see_63 : decode cX9_see 63 = .ok (.iadd, 1) := by decide +kernel
theorem dX9_see_64 : decode cX9_see 64 = .ok (.iload_n 2, 1) := by decide +kernel
theorem dX9_see_65 : decode cX9_see 65 = .ok (.iastore, 1) := by decide +kernel
theorem dX9_see_66 : decode cX9_see 66 = .ok (.aload_n 0, 1) := by decide +kernel
theorem dX9_see_67 : decode cX9_see 67 = .ok (.dup, 1) := by decide +kernel
theorem dX9_see_68 : decode cX9_see 68 = .ok (.getfield 304, 3) := by decide +kernel
theorem dX9_see_71 : decode cX9_see 71 = .ok (.iconst 1, 1) := by decide +kernel
theorem dX9_see_72 : decode cX9_see 72 = .ok (.iadd, 1) := by decide +kernel
theorem dX9_see_73 : decode cX9_see 73 = .ok (.putfield 304, 3) := by decide +kernel
theorem dX9_see_76 : decode cX9_see 76 = .ok (.aload_n 0, 1) := by decide +kernel
theorem dX9_see_77 : decode cX9_see 77 = .ok (.getfield 304, 3) := by decide +kernel
theorem dX9_see_80 : decode cX9_see 80 = .ok (.ireturn, 1) := by decide +kernel
theorem dX9_forget_0 : decode cX9_forget 0 = .ok (.aload_n 0, 1) := by decide +kernel
theorem dX9_forget_1 : decode cX9_forget 1 = .ok (.iconst 0, 1) := by decide +kernel
theorem dX9_forget_2 : decode cX9_forget 2 = .ok (.putfield 102, 3) := by decide +kernel
theorem dX9_forget_5 : decode cX9_forget 5 = .ok (.aload_n 0, 1) := by decide +kernel
theorem dX9_forget_6 : decode cX9_forget 6 = .ok (.iconst 0, 1) := by decide +kernel
theorem dX9_forget_7 : decode cX9_forget 7 = .ok (.putfield 304, 3) := by decide +kernel
theorem dX9_forget_10 : decode cX9_forget 10 = .ok (.return_, 1) := by decide +kernel
theorem dX9_isSeen_0 : decode cX9_isSeen 0 = .ok (.iconst 0, 1) := by decide +kernel
theorem dX9_isSeen_1 : decode cX9_isSeen 1 = .ok (.istore_n 1, 1) := by decide +kernel
theorem dX9_isSeen_2 : decode cX9_isSeen 2 = .ok (.iload_n 1, 1) := by decide +kernel
theorem dX9_isSeen_3 : decode cX9_isSeen 3 = .ok (.bipush 20, 2) := by decide +kernel
theorem dX9_isSeen_5 : decode cX9_isSeen 5 = .ok (.if_icmp .gt 90, 3) := by decide +kernel
theorem dX9_isSeen_8 : decode cX9_isSeen 8 = .ok (.iconst 0, 1) := by decide +kernel
theorem dX9_isSeen_9 : decode cX9_isSeen 9 = .ok (.istore_n 2, 1) := by decide +kernel
theorem dX9_isSeen_10 : decode cX9_isSeen 10 = .ok (.iload_n 2, 1) := by decide +kernel
theorem dX9_isSeen_11 : decode cX9_isSeen 11 = .ok (.aload_n 0, 1) := by decide +kernel
theorem dX9_isSeen_12 : decode cX9_isSeen 12 = .ok (.getfield 304, 3) := by decide +kernel
theorem dX9_isSeen_15 : decode cX9_isSeen 15 = .ok (.if_icmp .ge 43, 3) := by decide +kernel
theorem dX9_isSeen_18 : decode cX9_isSeen 18 = .ok (.aload_n 0, 1) := by decide +kernel
theorem dX9_isSeen_19 : decode cX9_isSeen 19 = .ok (.getfield 84, 3) := by decide +kernel
theorem dX9_isSeen_22 : decode cX9_isSeen 22 = .ok (.iconst 2, 1) := by decide +kernel
theorem dX9_isSeen_23 : decode cX9_isSeen 23 = .ok (.iload_n 2, 1) := by decide +kernel
theorem dX9_isSeen_24 : decode cX9_isSeen 24 = .ok (.imul, 1) := by decide +kernel
theorem dX9_isSeen_25 : decode cX9_isSeen 25 = .ok (.iaload, 1) := by decide +kernel
theorem dX9_isSeen_26 : decode cX9_isSeen 26 = .ok (.iload_n 1, 1) := by decide +kernel
theorem dX9_isSeen_27 : decode cX9_isSeen 27 = .ok (.if_icmp .ne 25, 3) := by decide +kernel
theorem dX9_isSeen_30 : decode cX9_isSeen 30 = .ok (.aload_n 0, 1) := by decide +kernel
theorem dX9_isSeen_31 : decode cX9_isSeen 31 = .ok (.getfield 63, 3) := by decide +kernel
theorem dX9_isSeen_34 : decode cX9_isSeen 34 = .ok (.bipush 56, 2) := by decide +kernel
theorem dX9_isSeen_36 : decode cX9_isSeen 36 = .ok (.iaload, 1) := by decide +kernel
theorem dX9_isSeen_37 : decode cX9_isSeen 37 = .ok (.aload_n 0, 1) := by decide +kernel
theorem dX9_isSeen_38 : decode cX9_isSeen 38 = .ok (.getfield 84, 3) := by decide +kernel
theorem dX9_isSeen_41 : decode cX9_isSeen 41 = .ok (.iconst 2, 1) := by decide +kernel
theorem dX9_isSeen_42 : decode cX9_isSeen 42 = .ok (.iload_n 2, 1) := by decide +kernel
theorem dX9_isSeen_43 : decode cX9_isSeen 43 = .ok (.imul, 1) := by decide +kernel
theorem dX9_isSeen_44 : decode cX9_isSeen 44 = .ok (.iconst 1, 1) := by decide +kernel
theorem dX9_isSeen_45 : decode cX9_isSeen 45 = .ok (.iadd, 1) := by decide +kernel
theorem dX9_isSeen_46 : decode cX9_isSeen 46 = .ok (.iaload, 1) := by decide +kernel
theorem dX9_isSeen_47 : decode cX9_isSeen 47 = .ok (.if_icmp .eq 5, 3) := by decide +kernel
theorem dX9_isSeen_50 : decode cX9_isSeen 50 = .ok (.iconst 0, 1) := by decide +kernel
theorem dX9_isSeen_51 : decode cX9_isSeen 51 = .ok (.ireturn, 1) := by decide +kernel
theorem dX9_isSeen_52 : decode cX9_isSeen 52 = .ok (.iinc 2 1, 3) := by decide +kernel
theorem dX9_isSeen_55 : decode cX9_isSeen 55 = .ok (.goto (-45), 3) := by decide +kernel
theorem dX9_isSeen_58 : decode cX9_isSeen 58 = .ok (.iload_n 1, 1) := by decide +kernel
theorem dX9_isSeen_59 : decode cX9_isSeen 59 = .ok (.ifCond .le 24, 3) := by decide +kernel
theorem dX9_isSeen_62 : decode cX9_isSeen 62 = .ok (.iload_n 1, 1) := by decide +kernel
theorem dX9_isSeen_63 : decode cX9_isSeen 63 = .ok (.bipush 6, 2) := by decide +kernel
theorem dX9_isSeen_65 : decode cX9_isSeen 65 = .ok (.if_icmp .ge 18, 3) := by decide +kernel
theorem dX9_isSeen_68 : decode cX9_isSeen 68 = .ok (.aload_n 0, 1) := by decide +kernel
theorem dX9_isSeen_69 : decode cX9_isSeen 69 = .ok (.getfield 87, 3) := by decide +kernel
theorem dX9_isSeen_72 : decode cX9_isSeen 72 = .ok (.iload_n 1, 1) := by decide +kernel
theorem dX9_isSeen_73 : decode cX9_isSeen 73 = .ok (.iconst 1, 1) := by decide +kernel
theorem dX9_isSeen_74 : decode cX9_isSeen 74 = .ok (.isub, 1) := by decide +kernel
theorem dX9_isSeen_75 : decode cX9_isSeen 75 = .ok (.aload_n 0, 1) := by decide +kernel
theorem dX9_isSeen_76 : decode cX9_isSeen 76 = .ok (.getfield 63, 3) := by decide +kernel
theorem dX9_isSeen_79 : decode cX9_isSeen 79 = .ok (.bipush 56, 2) := by decide +kernel
theorem dX9_isSeen_81 : decode cX9_isSeen 81 = .ok (.iaload, 1) := by decide +kernel
theorem dX9_isSeen_82 : decode cX9_isSeen 82 = .ok (.iastore, 1) := by decide +kernel
theorem dX9_isSeen_83 : decode cX9_isSeen 83 = .ok (.aload_n 0, 1) := by decide +kernel
theorem dX9_isSeen_84 : decode cX9_isSeen 84 = .ok (.bipush 54, 2) := by decide +kernel
theorem dX9_isSeen_86 : decode cX9_isSeen 86 = .ok (.invokevirtual 364, 3) := by decide +kernel
theorem dX9_isSeen_89 : decode cX9_isSeen 89 = .ok (.iinc 1 1, 3) := by decide +kernel
theorem dX9_isSeen_92 : decode cX9_isSeen 92 = .ok (.goto (-90), 3) := by decide +kernel
theorem dX9_isSeen_95 : decode cX9_isSeen 95 = .ok (.iconst 1, 1) := by decide +kernel
theorem dX9_isSeen_96 : decode cX9_isSeen 96 = .ok (.ireturn, 1) := by decide +kernel
theorem dX9_isGuess_0 : decode cX9_isGuess 0 = .ok (.iload_n 1, 1) := by decide +kernel
theorem dX9_isGuess_1 : decode cX9_isGuess 1 = .ok (.bipush 10, 2) := by decide +kernel
theorem dX9_isGuess_3 : decode cX9_isGuess 3 = .ok (.idiv, 1) := by decide +kernel
theorem dX9_isGuess_4 : decode cX9_isGuess 4 = .ok (.istore_n 2, 1) := by decide +kernel
theorem dX9_isGuess_5 : decode cX9_isGuess 5 = .ok (.iload_n 1, 1) := by decide +kernel
theorem dX9_isGuess_6 : decode cX9_isGuess 6 = .ok (.bipush 10, 2) := by decide +kernel
theorem dX9_isGuess_8 : decode cX9_isGuess 8 = .ok (.irem, 1) := by decide +kernel
theorem dX9_isGuess_9 : decode cX9_isGuess 9 = .ok (.ifCond .eq 19, 3) := by decide +kernel
theorem dX9_isGuess_12 : decode cX9_isGuess 12 = .ok (.aload_n 0, 1) := by decide +kernel
theorem dX9_isGuess_13 : decode cX9_isGuess 13 = .ok (.getfield 63, 3) := by decide +kernel
theorem dX9_isGuess_16 : decode cX9_isGuess 16 = .ok (.bipush 6, 2) := by decide +kernel
theorem dX9_isGuess_18 : decode cX9_isGuess 18 = .ok (.iload_n 2, 1) := by decide +kernel
theorem dX9_isGuess_19 : decode cX9_isGuess 19 = .ok (.iadd, 1) := by decide +kernel
theorem dX9_isGuess_20 : decode cX9_isGuess 20 = .ok (.iaload, 1) := by decide +kernel
theorem dX9_isGuess_21 : decode cX9_isGuess 21 = .ok (.iload_n 1, 1) := by decide +kernel
theorem dX9_isGuess_22 : decode cX9_isGuess 22 = .ok (.bipush 10, 2) := by decide +kernel
theorem dX9_isGuess_24 : decode cX9_isGuess 24 = .ok (.irem, 1) := by decide +kernel
theorem dX9_isGuess_25 : decode cX9_isGuess 25 = .ok (.if_icmp .ne 5, 3) := by decide +kernel
theorem dX9_isGuess_28 : decode cX9_isGuess 28 = .ok (.iconst 0, 1) := by decide +kernel
theorem dX9_isGuess_29 : decode cX9_isGuess 29 = .ok (.ireturn, 1) := by decide +kernel
theorem dX9_isGuess_30 : decode cX9_isGuess 30 = .ok (.aload_n 0, 1) := by decide +kernel
theorem dX9_isGuess_31 : decode cX9_isGuess 31 = .ok (.invokevirtual 367, 3) := by decide +kernel
theorem dX9_isGuess_34 : decode cX9_isGuess 34 = .ok (.aload_n 0, 1) := by decide +kernel
theorem dX9_isGuess_35 : decode cX9_isGuess 35 = .ok (.getfield 63, 3) := by decide +kernel
theorem dX9_isGuess_38 : decode cX9_isGuess 38 = .ok (.bipush 60, 2) := by decide +kernel
theorem dX9_isGuess_40 : decode cX9_isGuess 40 = .ok (.iload_n 2, 1) := by decide +kernel
theorem dX9_isGuess_41 : decode cX9_isGuess 41 = .ok (.iadd, 1) := by decide +kernel
theorem dX9_isGuess_42 : decode cX9_isGuess 42 = .ok (.iload_n 1, 1) := by decide +kernel
theorem dX9_isGuess_43 : decode cX9_isGuess 43 = .ok (.bipush 10, 2) := by decide +kernel
theorem dX9_isGuess_45 : decode cX9_isGuess 45 = .ok (.irem, 1) := by decide +kernel
theorem dX9_isGuess_46 : decode cX9_isGuess 46 = .ok (.iastore, 1) := by decide +kernel
theorem dX9_isGuess_47 : decode cX9_isGuess 47 = .ok (.aload_n 0, 1) := by decide +kernel
theorem dX9_isGuess_48 : decode cX9_isGuess 48 = .ok (.invokevirtual 424, 3) := by decide +kernel
theorem dX9_isGuess_51 : decode cX9_isGuess 51 = .ok (.ireturn, 1) := by decide +kernel
theorem dX9_heavy_0 : decode cX9_heavy 0 = .ok (.aload_n 0, 1) := by decide +kernel
theorem dX9_heavy_1 : decode cX9_heavy 1 = .ok (.iconst 0, 1) := by decide +kernel
theorem dX9_heavy_2 : decode cX9_heavy 2 = .ok (.putfield 102, 3) := by decide +kernel
theorem dX9_heavy_5 : decode cX9_heavy 5 = .ok (.aload_n 0, 1) := by decide +kernel
theorem dX9_heavy_6 : decode cX9_heavy 6 = .ok (.iload_n 1, 1) := by decide +kernel
theorem dX9_heavy_7 : decode cX9_heavy 7 = .ok (.iconst 2, 1) := by decide +kernel
theorem dX9_heavy_8 : decode cX9_heavy 8 = .ok (.invokevirtual 396, 3) := by decide +kernel
theorem dX9_heavy_11 : decode cX9_heavy 11 = .ok (.ifCond .ne 5, 3) := by decide +kernel
theorem dX9_heavy_14 : decode cX9_heavy 14 = .ok (.iconst 0, 1) := by decide +kernel
theorem dX9_heavy_15 : decode cX9_heavy 15 = .ok (.ireturn, 1) := by decide +kernel
theorem dX9_heavy_16 : decode cX9_heavy 16 = .ok (.iload_n 1, 1) := by decide +kernel
theorem dX9_heavy_17 : decode cX9_heavy 17 = .ok (.iconst 2, 1) := by decide +kernel
theorem dX9_heavy_18 : decode cX9_heavy 18 = .ok (.if_icmp .ne 20, 3) := by decide +kernel
theorem dX9_heavy_21 : decode cX9_heavy 21 = .ok (.aload_n 0, 1) := by decide +kernel
theorem dX9_heavy_22 : decode cX9_heavy 22 = .ok (.invokevirtual 367, 3) := by decide +kernel
theorem dX9_heavy_25 : decode cX9_heavy 25 = .ok (.aload_n 0, 1) := by decide +kernel
theorem dX9_heavy_26 : decode cX9_heavy 26 = .ok (.invokevirtual 424, 3) := by decide +kernel
theorem dX9_heavy_29 : decode cX9_heavy 29 = .ok (.ifCond .eq 7, 3) := by decide +kernel
theorem dX9_heavy_32 : decode cX9_heavy 32 = .ok (.iconst 1, 1) := by decide +kernel
theorem dX9_heavy_33 : decode cX9_heavy 33 = .ok (.goto 4, 3) := by decide +kernel
theorem dX9_heavy_36 : decode cX9_heavy 36 = .ok (.iconst 0, 1) := by decide +kernel
theorem dX9_heavy_37 : decode cX9_heavy 37 = .ok (.ireturn, 1) := by decide +kernel
theorem dX9_heavy_38 : decode cX9_heavy 38 = .ok (.iconst 0, 1) := by decide +kernel
theorem dX9_heavy_39 : decode cX9_heavy 39 = .ok (.istore_n 2, 1) := by decide +kernel
theorem dX9_heavy_40 : decode cX9_heavy 40 = .ok (.iconst (-1), 1) := by decide +kernel
theorem dX9_heavy_41 : decode cX9_heavy 41 = .ok (.istore_n 3, 1) := by decide +kernel
theorem dX9_heavy_42 : decode cX9_heavy 42 = .ok (.iconst 0, 1) := by decide +kernel
theorem dX9_heavy_43 : decode cX9_heavy 43 = .ok (.istore 4, 2) := by decide +kernel
theorem dX9_heavy_45 : decode cX9_heavy 45 = .ok (.iload 4, 2) := by decide +kernel
theorem dX9_heavy_47 : decode cX9_heavy 47 = .ok (.bipush 10, 2) := by decide +kernel
theorem dX9_heavy_49 : decode cX9_heavy 49 = .ok (.aload_n 0, 1) := by decide +kernel
theorem dX9_heavy_50 : decode cX9_heavy 50 = .ok (.getfield 63, 3) := by decide +kernel
theorem dX9_heavy_53 : decode cX9_heavy 53 = .ok (.iconst 3, 1) := by decide +kernel
theorem dX9_heavy_54 : decode cX9_heavy 54 = .ok (.iaload, 1) := by decide +kernel
theorem dX9_heavy_55 : decode cX9_heavy 55 = .ok (.imul, 1) := by decide +kernel
theorem dX9_heavy_56 : decode cX9_heavy 56 = .ok (.if_icmp .ge 32, 3) := by decide +kernel
theorem dX9_heavy_59 : decode cX9_heavy 59 = .ok (.aload_n 0, 1) := by decide +kernel
theorem dX9_heavy_60 : decode cX9_heavy 60 = .ok (.iload 4, 2) := by decide +kernel
theorem dX9_heavy_62 : decode cX9_heavy 62 = .ok (.invokevirtual 427, 3) := by decide +kernel
theorem dX9_heavy_65 : decode cX9_heavy 65 = .ok (.ifCond .ne 6, 3) := by decide +kernel
theorem dX9_heavy_68 : decode cX9_heavy 68 = .ok (.goto 14, 3) := by decide +kernel
theorem dX9_heavy_71 : decode cX9_heavy 71 = .ok (.iinc 2 1, 3) := by decide +kernel
theorem dX9_heavy_74 : decode cX9_heavy 74 = .ok (.iload_n 3, 1) := by decide +kernel
theorem dX9_heavy_75 : decode cX9_heavy 75 = .ok (.iconst (-1), 1) := by decide +kernel
theorem dX9_heavy_76 : decode cX9_heavy 76 = .ok (.if_icmp .ne 6, 3) := by decide +kernel
theorem dX9_heavy_79 : decode cX9_heavy 79 = .ok (.iload 4, 2) := by decide +kernel
theorem dX9_heavy_81 : decode cX9_heavy 81 = .ok (.istore_n 3, 1) := by decide +kernel
theorem dX9_heavy_82 : decode cX9_heavy 82 = .ok (.iinc 4 1, 3) := by decide +kernel
theorem dX9_heavy_85 : decode cX9_heavy 85 = .ok (.goto (-40), 3) := by decide +kernel
theorem dX9_heavy_88 : decode cX9_heavy 88 = .ok (.iload_n 1, 1) := by decide +kernel
theorem dX9_heavy_89 : decode cX9_heavy 89 = .ok (.ifCond .ne 7, 3) := by decide +kernel
theorem dX9_heavy_92 : decode cX9_heavy 92 = .ok (.iload_n 2, 1) := by decide +kernel
theorem dX9_heavy_93 : decode cX9_heavy 93 = .ok (.goto 4, 3) := by decide +kernel
theorem dX9_heavy_96 : decode cX9_heavy 96 = .ok (.iload_n 3, 1) := by decide +kernel
theorem dX9_heavy_97 : decode cX9_heavy 97 = .ok (.ireturn, 1) := by decide +kernel
theorem dX9_look_0 : decode cX9_look 0 = .ok (.aload_n 0, 1) := by decide +kernel
theorem dX9_look_1 : decode cX9_look 1 = .ok (.iconst 0, 1) := by decide +kernel
theorem dX9_look_2 : decode cX9_look 2 = .ok (.putfield 102, 3) := by decide +kernel
theorem dX9_look_5 : decode cX9_look 5 = .ok (.aload_n 0, 1) := by decide +kernel
theorem dX9_look_6 : decode cX9_look 6 = .ok (.iload_n 1, 1) := by decide +kernel
theorem dX9_look_7 : decode cX9_look 7 = .ok (.iconst 1, 1) := by decide +kernel
theorem dX9_look_8 : decode cX9_look 8 = .ok (.invokevirtual 396, 3) := by decide +kernel
theorem dX9_look_11 : decode cX9_look 11 = .ok (.ifCond .ne 5, 3) := by decide +kernel
theorem dX9_look_14 : decode cX9_look 14 = .ok (.iconst 0, 1) := by decide +kernel
theorem dX9_look_15 : decode cX9_look 15 = .ok (.ireturn, 1) := by decide +kernel
theorem dX9_look_16 : decode cX9_look 16 = .ok (.iconst 0, 1) := by decide +kernel
theorem dX9_look_17 : decode cX9_look 17 = .ok (.istore_n 2, 1) := by decide +kernel
theorem dX9_look_18 : decode cX9_look 18 = .ok (.iconst 0, 1) := by decide +kernel
theorem dX9_look_19 : decode cX9_look 19 = .ok (.istore_n 3, 1) := by decide +kernel
theorem dX9_look_20 : decode cX9_look 20 = .ok (.iload_n 3, 1) := by decide +kernel
theorem dX9_look_21 : decode cX9_look 21 = .ok (.bipush 10, 2) := by decide +kernel
theorem dX9_look_23 : decode cX9_look 23 = .ok (.aload_n 0, 1) := by decide +kernel
theorem dX9_look_24 : decode cX9_look 24 = .ok (.getfield 63, 3) := by decide +kernel
theorem dX9_look_27 : decode cX9_look 27 = .ok (.iconst 3, 1) := by decide +kernel
theorem dX9_look_28 : decode cX9_look 28 = .ok (.iaload, 1) := by decide +kernel
theorem dX9_look_29 : decode cX9_look 29 = .ok (.imul, 1) := by decide +kernel
theorem dX9_look_30 : decode cX9_look 30 = .ok (.if_icmp .ge 56, 3) := by decide +kernel
theorem dX9_look_33 : decode cX9_look 33 = .ok (.aload_n 0, 1) := by decide +kernel
theorem dX9_look_34 : decode cX9_look 34 = .ok (.iload_n 3, 1) := by decide +kernel
theorem dX9_look_35 : decode cX9_look 35 = .ok (.invokevirtual 427, 3) := by decide +kernel
theorem dX9_look_38 : decode cX9_look 38 = .ok (.ifCond .ne 6, 3) := by decide +kernel
theorem dX9_look_41 : decode cX9_look 41 = .ok (.goto 39, 3) := by decide +kernel
theorem dX9_look_44 : decode cX9_look 44 = .ok (.iconst 0, 1) := by decide +kernel
theorem dX9_look_45 : decode cX9_look 45 = .ok (.istore 4, 2) := by decide +kernel
theorem dX9_look_47 : decode cX9_look 47 = .ok (.iload 4, 2) := by decide +kernel
theorem dX9_look_49 : decode cX9_look 49 = .ok (.iconst 5, 1) := by decide +kernel
theorem dX9_look_50 : decode cX9_look 50 = .ok (.if_icmp .ge 27, 3) := by decide +kernel
theorem dX9_look_53 : decode cX9_look 53 = .ok (.aload_n 0, 1) := by decide +kernel
theorem dX9_look_54 : decode cX9_look 54 = .ok (.getfield 90, 3) := by decide +kernel
theorem dX9_look_57 : decode cX9_look 57 = .ok (.iconst 5, 1) := by decide +kernel
theorem dX9_look_58 : decode cX9_look 58 = .ok (.iload_n 2, 1) := by decide +kernel
theorem dX9_look_59 : decode cX9_look 59 = .ok (.imul, 1) := by decide +kernel
theorem dX9_look_60 : decode cX9_look 60 = .ok (.iload 4, 2) := by decide +kernel
theorem dX9_look_62 : decode cX9_look 62 = .ok (.iadd, 1) := by decide +kernel
theorem dX9_look_63 : decode cX9_look 63 = .ok (.aload_n 0, 1) := by decide +kernel
theorem dX9_look_64 : decode cX9_look 64 = .ok (.getfield 87, 3) := by decide +kernel
theorem dX9_look_67 : decode cX9_look 67 = .ok (.iload 4, 2) := by decide +kernel
theorem dX9_look_69 : decode cX9_look 69 = .ok (.iaload, 1) := by decide +kernel
theorem dX9_look_70 : decode cX9_look 70 = .ok (.iastore, 1) := by decide +kernel
theorem dX9_look_71 : decode cX9_look 71 = .ok (.iinc 4 1, 3) := by decide +kernel
theorem dX9_look_74 : decode cX9_look 74 = .ok (.goto (-27), 3) := by decide +kernel
theorem dX9_look_77 : decode cX9_look 77 = .ok (.iinc 2 1, 3) := by decide +kernel
theorem dX9_look_80 : decode cX9_look 80 = .ok (.iinc 3 1, 3) := by decide +kernel
theorem dX9_look_83 : decode cX9_look 83 = .ok (.goto (-63), 3) := by decide +kernel
theorem dX9_look_86 : decode cX9_look 86 = .ok (.iconst (-1), 1) := by decide +kernel
theorem dX9_look_87 : decode cX9_look 87 = .ok (.istore_n 3, 1) := by decide +kernel
theorem dX9_look_88 : decode cX9_look 88 = .ok (.iconst 0, 1) := by decide +kernel
theorem dX9_look_89 : decode cX9_look 89 = .ok (.istore 4, 2) := by decide +kernel
theorem dX9_look_91 : decode cX9_look 91 = .ok (.iconst 0, 1) := by decide +kernel
theorem dX9_look_92 : decode cX9_look 92 = .ok (.istore 5, 2) := by decide +kernel
theorem dX9_look_94 : decode cX9_look 94 = .ok (.iload 5, 2) := by decide +kernel
theorem dX9_look_96 : decode cX9_look 96 = .ok (.iconst 5, 1) := by decide +kernel
theorem dX9_look_97 : decode cX9_look 97 = .ok (.if_icmp .ge 119, 3) := by decide +kernel
theorem dX9_look_100 : decode cX9_look 100 = .ok (.iconst 0, 1) := by decide +kernel
theorem dX9_look_101 : decode cX9_look 101 = .ok (.istore 6, 2) := by decide +kernel
theorem dX9_look_103 : decode cX9_look 103 = .ok (.iconst 0, 1) := by decide +kernel
theorem dX9_look_104 : decode cX9_look 104 = .ok (.istore 7, 2) := by decide +kernel
theorem dX9_look_106 : decode cX9_look 106 = .ok (.iload 7, 2) := by decide +kernel
theorem dX9_look_108 : decode cX9_look 108 = .ok (.iload_n 2, 1) := by decide +kernel
theorem dX9_look_109 : decode cX9_look 109 = .ok (.if_icmp .ge 82, 3) := by decide +kernel
theorem dX9_look_112 : decode cX9_look 112 = .ok (.iconst 1, 1) := by decide +kernel
theorem dX9_look_113 : decode cX9_look 113 = .ok (.istore 8, 2) := by decide +kernel
theorem dX9_look_115 : decode cX9_look 115 = .ok (.iconst 0, 1) := by decide +kernel
theorem dX9_look_116 : decode cX9_look 116 = .ok (.istore 9, 2) := by decide +kernel
theorem dX9_look_118 : decode cX9_look 118 = .ok (.iload 9, 2) := by decide +kernel
theorem dX9_look_120 : decode cX9_look 120 = .ok (.iload 7, 2) := by decide +kernel
theorem dX9_look_122 : decode cX9_look 122 = .ok (.if_icmp .ge 48, 3) := by decide +kernel
theorem dX9_look_125 : decode cX9_look 125 = .ok (.iload 8, 2) := by decide +kernel
theorem dX9_look_127 : decode cX9_look 127 = .ok (.ifCond .eq 43, 3) := by decide +kernel
theorem dX9_look_130 : decode cX9_look 130 = .ok (.aload_n 0, 1) := by decide +kernel
theorem dX9_look_131 : decode cX9_look 131 = .ok (.getfield 90, 3) := by decide +kernel
theorem dX9_look_134 : decode cX9_look 134 = .ok (.iconst 5, 1) := by decide +kernel
theorem dX9_look_135 : decode cX9_look 135 = .ok (.iload 7, 2) := by decide +kernel
theorem dX9_look_137 : decode cX9_look 137 = .ok (.imul, 1) := by decide +kernel
theorem dX9_look_138 : decode cX9_look 138 = .ok (.iload 5, 2) := by decide +kernel
theorem dX9_look_140 : decode cX9_look 140 = .ok (.iadd, 1) := by decide +kernel
theorem dX9_look_141 : decode cX9_look 141 = .ok (.iaload, 1) := by decide +kernel
theorem dX9_look_142 : decode cX9_look 142 = .ok (.aload_n 0, 1) := by decide +kernel
theorem dX9_look_143 : decode cX9_look 143 = .ok (.getfield 90, 3) := by decide +kernel
theorem dX9_look_146 : decode cX9_look 146 = .ok (.iconst 5, 1) := by decide +kernel
theorem dX9_look_147 : decode cX9_look 147 = .ok (.iload 9, 2) := by decide +kernel
theorem dX9_look_149 : decode cX9_look 149 = .ok (.imul, 1) := by decide +kernel
theorem dX9_look_150 : decode cX9_look 150 = .ok (.iload 5, 2) := by decide +kernel
theorem dX9_look_152 : decode cX9_look 152 = .ok (.iadd, 1) := by decide +kernel
theorem dX9_look_153 : decode cX9_look 153 = .ok (.iaload, 1) := by decide +kernel
theorem dX9_look_154 : decode cX9_look 154 = .ok (.if_icmp .eq 7, 3) := by decide +kernel
theorem dX9_look_157 : decode cX9_look 157 = .ok (.iconst 1, 1) := by decide +kernel
theorem dX9_look_158 : decode cX9_look 158 = .ok (.goto 4, 3) := by decide +kernel
theorem dX9_look_161 : decode cX9_look 161 = .ok (.iconst 0, 1) := by decide +kernel
theorem dX9_look_162 : decode cX9_look 162 = .ok (.istore 8, 2) := by decide +kernel
theorem dX9_look_164 : decode cX9_look 164 = .ok (.iinc 9 1, 3) := by decide +kernel
theorem dX9_look_167 : decode cX9_look 167 = .ok (.goto (-49), 3) := by decide +kernel
theorem dX9_look_170 : decode cX9_look 170 = .ok (.iload 6, 2) := by decide +kernel
theorem dX9_look_172 : decode cX9_look 172 = .ok (.iload 8, 2) := by decide +kernel
theorem dX9_look_174 : decode cX9_look 174 = .ok (.ifCond .eq 7, 3) := by decide +kernel
theorem dX9_look_177 : decode cX9_look 177 = .ok (.iconst 1, 1) := by decide +kernel
theorem dX9_look_178 : decode cX9_look 178 = .ok (.goto 4, 3) := by decide +kernel
theorem dX9_look_181 : decode cX9_look 181 = .ok (.iconst 0, 1) := by decide +kernel
theorem dX9_look_182 : decode cX9_look 182 = .ok (.iadd, 1) := by decide +kernel
theorem dX9_look_183 : decode cX9_look 183 = .ok (.istore 6, 2) := by decide +kernel
theorem dX9_look_185 : decode cX9_look 185 = .ok (.iinc 7 1, 3) := by decide +kernel
theorem dX9_look_188 : decode cX9_look 188 = .ok (.goto (-82), 3) := by decide +kernel
theorem dX9_look_191 : decode cX9_look 191 = .ok (.iload 6, 2) := by decide +kernel
theorem dX9_look_193 : decode cX9_look 193 = .ok (.iload 4, 2) := by decide +kernel
theorem dX9_look_195 : decode cX9_look 195 = .ok (.if_icmp .gt 6, 3) := by decide +kernel
theorem dX9_look_198 : decode cX9_look 198 = .ok (.goto 12, 3) := by decide +kernel
theorem dX9_look_201 : decode cX9_look 201 = .ok (.iload 5, 2) := by decide +kernel
theorem dX9_look_203 : decode cX9_look 203 = .ok (.iconst 1, 1) := by decide +kernel
theorem dX9_look_204 : decode cX9_look 204 = .ok (.iadd, 1) := by decide +kernel
theorem dX9_look_205 : decode cX9_look 205 = .ok (.istore_n 3, 1) := by decide +kernel
theorem dX9_look_206 : decode cX9_look 206 = .ok (.iload 6, 2) := by decide +kernel
theorem dX9_look_208 : decode cX9_look 208 = .ok (.istore 4, 2) := by decide +kernel
theorem dX9_look_210 : decode cX9_look 210 = .ok (.iinc 5 1, 3) := by decide +kernel
theorem dX9_look_213 : decode cX9_look 213 = .ok (.goto (-119), 3) := by decide +kernel
theorem dX9_look_216 : decode cX9_look 216 = .ok (.iload_n 1, 1) := by decide +kernel
theorem dX9_look_217 : decode cX9_look 217 = .ok (.ifCond .ne 7, 3) := by decide +kernel
theorem dX9_look_220 : decode cX9_look 220 = .ok (.iload_n 3, 1) := by decide +kernel
theorem dX9_look_221 : decode cX9_look 221 = .ok (.goto 5, 3) := by decide +kernel
theorem dX9_look_224 : decode cX9_look 224 = .ok (.iload 4, 2) := by decide +kernel
theorem dX9_look_226 : decode cX9_look 226 = .ok (.ireturn, 1) := by decide +kernel
theorem dX9_gales_0 : decode cX9_gales 0 = .ok (.aload_n 0, 1) := by decide +kernel
theorem dX9_gales_1 : decode cX9_gales 1 = .ok (.iconst 0, 1) := by decide +kernel
theorem dX9_gales_2 : decode cX9_gales 2 = .ok (.putfield 102, 3) := by decide +kernel
theorem dX9_gales_5 : decode cX9_gales 5 = .ok (.aload_n 0, 1) := by decide +kernel
theorem dX9_gales_6 : decode cX9_gales 6 = .ok (.iload_n 1, 1) := by decide +kernel
theorem dX9_gales_7 : decode cX9_gales 7 = .ok (.iconst 1, 1) := by decide +kernel
theorem dX9_gales_8 : decode cX9_gales 8 = .ok (.iconst 5, 1) := by decide +kernel
theorem dX9_gales_9 : decode cX9_gales 9 = .ok (.invokestatic 379, 3) := by decide +kernel
theorem dX9_gales_12 : decode cX9_gales 12 = .ok (.ifCond .eq 17, 3) := by decide +kernel
theorem dX9_gales_15 : decode cX9_gales 15 = .ok (.iload_n 2, 1) := by decide +kernel
theorem dX9_gales_16 : decode cX9_gales 16 = .ok (.iconst 0, 1) := by decide +kernel
theorem dX9_gales_17 : decode cX9_gales 17 = .ok (.bipush 10, 2) := by decide +kernel
theorem dX9_gales_19 : decode cX9_gales 19 = .ok (.invokestatic 379, 3) := by decide +kernel
theorem dX9_gales_22 : decode cX9_gales 22 = .ok (.ifCond .eq 7, 3) := by decide +kernel
theorem dX9_gales_25 : decode cX9_gales 25 = .ok (.iconst 1, 1) := by decide +kernel
theorem dX9_gales_26 : decode cX9_gales 26 = .ok (.goto 4, 3) := by decide +kernel
theorem dX9_gales_29 : decode cX9_gales 29 = .ok (.iconst 0, 1) := by decide +kernel
theorem dX9_gales_30 : decode cX9_gales 30 = .ok (.iconst 1, 1) := by decide +kernel
theorem dX9_gales_31 : decode cX9_gales 31 = .ok (.invokevirtual 284, 3) := by decide +kernel
theorem dX9_gales_34 : decode cX9_gales 34 = .ok (.ifCond .ne 5, 3) := by decide +kernel
theorem dX9_gales_37 : decode cX9_gales 37 = .ok (.iconst 0, 1) := by decide +kernel
theorem dX9_gales_38 : decode cX9_gales 38 = .ok (.ireturn, 1) := by decide +kernel
theorem dX9_gales_39 : decode cX9_gales 39 = .ok (.iconst 0, 1) := by decide +kernel
theorem dX9_gales_40 : decode cX9_gales 40 = .ok (.istore_n 3, 1) := by decide +kernel
theorem dX9_gales_41 : decode cX9_gales 41 = .ok (.iconst 0, 1) := by decide +kernel
theorem dX9_gales_42 : decode cX9_gales 42 = .ok (.istore 4, 2) := by decide +kernel
theorem dX9_gales_44 : decode cX9_gales 44 = .ok (.iload 4, 2) := by decide +kernel
theorem dX9_gales_46 : decode cX9_gales 46 = .ok (.iconst 1, 1) := by decide +kernel
theorem dX9_gales_47 : decode cX9_gales 47 = .ok (.iload_n 1, 1) := by decide +kernel
theorem dX9_gales_48 : decode cX9_gales 48 = .ok (.ishl, 1) := by decide +kernel
theorem dX9_gales_49 : decode cX9_gales 49 = .ok (.if_icmp .ge 104, 3) := by decide +kernel
theorem dX9_gales_52 : decode cX9_gales 52 = .ok (.iconst 1, 1) := by decide +kernel
theorem dX9_gales_53 : decode cX9_gales 53 = .ok (.istore 5, 2) := by decide +kernel
theorem dX9_gales_55 : decode cX9_gales 55 = .ok (.aload_n 0, 1) := by decide +kernel
theorem dX9_gales_56 : decode cX9_gales 56 = .ok (.invokevirtual 367, 3) := by decide +kernel
theorem dX9_gales_59 : decode cX9_gales 59 = .ok (.iconst 0, 1) := by decide +kernel
theorem dX9_gales_60 : decode cX9_gales 60 = .ok (.istore 6, 2) := by decide +kernel
theorem dX9_gales_62 : decode cX9_gales 62 = .ok (.iload 6, 2) := by decide +kernel
theorem dX9_gales_64 : decode cX9_gales 64 = .ok (.iload_n 1, 1) := by decide +kernel
theorem dX9_gales_65 : decode cX9_gales 65 = .ok (.if_icmp .ge 66, 3) := by decide +kernel
theorem dX9_gales_68 : decode cX9_gales 68 = .ok (.iload 4, 2) := by decide +kernel
theorem dX9_gales_70 : decode cX9_gales 70 = .ok (.iload 6, 2) := by decide +kernel
theorem dX9_gales_72 : decode cX9_gales 72 = .ok (.ishr, 1) := by decide +kernel
theorem dX9_gales_73 : decode cX9_gales 73 = .ok (.iconst 1, 1) := by decide +kernel
theorem dX9_gales_74 : decode cX9_gales 74 = .ok (.iand, 1) := by decide +kernel
theorem dX9_gales_75 : decode cX9_gales 75 = .ok (.iconst 1, 1) := by decide +kernel
theorem dX9_gales_76 : decode cX9_gales 76 = .ok (.if_icmp .ne 7, 3) := by decide +kernel
theorem dX9_gales_79 : decode cX9_gales 79 = .ok (.iconst 1, 1) := by decide +kernel
theorem dX9_gales_80 : decode cX9_gales 80 = .ok (.goto 4, 3) := by decide +kernel
theorem dX9_gales_83 : decode cX9_gales 83 = .ok (.iconst 0, 1) := by decide +kernel
theorem dX9_gales_84 : decode cX9_gales 84 = .ok (.istore 7, 2) := by decide +kernel
theorem dX9_gales_86 : decode cX9_gales 86 = .ok (.aload_n 0, 1) := by decide +kernel
theorem dX9_gales_87 : decode cX9_gales 87 = .ok (.iload 7, 2) := by decide +kernel
theorem dX9_gales_89 : decode cX9_gales 89 = .ok (.ifCond .eq 8, 3) := by decide +kernel
theorem dX9_gales_92 : decode cX9_gales 92 = .ok (.bipush 9, 2) := by decide +kernel
theorem dX9_gales_94 : decode cX9_gales 94 = .ok (.goto 4, 3) := by decide +kernel
theorem dX9_gales_97 : decode cX9_gales 97 = .ok (.iconst 0, 1) := by decide +kernel
theorem dX9_gales_98 : decode cX9_gales 98 = .ok (.putfield 78, 3) := by decide +kernel
theorem dX9_gales_101 : decode cX9_gales 101 = .ok (.iload 5, 2) := by decide +kernel
theorem dX9_gales_103 : decode cX9_gales 103 = .ok (.iload 7, 2) := by decide +kernel
theorem dX9_gales_105 : decode cX9_gales 105 = .ok (.ifCond .eq 7, 3) := by decide +kernel
theorem dX9_gales_108 : decode cX9_gales 108 = .ok (.iload_n 2, 1) := by decide +kernel
theorem dX9_gales_109 : decode cX9_gales 109 = .ok (.goto 7, 3) := by decide +kernel
theorem dX9_gales_112 : decode cX9_gales 112 = .ok (.bipush 10, 2) := by decide +kernel
theorem dX9_gales_114 : decode cX9_gales 114 = .ok (.iload_n 2, 1) := by decide +kernel
theorem dX9_gales_115 : decode cX9_gales 115 = .ok (.isub, 1) := by decide +kernel
theorem dX9_gales_116 : decode cX9_gales 116 = .ok (.imul, 1) := by decide +kernel
theorem dX9_gales_117 : decode cX9_gales 117 = .ok (.istore 5, 2) := by decide +kernel
theorem dX9_gales_119 : decode cX9_gales 119 = .ok (.aload_n 0, 1) := by decide +kernel
theorem dX9_gales_120 : decode cX9_gales 120 = .ok (.bipush 54, 2) := by decide +kernel
theorem dX9_gales_122 : decode cX9_gales 122 = .ok (.invokevirtual 364, 3) := by decide +kernel
theorem dX9_gales_125 : decode cX9_gales 125 = .ok (.iinc 6 1, 3) := by decide +kernel
theorem dX9_gales_128 : decode cX9_gales 128 = .ok (.goto (-66), 3) := by decide +kernel
theorem dX9_gales_131 : decode cX9_gales 131 = .ok (.iload_n 3, 1) := by decide +kernel
theorem dX9_gales_132 : decode cX9_gales 132 = .ok (.aload_n 0, 1) := by decide +kernel
theorem dX9_gales_133 : decode cX9_gales 133 = .ok (.getfield 311, 3) := by decide +kernel
theorem dX9_gales_136 : decode cX9_gales 136 = .ok (.ifCond .ne 8, 3) := by decide +kernel
theorem dX9_gales_139 : decode cX9_gales 139 = .ok (.iload 5, 2) := by decide +kernel
theorem dX9_gales_141 : decode cX9_gales 141 = .ok (.goto 4, 3) := by decide +kernel
theorem dX9_gales_144 : decode cX9_gales 144 = .ok (.iconst 0, 1) := by decide +kernel
theorem dX9_gales_145 : decode cX9_gales 145 = .ok (.iadd, 1) := by decide +kernel
theorem dX9_gales_146 : decode cX9_gales 146 = .ok (.istore_n 3, 1) := by decide +kernel
theorem dX9_gales_147 : decode cX9_gales 147 = .ok (.iinc 4 1, 3) := by decide +kernel
theorem dX9_gales_150 : decode cX9_gales 150 = .ok (.goto (-106), 3) := by decide +kernel
theorem dX9_gales_153 : decode cX9_gales 153 = .ok (.aload_n 0, 1) := by decide +kernel
theorem dX9_gales_154 : decode cX9_gales 154 = .ok (.iconst (-1), 1) := by decide +kernel
theorem dX9_gales_155 : decode cX9_gales 155 = .ok (.putfield 78, 3) := by decide +kernel
theorem dX9_gales_158 : decode cX9_gales 158 = .ok (.iload_n 3, 1) := by decide +kernel
theorem dX9_gales_159 : decode cX9_gales 159 = .ok (.ireturn, 1) := by decide +kernel
theorem dX9_generous_0 : decode cX9_generous 0 = .ok (.aload_n 0, 1) := by decide +kernel
theorem dX9_generous_1 : decode cX9_generous 1 = .ok (.getfield 63, 3) := by decide +kernel
theorem dX9_generous_4 : decode cX9_generous 4 = .ok (.bipush 55, 2) := by decide +kernel
theorem dX9_generous_6 : decode cX9_generous 6 = .ok (.aload_n 0, 1) := by decide +kernel
theorem dX9_generous_7 : decode cX9_generous 7 = .ok (.getfield 63, 3) := by decide +kernel
theorem dX9_generous_10 : decode cX9_generous 10 = .ok (.bipush 55, 2) := by decide +kernel
theorem dX9_generous_12 : decode cX9_generous 12 = .ok (.iaload, 1) := by decide +kernel
theorem dX9_generous_13 : decode cX9_generous 13 = .ok (.iconst 5, 1) := by decide +kernel
theorem dX9_generous_14 : decode cX9_generous 14 = .ok (.iadd, 1) := by decide +kernel
theorem dX9_generous_15 : decode cX9_generous 15 = .ok (.iconst 0, 1) := by decide +kernel
theorem dX9_generous_16 : decode cX9_generous 16 = .ok (.sipush 999, 3) := by decide +kernel
theorem dX9_generous_19 : decode cX9_generous 19 = .ok (.invokestatic 340, 3) := by decide +kernel
theorem dX9_generous_22 : decode cX9_generous 22 = .ok (.iastore, 1) := by decide +kernel
theorem dX9_generous_23 : decode cX9_generous 23 = .ok (.aload_n 0, 1) := by decide +kernel
theorem dX9_generous_24 : decode cX9_generous 24 = .ok (.getfield 63, 3) := by decide +kernel
theorem dX9_generous_27 : decode cX9_generous 27 = .ok (.bipush 92, 2) := by decide +kernel
theorem dX9_generous_29 : decode cX9_generous 29 = .ok (.iload_n 1, 1) := by decide +kernel
theorem dX9_generous_30 : decode cX9_generous 30 = .ok (.iadd, 1) := by decide +kernel
theorem dX9_generous_31 : decode cX9_generous 31 = .ok (.aload_n 0, 1) := by decide +kernel
theorem dX9_generous_32 : decode cX9_generous 32 = .ok (.getfield 63, 3) := by decide +kernel
theorem dX9_generous_35 : decode cX9_generous 35 = .ok (.bipush 92, 2) := by decide +kernel
theorem dX9_generous_37 : decode cX9_generous 37 = .ok (.iload_n 1, 1) := by decide +kernel
theorem dX9_generous_38 : decode cX9_generous 38 = .ok (.iadd, 1) := by decide +kernel
theorem dX9_generous_39 : decode cX9_generous 39 = .ok (.iaload, 1) := by decide +kernel
theorem dX9_generous_40 : decode cX9_generous 40 = .ok (.iconst 5, 1) := by decide +kernel
theorem dX9_generous_41 : decode cX9_generous 41 = .ok (.isub, 1) := by decide +kernel
theorem dX9_generous_42 : decode cX9_generous 42 = .ok (.iconst 0, 1) := by decide +kernel
theorem dX9_generous_43 : decode cX9_generous 43 = .ok (.bipush 99, 2) := by decide +kernel
theorem dX9_generous_45 : decode cX9_generous 45 = .ok (.invokestatic 340, 3) := by decide +kernel
theorem dX9_generous_48 : decode cX9_generous 48 = .ok (.iastore, 1) := by decide +kernel
theorem dX9_generous_49 : decode cX9_generous 49 = .ok (.return_, 1) := by decide +kernel
theorem dX9_gains_0 : decode cX9_gains 0 = .ok (.aload_n 0, 1) := by decide +kernel
theorem dX9_gains_1 : decode cX9_gains 1 = .ok (.invokevirtual 367, 3) := by decide +kernel
theorem dX9_gains_4 : decode cX9_gains 4 = .ok (.iload_n 3, 1) := by decide +kernel
theorem dX9_gains_5 : decode cX9_gains 5 = .ok (.iconst 1, 1) := by decide +kernel
theorem dX9_gains_6 : decode cX9_gains 6 = .ok (.if_icmp .ne 8, 3) := by decide +kernel
theorem dX9_gains_9 : decode cX9_gains 9 = .ok (.aload_n 0, 1) := by decide +kernel
theorem dX9_gains_10 : decode cX9_gains 10 = .ok (.iload_n 1, 1) := by decide +kernel
theorem dX9_gains_11 : decode cX9_gains 11 = .ok (.invokevirtual 430, 3) := by decide +kernel
theorem dX9_gains_14 : decode cX9_gains 14 = .ok (.iload 4, 2) := by decide +kernel
theorem dX9_gains_16 : decode cX9_gains 16 = .ok (.iconst 1, 1) := by decide +kernel
theorem dX9_gains_17 : decode cX9_gains 17 = .ok (.if_icmp .ne 8, 3) := by decide +kernel
theorem dX9_gains_20 : decode cX9_gains 20 = .ok (.aload_n 0, 1) := by decide +kernel
theorem dX9_gains_21 : decode cX9_gains 21 = .ok (.iload_n 2, 1) := by decide +kernel
theorem dX9_gains_22 : decode cX9_gains 22 = .ok (.invokevirtual 430, 3) := by decide +kernel
theorem dX9_gains_25 : decode cX9_gains 25 = .ok (.aload_n 0, 1) := by decide +kernel
theorem dX9_gains_26 : decode cX9_gains 26 = .ok (.bipush 6, 2) := by decide +kernel
theorem dX9_gains_28 : decode cX9_gains 28 = .ok (.invokevirtual 370, 3) := by decide +kernel
theorem dX9_gains_31 : decode cX9_gains 31 = .ok (.aload_n 0, 1) := by decide +kernel
theorem dX9_gains_32 : decode cX9_gains 32 = .ok (.getfield 63, 3) := by decide +kernel
theorem dX9_gains_35 : decode cX9_gains 35 = .ok (.bipush 92, 2) := by decide +kernel
theorem dX9_gains_37 : decode cX9_gains 37 = .ok (.iload_n 1, 1) := by decide +kernel
theorem dX9_gains_38 : decode cX9_gains 38 = .ok (.iadd, 1) := by decide +kernel
theorem dX9_gains_39 : decode cX9_gains 39 = .ok (.iaload, 1) := by decide +kernel
theorem dX9_gains_40 : decode cX9_gains 40 = .ok (.iconst 2, 1) := by decide +kernel
theorem dX9_gains_41 : decode cX9_gains 41 = .ok (.aload_n 0, 1) := by decide +kernel
theorem dX9_gains_42 : decode cX9_gains 42 = .ok (.getfield 63, 3) := by decide +kernel
theorem dX9_gains_45 : decode cX9_gains 45 = .ok (.bipush 57, 2) := by decide +kernel
theorem dX9_gains_47 : decode cX9_gains 47 = .ok (.iaload, 1) := by decide +kernel
theorem dX9_gains_48 : decode cX9_gains 48 = .ok (.imul, 1) := by decide +kernel
theorem dX9_gains_49 : decode cX9_gains 49 = .ok (.iadd, 1) := by decide +kernel
theorem dX9_gains_50 : decode cX9_gains 50 = .ok (.iconst 4, 1) := by decide +kernel
theorem dX9_gains_51 : decode cX9_gains 51 = .ok (.iload_n 3, 1) := by decide +kernel
theorem dX9_gains_52 : decode cX9_gains 52 = .ok (.imul, 1) := by decide +kernel
theorem dX9_gains_53 : decode cX9_gains 53 = .ok (.isub, 1) := by decide +kernel
theorem dX9_gains_54 : decode cX9_gains 54 = .ok (.ireturn, 1) := by decide +kernel
theorem dX9_game_0 : decode cX9_game 0 = .ok (.aload_n 0, 1) := by decide +kernel
theorem dX9_game_1 : decode cX9_game 1 = .ok (.iconst 0, 1) := by decide +kernel
theorem dX9_game_2 : decode cX9_game 2 = .ok (.putfield 102, 3) := by decide +kernel
theorem dX9_game_5 : decode cX9_game 5 = .ok (.aload_n 0, 1) := by decide +kernel
theorem dX9_game_6 : decode cX9_game 6 = .ok (.iload_n 1, 1) := by decide +kernel
theorem dX9_game_7 : decode cX9_game 7 = .ok (.invokevirtual 400, 3) := by decide +kernel
theorem dX9_game_10 : decode cX9_game 10 = .ok (.ifCond .eq 38, 3) := by decide +kernel
theorem dX9_game_13 : decode cX9_game 13 = .ok (.aload_n 0, 1) := by decide +kernel
theorem dX9_game_14 : decode cX9_game 14 = .ok (.iload_n 2, 1) := by decide +kernel
theorem dX9_game_15 : decode cX9_game 15 = .ok (.invokevirtual 400, 3) := by decide +kernel
theorem dX9_game_18 : decode cX9_game 18 = .ok (.ifCond .eq 30, 3) := by decide +kernel
theorem dX9_game_21 : decode cX9_game 21 = .ok (.aload_n 0, 1) := by decide +kernel
theorem dX9_game_22 : decode cX9_game 22 = .ok (.iload_n 3, 1) := by decide +kernel
theorem dX9_game_23 : decode cX9_game 23 = .ok (.iconst 1, 1) := by decide +kernel
theorem dX9_game_24 : decode cX9_game 24 = .ok (.invokevirtual 396, 3) := by decide +kernel
theorem dX9_game_27 : decode cX9_game 27 = .ok (.ifCond .eq 21, 3) := by decide +kernel
theorem dX9_game_30 : decode cX9_game 30 = .ok (.aload_n 0, 1) := by decide +kernel
theorem dX9_game_31 : decode cX9_game 31 = .ok (.iload_n 1, 1) := by decide +kernel
theorem dX9_game_32 : decode cX9_game 32 = .ok (.iload_n 2, 1) := by decide +kernel
theorem dX9_game_33 : decode cX9_game 33 = .ok (.if_icmp .eq 7, 3) := by decide +kernel
theorem dX9_game_36 : decode cX9_game 36 = .ok (.iconst 1, 1) := by decide +kernel
theorem dX9_game_37 : decode cX9_game 37 = .ok (.goto 4, 3) := by decide +kernel
theorem dX9_game_40 : decode cX9_game 40 = .ok (.iconst 0, 1) := by decide +kernel
theorem dX9_game_41 : decode cX9_game 41 = .ok (.iconst 2, 1) := by decide +kernel
theorem dX9_game_42 : decode cX9_game 42 = .ok (.invokevirtual 284, 3) := by decide +kernel
theorem dX9_game_45 : decode cX9_game 45 = .ok (.ifCond .ne 5, 3) := by decide +kernel
theorem dX9_game_48 : decode cX9_game 48 = .ok (.iconst 0, 1) := by decide +kernel
theorem dX9_game_49 : decode cX9_game 49 = .ok (.ireturn, 1) := by decide +kernel
theorem dX9_game_50 : decode cX9_game 50 = .ok (.iconst 0, 1) := by decide +kernel
theorem dX9_game_51 : decode cX9_game 51 = .ok (.istore 4, 2) := by decide +kernel
theorem dX9_game_53 : decode cX9_game 53 = .ok (.iconst (-1), 1) := by decide +kernel
theorem dX9_game_54 : decode cX9_game 54 = .ok (.istore 5, 2) := by decide +kernel
theorem dX9_game_56 : decode cX9_game 56 = .ok (.iconst 0, 1) := by decide +kernel
theorem dX9_game_57 : decode cX9_game 57 = .ok (.istore 6, 2) := by decide +kernel
theorem dX9_game_59 : decode cX9_game 59 = .ok (.iload 6, 2) := by decide +kernel
theorem dX9_game_61 : decode cX9_game 61 = .ok (.iconst 4, 1) := by decide +kernel
theorem dX9_game_62 : decode cX9_game 62 = .ok (.if_icmp .ge 93, 3) := by decide +kernel
theorem dX9_game_65 : decode cX9_game 65 = .ok (.iload 6, 2) := by decide +kernel
theorem dX9_game_67 : decode cX9_game 67 = .ok (.iconst 2, 1) := by decide +kernel
theorem dX9_game_68 : decode cX9_game 68 = .ok (.idiv, 1) := by decide +kernel
theorem dX9_game_69 : decode cX9_game 69 = .ok (.istore 7, 2) := by decide +kernel
theorem dX9_game_71 : decode cX9_game 71 = .ok (.iload 6, 2) := by decide +kernel
theorem dX9_game_73 : decode cX9_game 73 = .ok (.iconst 2, 1) := by decide +kernel
theorem dX9_game_74 : decode cX9_game 74 = .ok (.irem, 1) := by decide +kernel
theorem dX9_game_75 : decode cX9_game 75 = .ok (.istore 8, 2) := by decide +kernel
theorem dX9_game_77 : decode cX9_game 77 = .ok (.aload_n 0, 1) := by decide +kernel
theorem dX9_game_78 : decode cX9_game 78 = .ok (.iload_n 1, 1) := by decide +kernel
theorem dX9_game_79 : decode cX9_game 79 = .ok (.iload_n 2, 1) := by decide +kernel
theorem dX9_game_80 : decode cX9_game 80 = .ok (.iconst 1, 1) := by decide +kernel
theorem dX9_game_81 : decode cX9_game 81 = .ok (.iload 7, 2) := by decide +kernel
theorem dX9_game_83 : decode cX9_game 83 = .ok (.isub, 1) := by decide +kernel
theorem dX9_game_84 : decode cX9_game 84 = .ok (.iload 8, 2) := by decide +kernel
theorem dX9_game_86 : decode cX9_game 86 = .ok (.invokevirtual 433, 3) := by decide +kernel
theorem dX9_game_89 : decode cX9_game 89 = .ok (.aload_n 0, 1) := by decide +kernel
theorem dX9_game_90 : decode cX9_game 90 = .ok (.iload_n 1, 1) := by decide +kernel
theorem dX9_game_91 : decode cX9_game 91 = .ok (.iload_n 2, 1) := by decide +kernel
theorem dX9_game_92 : decode cX9_game 92 = .ok (.iload 7, 2) := by decide +kernel
theorem dX9_game_94 : decode cX9_game 94 = .ok (.iload 8, 2) := by decide +kernel
theorem dX9_game_96 : decode cX9_game 96 = .ok (.invokevirtual 433, 3) := by decide +kernel
theorem dX9_game_99 : decode cX9_game 99 = .ok (.if_icmp .gt 50, 3) := by decide +kernel
theorem dX9_game_102 : decode cX9_game 102 = .ok (.aload_n 0, 1) := by decide +kernel
theorem dX9_game_103 : decode cX9_game 103 = .ok (.iload_n 2, 1) := by decide +kernel
theorem dX9_game_104 : decode cX9_game 104 = .ok (.iload_n 1, 1) := by decide +kernel
theorem dX9_game_105 : decode cX9_game 105 = .ok (.iconst 1, 1) := by decide +kernel
theorem dX9_game_106 : decode cX9_game 106 = .ok (.iload 8, 2) := by decide +kernel
theorem dX9_game_108 : decode cX9_game 108 = .ok (.isub, 1) := by decide +kernel
theorem dX9_game_109 : decode cX9_game 109 = .ok (.iload 7, 2) := by decide +kernel
theorem dX9_game_111 : decode cX9_game 111 = .ok (.invokevirtual 433, 3) := by decide +kernel
theorem dX9_game_114 : decode cX9_game 114 = .ok (.aload_n 0, 1) := by decide +kernel
theorem dX9_game_115 : decode cX9_game 115 = .ok (.iload_n 2, 1) := by decide +kernel
theorem dX9_game_116 : decode cX9_game 116 = .ok (.iload_n 1, 1) := by decide +kernel
theorem dX9_game_117 : decode cX9_game 117 = .ok (.iload 8, 2) := by decide +kernel
theorem dX9_game_119 : decode cX9_game 119 = .ok (.iload 7, 2) := by decide +kernel
theorem dX9_game_121 : decode cX9_game 121 = .ok (.invokevirtual 433, 3) := by decide +kernel
theorem dX9_game_124 : decode cX9_game 124 = .ok (.if_icmp .le 6, 3) := by decide +kernel
theorem dX9_game_127 : decode cX9_game 127 = .ok (.goto 22, 3) := by decide +kernel
theorem dX9_game_130 : decode cX9_game 130 = .ok (.iinc 4 1, 3) := by decide +kernel
theorem dX9_game_133 : decode cX9_game 133 = .ok (.iload 5, 2) := by decide +kernel
theorem dX9_game_135 : decode cX9_game 135 = .ok (.iconst (-1), 1) := by decide +kernel
theorem dX9_game_136 : decode cX9_game 136 = .ok (.if_icmp .ne 13, 3) := by decide +kernel
theorem dX9_game_139 : decode cX9_game 139 = .ok (.bipush 10, 2) := by decide +kernel
theorem dX9_game_141 : decode cX9_game 141 = .ok (.iload 7, 2) := by decide +kernel
theorem dX9_game_143 : decode cX9_game 143 = .ok (.imul, 1) := by decide +kernel
theorem dX9_game_144 : decode cX9_game 144 = .ok (.iload 8, 2) := by decide +kernel
theorem dX9_game_146 : decode cX9_game 146 = .ok (.iadd, 1) := by decide +kernel
theorem dX9_game_147 : decode cX9_game 147 = .ok (.istore 5, 2) := by decide +kernel
theorem dX9_game_149 : decode cX9_game 149 = .ok (.iinc 6 1, 3) := by decide +kernel
theorem dX9_game_152 : decode cX9_game 152 = .ok (.goto (-93), 3) := by decide +kernel
theorem dX9_game_155 : decode cX9_game 155 = .ok (.iload_n 3, 1) := by decide +kernel
theorem dX9_game_156 : decode cX9_game 156 = .ok (.ifCond .ne 8, 3) := by decide +kernel
theorem dX9_game_159 : decode cX9_game 159 = .ok (.iload 4, 2) := by decide +kernel
theorem dX9_game_161 : decode cX9_game 161 = .ok (.goto 5, 3) := by decide +kernel
theorem dX9_game_164 : decode cX9_game 164 = .ok (.iload 5, 2) := by decide +kernel
theorem dX9_game_166 : decode cX9_game 166 = .ok (.ireturn, 1) := by decide +kernel
theorem dX9_draw_0 : decode cX9_draw 0 = .ok (.aload_n 0, 1) := by decide +kernel
theorem dX9_draw_1 : decode cX9_draw 1 = .ok (.aload_n 0, 1) := by decide +kernel
theorem dX9_draw_2 : decode cX9_draw 2 = .ok (.getfield 437, 3) := by decide +kernel
theorem dX9_draw_5 : decode cX9_draw 5 = .ok (.ldc_w 440, 3) := by decide +kernel
theorem dX9_draw_8 : decode cX9_draw 8 = .ok (.imul, 1) := by decide +kernel
theorem dX9_draw_9 : decode cX9_draw 9 = .ok (.sipush 12345, 3) := by decide +kernel
theorem dX9_draw_12 : decode cX9_draw 12 = .ok (.iadd, 1) := by decide +kernel
theorem dX9_draw_13 : decode cX9_draw 13 = .ok (.putfield 437, 3) := by decide +kernel
theorem dX9_draw_16 : decode cX9_draw 16 = .ok (.aload_n 0, 1) := by decide +kernel
theorem dX9_draw_17 : decode cX9_draw 17 = .ok (.getfield 437, 3) := by decide +kernel
theorem dX9_draw_20 : decode cX9_draw 20 = .ok (.bipush 16, 2) := by decide +kernel
theorem dX9_draw_22 : decode cX9_draw 22 = .ok (.ishr, 1) := by decide +kernel
theorem dX9_draw_23 : decode cX9_draw 23 = .ok (.sipush 32767, 3) := by decide +kernel
theorem dX9_draw_26 : decode cX9_draw 26 = .ok (.iand, 1) := by decide +kernel
theorem dX9_draw_27 : decode cX9_draw 27 = .ok (.iload_n 1, 1) := by decide +kernel
theorem dX9_draw_28 : decode cX9_draw 28 = .ok (.irem, 1) := by decide +kernel
theorem dX9_draw_29 : decode cX9_draw 29 = .ok (.ireturn, 1) := by decide +kernel
theorem dX9_happens_0 : decode cX9_happens 0 = .ok (.aload_n 0, 1) := by decide +kernel
theorem dX9_happens_1 : decode cX9_happens 1 = .ok (.bipush 6, 2) := by decide +kernel
theorem dX9_happens_3 : decode cX9_happens 3 = .ok (.invokevirtual 441, 3) := by decide +kernel
theorem dX9_happens_6 : decode cX9_happens 6 = .ok (.istore_n 1, 1) := by decide +kernel
theorem dX9_happens_7 : decode cX9_happens 7 = .ok (.iload_n 1, 1) := by decide +kernel
theorem dX9_happens_8 : decode cX9_happens 8 = .ok (.ifCond .ne 34, 3) := by decide +kernel
theorem dX9_happens_11 : decode cX9_happens 11 = .ok (.aload_n 0, 1) := by decide +kernel
theorem dX9_happens_12 : decode cX9_happens 12 = .ok (.getfield 291, 3) := by decide +kernel
theorem dX9_happens_15 : decode cX9_happens 15 = .ok (.ifCond .le 27, 3) := by decide +kernel
theorem dX9_happens_18 : decode cX9_happens 18 = .ok (.aload_n 0, 1) := by decide +kernel
theorem dX9_happens_19 : decode cX9_happens 19 = .ok (.aload_n 0, 1) := by decide +kernel
theorem dX9_happens_20 : decode cX9_happens 20 = .ok (.getfield 291, 3) := by decide +kernel
theorem dX9_happens_23 : decode cX9_happens 23 = .ok (.invokevirtual 441, 3) := by decide +kernel
theorem dX9_happens_26 : decode cX9_happens 26 = .ok (.istore_n 2, 1) := by decide +kernel
theorem dX9_happens_27 : decode cX9_happens 27 = .ok (.aload_n 0, 1) := by decide +kernel
theorem dX9_happens_28 : decode cX9_happens 28 = .ok (.getfield 63, 3) := by decide +kernel
theorem dX9_happens_31 : decode cX9_happens 31 = .ok (.bipush 92, 2) := by decide +kernel
theorem dX9_happens_33 : decode cX9_happens 33 = .ok (.iload_n 2, 1) := by decide +kernel
theorem dX9_happens_34 : decode cX9_happens 34 = .ok (.iadd, 1) := by decide +kernel
theorem dX9_happens_35 : decode cX9_happens 35 = .ok (.aload_n 0, 1) := by decide +kernel
theorem dX9_happens_36 : decode cX9_happens 36 = .ok (.bipush 100, 2) := by decide +kernel
theorem dX9_happens_38 : decode cX9_happens 38 = .ok (.invokevirtual 441, 3) := by decide +kernel
theorem dX9_happens_41 : decode cX9_happens 41 = .ok (.iastore, 1) := by decide +kernel
theorem dX9_happens_42 : decode cX9_happens 42 = .ok (.iload_n 1, 1) := by decide +kernel
theorem dX9_happens_43 : decode cX9_happens 43 = .ok (.iconst 1, 1) := by decide +kernel
theorem dX9_happens_44 : decode cX9_happens 44 = .ok (.if_icmp .ne 16, 3) := by decide +kernel
theorem dX9_happens_47 : decode cX9_happens 47 = .ok (.aload_n 0, 1) := by decide +kernel
theorem dX9_happens_48 : decode cX9_happens 48 = .ok (.getfield 63, 3) := by decide +kernel
theorem dX9_happens_51 : decode cX9_happens 51 = .ok (.bipush 55, 2) := by decide +kernel
theorem dX9_happens_53 : decode cX9_happens 53 = .ok (.aload_n 0, 1) := by decide +kernel
theorem dX9_happens_54 : decode cX9_happens 54 = .ok (.bipush 50, 2) := by decide +kernel
theorem dX9_happens_56 : decode cX9_happens 56 = .ok (.invokevirtual 441, 3) := by decide +kernel
theorem dX9_happens_59 : decode cX9_happens 59 = .ok (.iastore, 1) := by decide +kernel
theorem dX9_happens_60 : decode cX9_happens 60 = .ok (.iload_n 1, 1) := by decide +kernel
theorem dX9_happens_61 : decode cX9_happens 61 = .ok (.iconst 2, 1) := by decide +kernel
theorem dX9_happens_62 : decode cX9_happens 62 = .ok (.if_icmp .ne 33, 3) := by decide +kernel
theorem dX9_happens_65 : decode cX9_happens 65 = .ok (.aload_n 0, 1) := by decide +kernel
theorem dX9_happens_66 : decode cX9_happens 66 = .ok (.getfield 63, 3) := by decide +kernel
theorem dX9_happens_69 : decode cX9_happens 69 = .ok (.bipush 57, 2) := by decide +kernel
theorem dX9_happens_71 : decode cX9_happens 71 = .ok (.iaload, 1) := by decide +kernel
theorem dX9_happens_72 : decode cX9_happens 72 = .ok (.ifCond .le 23, 3) := by decide +kernel
theorem dX9_happens_75 : decode cX9_happens 75 = .ok (.aload_n 0, 1) := by decide +kernel
theorem dX9_happens_76 : decode cX9_happens 76 = .ok (.getfield 63, 3) := by decide +kernel
theorem dX9_happens_79 : decode cX9_happens 79 = .ok (.bipush 76, 2) := by decide +kernel
theorem dX9_happens_81 : decode cX9_happens 81 = .ok (.aload_n 0, 1) := by decide +kernel
theorem dX9_happens_82 : decode cX9_happens 82 = .ok (.aload_n 0, 1) := by decide +kernel
theorem dX9_happens_83 : decode cX9_happens 83 = .ok (.getfield 63, 3) := by decide +kernel
theorem dX9_happens_86 : decode cX9_happens 86 = .ok (.bipush 57, 2) := by decide +kernel
theorem dX9_happens_88 : decode cX9_happens 88 = .ok (.iaload, 1) := by decide +kernel
theorem dX9_happens_89 : decode cX9_happens 89 = .ok (.invokevirtual 441, 3) := by decide +kernel
theorem dX9_happens_92 : decode cX9_happens 92 = .ok (.iadd, 1) := by decide +kernel
theorem dX9_happens_93 : decode cX9_happens 93 = .ok (.iconst 0, 1) := by decide +kernel
theorem dX9_happens_94 : decode cX9_happens 94 = .ok (.iastore, 1) := by decide +kernel
theorem dX9_happens_95 : decode cX9_happens 95 = .ok (.return_, 1) := by decide +kernel
theorem dX9_years_0 : decode cX9_years 0 = .ok (.aload_n 0, 1) := by decide +kernel
theorem dX9_years_1 : decode cX9_years 1 = .ok (.iconst 0, 1) := by decide +kernel
theorem dX9_years_2 : decode cX9_years 2 = .ok (.putfield 102, 3) := by decide +kernel
theorem dX9_years_5 : decode cX9_years 5 = .ok (.aload_n 0, 1) := by decide +kernel
theorem dX9_years_6 : decode cX9_years 6 = .ok (.iload_n 3, 1) := by decide +kernel
theorem dX9_years_7 : decode cX9_years 7 = .ok (.iconst 2, 1) := by decide +kernel
theorem dX9_years_8 : decode cX9_years 8 = .ok (.invokevirtual 396, 3) := by decide +kernel
theorem dX9_years_11 : decode cX9_years 11 = .ok (.ifCond .eq 13, 3) := by decide +kernel
theorem dX9_years_14 : decode cX9_years 14 = .ok (.aload_n 0, 1) := by decide +kernel
theorem dX9_years_15 : decode cX9_years 15 = .ok (.iload_n 2, 1) := by decide +kernel
theorem dX9_years_16 : decode cX9_years 16 = .ok (.iconst 0, 1) := by decide +kernel
theorem dX9_years_17 : decode cX9_years 17 = .ok (.iconst 2, 1) := by decide +kernel
theorem dX9_years_18 : decode cX9_years 18 = .ok (.invokevirtual 412, 3) := by decide +kernel
theorem dX9_years_21 : decode cX9_years 21 = .ok (.ifCond .ne 5, 3) := by decide +kernel
theorem dX9_years_24 : decode cX9_years 24 = .ok (.iconst 0, 1) := by decide +kernel
theorem dX9_years_25 : decode cX9_years 25 = .ok (.ireturn, 1) := by decide +kernel
theorem dX9_years_26 : decode cX9_years 26 = .ok (.aload_n 0, 1) := by decide +kernel
theorem dX9_years_27 : decode cX9_years 27 = .ok (.invokevirtual 367, 3) := by decide +kernel
theorem dX9_years_30 : decode cX9_years 30 = .ok (.aload_n 0, 1) := by decide +kernel
theorem dX9_years_31 : decode cX9_years 31 = .ok (.iload_n 1, 1) := by decide +kernel
theorem dX9_years_32 : decode cX9_years 32 = .ok (.putfield 437, 3) := by decide +kernel
theorem dX9_years_35 : decode cX9_years 35 = .ok (.iconst 0, 1) := by decide +kernel
theorem dX9_years_36 : decode cX9_years 36 = .ok (.istore 4, 2) := by decide +kernel
theorem dX9_years_38 : decode cX9_years 38 = .ok (.iload 4, 2) := by decide +kernel
theorem dX9_years_40 : decode cX9_years 40 = .ok (.iload_n 2, 1) := by decide +kernel
theorem dX9_years_41 : decode cX9_years 41 = .ok (.if_icmp .ge 19, 3) := by decide +kernel
theorem dX9_years_44 : decode cX9_years 44 = .ok (.aload_n 0, 1) := by decide +kernel
theorem dX9_years_45 : decode cX9_years 45 = .ok (.invokevirtual 444, 3) := by decide +kernel
theorem dX9_years_48 : decode cX9_years 48 = .ok (.aload_n 0, 1) := by decide +kernel
theorem dX9_years_49 : decode cX9_years 49 = .ok (.bipush 54, 2) := by decide +kernel
theorem dX9_years_51 : decode cX9_years 51 = .ok (.invokevirtual 364, 3) := by decide +kernel
theorem dX9_years_54 : decode cX9_years 54 = .ok (.iinc 4 1, 3) := by decide +kernel
theorem dX9_years_57 : decode cX9_years 57 = .ok (.goto (-19), 3) := by decide +kernel
theorem dX9_years_60 : decode cX9_years 60 = .ok (.iload_n 3, 1) := by decide +kernel
theorem dX9_years_61 : decode cX9_years 61 = .ok (.ifCond .ne 13, 3) := by decide +kernel
theorem dX9_years_64 : decode cX9_years 64 = .ok (.aload_n 0, 1) := by decide +kernel
theorem dX9_years_65 : decode cX9_years 65 = .ok (.getfield 63, 3) := by decide +kernel
theorem dX9_years_68 : decode cX9_years 68 = .ok (.bipush 57, 2) := by decide +kernel
theorem dX9_years_70 : decode cX9_years 70 = .ok (.iaload, 1) := by decide +kernel
theorem dX9_years_71 : decode cX9_years 71 = .ok (.goto 27, 3) := by decide +kernel
theorem dX9_years_74 : decode cX9_years 74 = .ok (.iload_n 3, 1) := by decide +kernel
theorem dX9_years_75 : decode cX9_years 75 = .ok (.iconst 1, 1) := by decide +kernel
theorem dX9_years_76 : decode cX9_years 76 = .ok (.if_icmp .ne 10, 3) := by decide +kernel
theorem dX9_years_79 : decode cX9_years 79 = .ok (.aload_n 0, 1) := by decide +kernel
theorem dX9_years_80 : decode cX9_years 80 = .ok (.getfield 311, 3) := by decide +kernel
theorem dX9_years_83 : decode cX9_years 83 = .ok (.goto 15, 3) := by decide +kernel
theorem dX9_years_86 : decode cX9_years 86 = .ok (.aload_n 0, 1) := by decide +kernel
theorem dX9_years_87 : decode cX9_years 87 = .ok (.bipush 54, 2) := by decide +kernel
theorem dX9_years_89 : decode cX9_years 89 = .ok (.bipush 38, 2) := by decide +kernel
theorem dX9_years_91 : decode cX9_years 91 = .ok (.aload_n 0, 1) := by decide +kernel
theorem dX9_years_92 : decode cX9_years 92 = .ok (.getfield 291, 3) := by decide +kernel
theorem dX9_years_95 : decode cX9_years 95 = .ok (.invokevirtual 318, 3) := by decide +kernel
theorem dX9_years_98 : decode cX9_years 98 = .ok (.ireturn, 1) := by decide +kernel
theorem dX9_image_0 : decode cX9_image 0 = .ok (.aload_n 0, 1) := by decide +kernel
theorem dX9_image_1 : decode cX9_image 1 = .ok (.iconst 0, 1) := by decide +kernel
theorem dX9_image_2 : decode cX9_image 2 = .ok (.putfield 102, 3) := by decide +kernel
theorem dX9_image_5 : decode cX9_image 5 = .ok (.aload_n 0, 1) := by decide +kernel
theorem dX9_image_6 : decode cX9_image 6 = .ok (.iconst 1, 1) := by decide +kernel
theorem dX9_image_7 : decode cX9_image 7 = .ok (.putfield 307, 3) := by decide +kernel
theorem dX9_image_10 : decode cX9_image 10 = .ok (.aload_n 0, 1) := by decide +kernel
theorem dX9_image_11 : decode cX9_image 11 = .ok (.aload_n 0, 1) := by decide +kernel
theorem dX9_image_12 : decode cX9_image 12 = .ok (.getfield 301, 3) := by decide +kernel
theorem dX9_image_15 : decode cX9_image 15 = .ok (.putfield 447, 3) := by decide +kernel
theorem dX9_image_18 : decode cX9_image 18 = .ok (.aload_n 0, 1) := by decide +kernel
theorem dX9_image_19 : decode cX9_image 19 = .ok (.aload_n 0, 1) := by decide +kernel
theorem dX9_image_20 : decode cX9_image 20 = .ok (.getfield 304, 3) := by decide +kernel
theorem dX9_image_23 : decode cX9_image 23 = .ok (.putfield 450, 3) := by decide +kernel
theorem dX9_image_26 : decode cX9_image 26 = .ok (.iconst 0, 1) := by decide +kernel
theorem dX9_image_27 : decode cX9_image 27 = .ok (.istore_n 1, 1) := by decide +kernel
theorem dX9_image_28 : decode cX9_image 28 = .ok (.iload_n 1, 1) := by decide +kernel
theorem dX9_image_29 : decode cX9_image 29 = .ok (.bipush 54, 2) := by decide +kernel
theorem dX9_image_31 : decode cX9_image 31 = .ok (.if_icmp .ge 21, 3) := by decide +kernel
theorem dX9_image_34 : decode cX9_image 34 = .ok (.aload_n 0, 1) := by decide +kernel
theorem dX9_image_35 : decode cX9_image 35 = .ok (.getfield 93, 3) := by decide +kernel
theorem dX9_image_38 : decode cX9_image 38 = .ok (.iload_n 1, 1) := by decide +kernel
theorem dX9_image_39 : decode cX9_image 39 = .ok (.aload_n 0, 1) := by decide +kernel
theorem dX9_image_40 : decode cX9_image 40 = .ok (.getfield 63, 3) := by decide +kernel
theorem dX9_image_43 : decode cX9_image 43 = .ok (.iload_n 1, 1) := by decide +kernel
theorem dX9_image_44 : decode cX9_image 44 = .ok (.iaload, 1) := by decide +kernel
theorem dX9_image_45 : decode cX9_image 45 = .ok (.iastore, 1) := by decide +kernel
theorem dX9_image_46 : decode cX9_image 46 = .ok (.iinc 1 1, 3) := by decide +kernel
theorem dX9_image_49 : decode cX9_image 49 = .ok (.goto (-21), 3) := by decide +kernel
theorem dX9_image_52 : decode cX9_image 52 = .ok (.aload_n 0, 1) := by decide +kernel
theorem dX9_image_53 : decode cX9_image 53 = .ok (.aload_n 0, 1) := by decide +kernel
theorem dX9_image_54 : decode cX9_image 54 = .ok (.getfield 66, 3) := by decide +kernel
theorem dX9_image_57 : decode cX9_image 57 = .ok (.aload_n 0, 1) := by decide +kernel
theorem dX9_image_58 : decode cX9_image 58 = .ok (.getfield 96, 3) := by decide +kernel
theorem dX9_image_61 : decode cX9_image 61 = .ok (.invokevirtual 297, 3) := by decide +kernel
theorem dX9_image_64 : decode cX9_image 64 = .ok (.aload_n 0, 1) := by decide +kernel
theorem dX9_image_65 : decode cX9_image 65 = .ok (.aload_n 0, 1) := by decide +kernel
theorem dX9_image_66 : decode cX9_image 66 = .ok (.getfield 84, 3) := by decide +kernel
theorem dX9_image_69 : decode cX9_image 69 = .ok (.aload_n 0, 1) := by decide +kernel
theorem dX9_image_70 : decode cX9_image 70 = .ok (.getfield 99, 3) := by decide +kernel
theorem dX9_image_73 : decode cX9_image 73 = .ok (.invokevirtual 297, 3) := by decide +kernel
theorem dX9_image_76 : decode cX9_image 76 = .ok (.return_, 1) := by decide +kernel
theorem dX9_restore_0 : decode cX9_restore 0 = .ok (.aload_n 0, 1) := by decide +kernel
theorem dX9_restore_1 : decode cX9_restore 1 = .ok (.iconst 0, 1) := by decide +kernel
theorem dX9_restore_2 : decode cX9_restore 2 = .ok (.putfield 102, 3) := by decide +kernel
theorem dX9_restore_5 : decode cX9_restore 5 = .ok (.aload_n 0, 1) := by decide +kernel
theorem dX9_restore_6 : decode cX9_restore 6 = .ok (.getfield 307, 3) := by decide +kernel
theorem dX9_restore_9 : decode cX9_restore 9 = .ok (.ifCond .ne 5, 3) := by decide +kernel
theorem dX9_restore_12 : decode cX9_restore 12 = .ok (.iconst 0, 1) := by decide +kernel
theorem dX9_restore_13 : decode cX9_restore 13 = .ok (.ireturn, 1) := by decide +kernel
theorem dX9_restore_14 : decode cX9_restore 14 = .ok (.aload_n 0, 1) := by decide +kernel
theorem dX9_restore_15 : decode cX9_restore 15 = .ok (.aload_n 0, 1) := by decide +kernel
theorem dX9_restore_16 : decode cX9_restore 16 = .ok (.getfield 447, 3) := by decide +kernel
theorem dX9_restore_19 : decode cX9_restore 19 = .ok (.putfield 301, 3) := by decide +kernel
theorem dX9_restore_22 : decode cX9_restore 22 = .ok (.aload_n 0, 1) := by decide +kernel
theorem dX9_restore_23 : decode cX9_restore 23 = .ok (.aload_n 0, 1) := by decide +kernel
theorem dX9_restore_24 : decode cX9_restore 24 = .ok (.getfield 450, 3) := by decide +kernel
theorem dX9_restore_27 : decode cX9_restore 27 = .ok (.putfield 304, 3) := by decide +kernel
theorem dX9_restore_30 : decode cX9_restore 30 = .ok (.iconst 0, 1) := by decide +kernel
theorem dX9_restore_31 : decode cX9_restore 31 = .ok (.istore_n 1, 1) := by decide +kernel
theorem dX9_restore_32 : decode cX9_restore 32 = .ok (.iload_n 1, 1) := by decide +kernel
theorem dX9_restore_33 : decode cX9_restore 33 = .ok (.bipush 54, 2) := by decide +kernel
theorem dX9_restore_35 : decode cX9_restore 35 = .ok (.if_icmp .ge 21, 3) := by decide +kernel
theorem dX9_restore_38 : decode cX9_restore 38 = .ok (.aload_n 0, 1) := by decide +kernel
theorem dX9_restore_39 : decode cX9_restore 39 = .ok (.getfield 63, 3) := by decide +kernel
theorem dX9_restore_42 : decode cX9_restore 42 = .ok (.iload_n 1, 1) := by decide +kernel
theorem dX9_restore_43 : decode cX9_restore 43 = .ok (.aload_n 0, 1) := by decide +kernel
theorem dX9_restore_44 : decode cX9_restore 44 = .ok (.getfield 93, 3) := by decide +kernel
theorem dX9_restore_47 : decode cX9_restore 47 = .ok (.iload_n 1, 1) := by decide +kernel
theorem dX9_restore_48 : decode cX9_restore 48 = .ok (.iaload, 1) := by decide +kernel
theorem dX9_restore_49 : decode cX9_restore 49 = .ok (.iastore, 1) := by decide +kernel
theorem dX9_restore_50 : decode cX9_restore 50 = .ok (.iinc 1 1, 3) := by decide +kernel
theorem dX9_restore_53 : decode cX9_restore 53 = .ok (.goto (-21), 3) := by decide +kernel
theorem dX9_restore_56 : decode cX9_restore 56 = .ok (.aload_n 0, 1) := by decide +kernel
theorem dX9_restore_57 : decode cX9_restore 57 = .ok (.aload_n 0, 1) := by decide +kernel
theorem dX9_restore_58 : decode cX9_restore 58 = .ok (.getfield 96, 3) := by decide +kernel
theorem dX9_restore_61 : decode cX9_restore 61 = .ok (.aload_n 0, 1) := by decide +kernel
theorem dX9_restore_62 : decode cX9_restore 62 = .ok (.getfield 66, 3) := by decide +kernel
theorem dX9_restore_65 : decode cX9_restore 65 = .ok (.invokevirtual 297, 3) := by decide +kernel
theorem dX9_restore_68 : decode cX9_restore 68 = .ok (.aload_n 0, 1) := by decide +kernel
theorem dX9_restore_69 : decode cX9_restore 69 = .ok (.aload_n 0, 1) := by decide +kernel
theorem dX9_restore_70 : decode cX9_restore 70 = .ok (.getfield 99, 3) := by decide +kernel
theorem dX9_restore_73 : decode cX9_restore 73 = .ok (.aload_n 0, 1) := by decide +kernel
theorem dX9_restore_74 : decode cX9_restore 74 = .ok (.getfield 84, 3) := by decide +kernel
theorem dX9_restore_77 : decode cX9_restore 77 = .ok (.invokevirtual 297, 3) := by decide +kernel
theorem dX9_restore_80 : decode cX9_restore 80 = .ok (.iconst 1, 1) := by decide +kernel
theorem dX9_restore_81 : decode cX9_restore 81 = .ok (.ireturn, 1) := by decide +kernel
