theorem dX8_init_0 : decode cX8_init 0 = .ok (.aload_n 0, 1) := by decide +kernel
theorem dX8_init_1 : decode cX8_init 1 = .ok (.invokespecial 1, 3) := by decide +kernel
theorem dX8_init_4 : decode cX8_init 4 = .ok (.aload_n 0, 1) := by decide +kernel
theorem dX8_init_5 : decode cX8_init 5 = .ok (.iconst 3, 1) := by decide +kernel
theorem dX8_init_6 : decode cX8_init 6 = .ok (.newarray .int, 2) := by decide +kernel
theorem dX8_init_8 : decode cX8_init 8 = .ok (.putfield 7, 3) := by decide +kernel
theorem dX8_init_11 : decode cX8_init 11 = .ok (.aload_n 0, 1) := by decide +kernel
theorem dX8_init_12 : decode cX8_init 12 = .ok (.new 13, 3) := by decide +kernel
theorem dX8_init_15 : decode cX8_init 15 = .ok (.dup, 1) := by decide +kernel
theorem dX8_init_16 : decode cX8_init 16 = .ok (.invokespecial 15, 3) := by decide +kernel
theorem dX8_init_19 : decode cX8_init 19 = .ok (.putfield 16, 3) := by decide +kernel
theorem dX8_init_22 : decode cX8_init 22 = .ok (.aload_n 0, 1) := by decide +kernel
theorem dX8_init_23 : decode cX8_init 23 = .ok (.new 13, 3) := by decide +kernel
theorem dX8_init_26 : decode cX8_init 26 = .ok (.dup, 1) := by decide +kernel
theorem dX8_init_27 : decode cX8_init 27 = .ok (.invokespecial 15, 3) := by decide +kernel
theorem dX8_init_30 : decode cX8_init 30 = .ok (.putfield 20, 3) := by decide +kernel
theorem dX8_init_33 : decode cX8_init 33 = .ok (.aload_n 0, 1) := by decide +kernel
theorem dX8_init_34 : decode cX8_init 34 = .ok (.new 13, 3) := by decide +kernel
theorem dX8_init_37 : decode cX8_init 37 = .ok (.dup, 1) := by decide +kernel
theorem dX8_init_38 : decode cX8_init 38 = .ok (.invokespecial 15, 3) := by decide +kernel
theorem dX8_init_41 : decode cX8_init 41 = .ok (.putfield 23, 3) := by decide +kernel
theorem dX8_init_44 : decode cX8_init 44 = .ok (.aload_n 0, 1) := by decide +kernel
theorem dX8_init_45 : decode cX8_init 45 = .ok (.new 26, 3) := by decide +kernel
theorem dX8_init_48 : decode cX8_init 48 = .ok (.dup, 1) := by decide +kernel
theorem dX8_init_49 : decode cX8_init 49 = .ok (.invokespecial 28, 3) := by decide +kernel
theorem dX8_init_52 : decode cX8_init 52 = .ok (.putfield 29, 3) := by decide +kernel
theorem dX8_init_55 : decode cX8_init 55 = .ok (.aload_n 0, 1) := by decide +kernel
theorem dX8_init_56 : decode cX8_init 56 = .ok (.new 33, 3) := by decide +kernel
theorem dX8_init_59 : decode cX8_init 59 = .ok (.dup, 1) := by decide +kernel
theorem dX8_init_60 : decode cX8_init 60 = .ok (.invokespecial 35, 3) := by decide +kernel
theorem dX8_init_63 : decode cX8_init 63 = .ok (.putfield 36, 3) := by decide +kernel
theorem dX8_init_66 : decode cX8_init 66 = .ok (.aload_n 0, 1) := by decide +kernel
theorem dX8_init_67 : decode cX8_init 67 = .ok (.new 13, 3) := by decide +kernel
theorem dX8_init_70 : decode cX8_init 70 = .ok (.dup, 1) := by decide +kernel
theorem dX8_init_71 : decode cX8_init 71 = .ok (.invokespecial 15, 3) := by decide +kernel
theorem dX8_init_74 : decode cX8_init 74 = .ok (.putfield 40, 3) := by decide +kernel
theorem dX8_init_77 : decode cX8_init 77 = .ok (.aload_n 0, 1) := by decide +kernel
theorem dX8_init_78 : decode cX8_init 78 = .ok (.new 26, 3) := by decide +kernel
theorem dX8_init_81 : decode cX8_init 81 = .ok (.dup, 1) := by decide +kernel
theorem dX8_init_82 : decode cX8_init 82 = .ok (.invokespecial 28, 3) := by decide +kernel
theorem dX8_init_85 : decode cX8_init 85 = .ok (.putfield 43, 3) := by decide +kernel
theorem dX8_init_88 : decode cX8_init 88 = .ok (.aload_n 0, 1) := by decide +kernel
theorem dX8_init_89 : decode cX8_init 89 = .ok (.new 33, 3) := by decide +kernel
theorem dX8_init_92 : decode cX8_init 92 = .ok (.dup, 1) := by decide +kernel
theorem dX8_init_93 : decode cX8_init 93 = .ok (.invokespecial 35, 3) := by decide +kernel
theorem dX8_init_96 : decode cX8_init 96 = .ok (.putfield 46, 3) := by decide +kernel
theorem dX8_init_99 : decode cX8_init 99 = .ok (.aload_n 0, 1) := by decide +kernel
theorem dX8_init_100 : decode cX8_init 100 = .ok (.bipush 10, 2) := by decide +kernel
theorem dX8_init_102 : decode cX8_init 102 = .ok (.newarray .long, 2) := by decide +kernel
theorem dX8_init_104 : decode cX8_init 104 = .ok (.putfield 49, 3) := by decide +kernel
theorem dX8_init_107 : decode cX8_init 107 = .ok (.aload_n 0, 1) := by decide +kernel
theorem dX8_init_108 : decode cX8_init 108 = .ok (.bipush 8, 2) := by decide +kernel
theorem dX8_init_110 : decode cX8_init 110 = .ok (.newarray .int, 2) := by decide +kernel
theorem dX8_init_112 : decode cX8_init 112 = .ok (.putfield 53, 3) := by decide +kernel
theorem dX8_init_115 : decode cX8_init 115 = .ok (.aload_n 0, 1) := by decide +kernel
theorem dX8_init_116 : decode cX8_init 116 = .ok (.new 56, 3) := by decide +kernel
theorem dX8_init_119 : decode cX8_init 119 = .ok (.dup, 1) := by decide +kernel
theorem dX8_init_120 : decode cX8_init 120 = .ok (.invokespecial 58, 3) := by decide +kernel
theorem dX8_init_123 : decode cX8_init 123 = .ok (.putfield 59, 3) := by decide +kernel
theorem dX8_init_126 : decode cX8_init 126 = .ok (.aload_n 0, 1) := by decide +kernel
theorem dX8_init_127 : decode cX8_init 127 = .ok (.new 63, 3) := by decide +kernel
theorem dX8_init_130 : decode cX8_init 130 = .ok (.dup, 1) := by decide +kernel
theorem dX8_init_131 : decode cX8_init 131 = .ok (.invokespecial 65, 3) := by decide +kernel
theorem dX8_init_134 : decode cX8_init 134 = .ok (.putfield 66, 3) := by decide +kernel
theorem dX8_init_137 : decode cX8_init 137 = .ok (.aload_n 0, 1) := by decide +kernel
theorem dX8_init_138 : decode cX8_init 138 = .ok (.iconst (-1), 1) := by decide +kernel
theorem dX8_init_139 : decode cX8_init 139 = .ok (.putfield 70, 3) := by decide +kernel
theorem dX8_init_142 : decode cX8_init 142 = .ok (.aload_n 0, 1) := by decide +kernel
theorem dX8_init_143 : decode cX8_init 143 = .ok (.iconst 0, 1) := by decide +kernel
theorem dX8_init_144 : decode cX8_init 144 = .ok (.putfield 74, 3) := by decide +kernel
theorem dX8_init_147 : decode cX8_init 147 = .ok (.return_, 1) := by decide +kernel
theorem dX8_feed_0 : decode cX8_feed 0 = .ok (.aload_n 0, 1) := by decide +kernel
theorem dX8_feed_1 : decode cX8_feed 1 = .ok (.getfield 59, 3) := by decide +kernel
theorem dX8_feed_4 : decode cX8_feed 4 = .ok (.getfield 78, 3) := by decide +kernel
theorem dX8_feed_7 : decode cX8_feed 7 = .ok (.bipush 20, 2) := by decide +kernel
theorem dX8_feed_9 : decode cX8_feed 9 = .ok (.iadd, 1) := by decide +kernel
theorem dX8_feed_10 : decode cX8_feed 10 = .ok (.sipush 700, 3) := by decide +kernel
theorem dX8_feed_13 : decode cX8_feed 13 = .ok (.if_icmp .le 5, 3) := by decide +kernel
theorem dX8_feed_16 : decode cX8_feed 16 = .ok (.iconst (-1), 1) := by decide +kernel
theorem dX8_feed_17 : decode cX8_feed 17 = .ok (.ireturn, 1) := by decide +kernel
theorem dX8_feed_18 : decode cX8_feed 18 = .ok (.aload_n 0, 1) := by decide +kernel
theorem dX8_feed_19 : decode cX8_feed 19 = .ok (.getfield 59, 3) := by decide +kernel
theorem dX8_feed_22 : decode cX8_feed 22 = .ok (.iload_n 1, 1) := by decide +kernel
theorem dX8_feed_23 : decode cX8_feed 23 = .ok (.invokevirtual 81, 3) := by decide +kernel
theorem dX8_feed_26 : decode cX8_feed 26 = .ok (.aload_n 0, 1) := by decide +kernel
theorem dX8_feed_27 : decode cX8_feed 27 = .ok (.getfield 59, 3) := by decide +kernel
theorem dX8_feed_30 : decode cX8_feed 30 = .ok (.iload_n 2, 1) := by decide +kernel
theorem dX8_feed_31 : decode cX8_feed 31 = .ok (.invokevirtual 81, 3) := by decide +kernel
theorem dX8_feed_34 : decode cX8_feed 34 = .ok (.aload_n 0, 1) := by decide +kernel
theorem dX8_feed_35 : decode cX8_feed 35 = .ok (.getfield 59, 3) := by decide +kernel
theorem dX8_feed_38 : decode cX8_feed 38 = .ok (.iload_n 3, 1) := by decide +kernel
theorem dX8_feed_39 : decode cX8_feed 39 = .ok (.invokevirtual 81, 3) := by decide +kernel
theorem dX8_feed_42 : decode cX8_feed 42 = .ok (.aload_n 0, 1) := by decide +kernel
theorem dX8_feed_43 : decode cX8_feed 43 = .ok (.getfield 59, 3) := by decide +kernel
theorem dX8_feed_46 : decode cX8_feed 46 = .ok (.iload 4, 2) := by decide +kernel
theorem dX8_feed_48 : decode cX8_feed 48 = .ok (.invokevirtual 81, 3) := by decide +kernel
theorem dX8_feed_51 : decode cX8_feed 51 = .ok (.aload_n 0, 1) := by decide +kernel
theorem dX8_feed_52 : decode cX8_feed 52 = .ok (.getfield 59, 3) := by decide +kernel
theorem dX8_feed_55 : decode cX8_feed 55 = .ok (.iload 5, 2) := by decide +kernel
theorem dX8_feed_57 : decode cX8_feed 57 = .ok (.invokevirtual 81, 3) := by decide +kernel
theorem dX8_feed_60 : decode cX8_feed 60 = .ok (.aload_n 0, 1) := by decide +kernel
theorem dX8_feed_61 : decode cX8_feed 61 = .ok (.getfield 59, 3) := by decide +kernel
theorem dX8_feed_64 : decode cX8_feed 64 = .ok (.getfield 78, 3) := by decide +kernel
theorem dX8_feed_67 : decode cX8_feed 67 = .ok (.ireturn, 1) := by decide +kernel
theorem dX8_town_0 : decode cX8_town 0 = .ok (.iload_n 1, 1) := by decide +kernel
theorem dX8_town_1 : decode cX8_town 1 = .ok (.ifCond .lt 14, 3) := by decide +kernel
theorem dX8_town_4 : decode cX8_town 4 = .ok (.iload_n 1, 1) := by decide +kernel
theorem dX8_town_5 : decode cX8_town 5 = .ok (.aload_n 0, 1) := by decide +kernel
theorem dX8_town_6 : decode cX8_town 6 = .ok (.getfield 59, 3) := by decide +kernel
theorem dX8_town_9 : decode cX8_town 9 = .ok (.getfield 78, 3) := by decide +kernel
theorem dX8_town_12 : decode cX8_town 12 = .ok (.if_icmp .le 13, 3) := by decide +kernel
theorem dX8_town_15 : decode cX8_town 15 = .ok (.new 85, 3) := by decide +kernel
theorem dX8_town_18 : decode cX8_town 18 = .ok (.dup, 1) := by decide +kernel
theorem dX8_town_19 : decode cX8_town 19 = .ok (.ldc 87, 2) := by decide +kernel
theorem dX8_town_21 : decode cX8_town 21 = .ok (.invokespecial 89, 3) := by decide +kernel
theorem dX8_town_24 : decode cX8_town 24 = .ok (.athrow, 1) := by decide +kernel
theorem dX8_town_25 : decode cX8_town 25 = .ok (.aload_n 0, 1) := by decide +kernel
theorem dX8_town_26 : decode cX8_town 26 = .ok (.getfield 59, 3) := by decide +kernel
theorem dX8_town_29 : decode cX8_town 29 = .ok (.iload_n 1, 1) := by decide +kernel
theorem dX8_town_30 : decode cX8_town 30 = .ok (.invokevirtual 92, 3) := by decide +kernel
theorem dX8_town_33 : decode cX8_town 33 = .ok (.istore_n 2, 1) := by decide +kernel
theorem dX8_town_34 : decode cX8_town 34 = .ok (.iload_n 2, 1) := by decide +kernel
theorem dX8_town_35 : decode cX8_town 35 = .ok (.ifCond .eq 26, 3) := by decide +kernel
theorem dX8_town_38 : decode cX8_town 38 = .ok (.aload_n 0, 1) := by decide +kernel
theorem dX8_town_39 : decode cX8_town 39 = .ok (.aload_n 0, 1) := by decide +kernel
theorem dX8_town_40 : decode cX8_town 40 = .ok (.getfield 59, 3) := by decide +kernel
theorem dX8_town_43 : decode cX8_town 43 = .ok (.getfield 96, 3) := by decide +kernel
theorem dX8_town_46 : decode cX8_town 46 = .ok (.putfield 70, 3) := by decide +kernel
theorem dX8_town_49 : decode cX8_town 49 = .ok (.aload_n 0, 1) := by decide +kernel
theorem dX8_town_50 : decode cX8_town 50 = .ok (.getfield 7, 3) := by decide +kernel
theorem dX8_town_53 : decode cX8_town 53 = .ok (.iconst 0, 1) := by decide +kernel
theorem dX8_town_54 : decode cX8_town 54 = .ok (.dup2, 1) := by decide +kernel
theorem dX8_town_55 : decode cX8_town 55 = .ok (.iaload, 1) := by decide +kernel
theorem dX8_town_56 : decode cX8_town 56 = .ok (.iconst 1, 1) := by decide +kernel
theorem dX8_town_57 : decode cX8_town 57 = .ok (.iadd, 1) := by decide +kernel
theorem dX8_town_58 : decode cX8_town 58 = .ok (.iastore, 1) := by decide +kernel
theorem dX8_town_59 : decode cX8_town 59 = .ok (.iload_n 2, 1) := by decide +kernel
theorem dX8_town_60 : decode cX8_town 60 = .ok (.ireturn, 1) := by decide +kernel
theorem dX8_town_61 : decode cX8_town 61 = .ok (.aload_n 0, 1) := by decide +kernel
theorem dX8_town_62 : decode cX8_town 62 = .ok (.iconst (-1), 1) := by decide +kernel
theorem dX8_town_63 : decode cX8_town 63 = .ok (.putfield 70, 3) := by decide +kernel
theorem dX8_town_66 : decode cX8_town 66 = .ok (.aload_n 0, 1) := by decide +kernel
theorem dX8_town_67 : decode cX8_town 67 = .ok (.aload_n 0, 1) := by decide +kernel
theorem dX8_town_68 : decode cX8_town 68 = .ok (.getfield 59, 3) := by decide +kernel
theorem dX8_town_71 : decode cX8_town 71 = .ok (.aload_n 0, 1) := by decide +kernel
theorem dX8_town_72 : decode cX8_town 72 = .ok (.getfield 66, 3) := by decide +kernel
theorem dX8_town_75 : decode cX8_town 75 = .ok (.invokevirtual 99, 3) := by decide +kernel
theorem dX8_town_78 : decode cX8_town 78 = .ok (.putfield 66, 3) := by decide +kernel
theorem dX8_town_81 : decode cX8_town 81 = .ok (.aload_n 0, 1) := by decide +kernel
theorem dX8_town_82 : decode cX8_town 82 = .ok (.getfield 16, 3) := by decide +kernel
theorem dX8_town_85 : decode cX8_town 85 = .ok (.aload_n 0, 1) := by decide +kernel
theorem dX8_town_86 : decode cX8_town 86 = .ok (.getfield 59, 3) := by decide +kernel
theorem dX8_town_89 : decode cX8_town 89 = .ok (.getfield 103, 3) := by decide +kernel
theorem dX8_town_92 : decode cX8_town 92 = .ok (.invokevirtual 106, 3) := by decide +kernel
theorem dX8_town_95 : decode cX8_town 95 = .ok (.aload_n 0, 1) := by decide +kernel
theorem dX8_town_96 : decode cX8_town 96 = .ok (.getfield 29, 3) := by decide +kernel
theorem dX8_town_99 : decode cX8_town 99 = .ok (.invokevirtual 110, 3) := by decide +kernel
theorem dX8_town_102 : decode cX8_town 102 = .ok (.aload_n 0, 1) := by decide +kernel
theorem dX8_town_103 : decode cX8_town 103 = .ok (.getfield 36, 3) := by decide +kernel
theorem dX8_town_106 : decode cX8_town 106 = .ok (.invokevirtual 113, 3) := by decide +kernel
theorem dX8_town_109 : decode cX8_town 109 = .ok (.aload_n 0, 1) := by decide +kernel
theorem dX8_town_110 : decode cX8_town 110 = .ok (.iconst 0, 1) := by decide +kernel
theorem dX8_town_111 : decode cX8_town 111 = .ok (.putfield 74, 3) := by decide +kernel
theorem dX8_town_114 : decode cX8_town 114 = .ok (.iconst 0, 1) := by decide +kernel
theorem dX8_town_115 : decode cX8_town 115 = .ok (.ireturn, 1) := by decide +kernel
theorem dX8_fault_0 : decode cX8_fault 0 = .ok (.aload_n 0, 1) := by decide +kernel
theorem dX8_fault_1 : decode cX8_fault 1 = .ok (.getfield 70, 3) := by decide +kernel
theorem dX8_fault_4 : decode cX8_fault 4 = .ok (.ireturn, 1) := by decide +kernel
theorem dX8_count_0 : decode cX8_count 0 = .ok (.iload_n 1, 1) := by decide +kernel
theorem dX8_count_1 : decode cX8_count 1 = .ok (.tableswitch 306 0 21 #[103, 111, 127, 135, 143, 151, 159, 167, 175, 183, 191, 214, 222, 230, 245, 253, 261, 269, 277, 285, 292, 299], 103) := by decide +kernel
theorem dX8_count_104 : decode cX8_count 104 = .ok (.aload_n 0, 1) := by decide +kernel
theorem dX8_count_105 : decode cX8_count 105 = .ok (.getfield 16, 3) := by decide +kernel
theorem dX8_count_108 : decode cX8_count 108 = .ok (.getfield 114, 3) := by decide +kernel
theorem dX8_count_111 : decode cX8_count 111 = .ok (.ireturn, 1) := by decide +kernel
theorem dX8_count_112 : decode cX8_count 112 = .ok (.aload_n 0, 1) := by decide +kernel
theorem dX8_count_113 : decode cX8_count 113 = .ok (.getfield 16, 3) := by decide +kernel
theorem dX8_count_116 : decode cX8_count 116 = .ok (.getfield 117, 3) := by decide +kernel
theorem dX8_count_119 : decode cX8_count 119 = .ok (.aload_n 0, 1) := by decide +kernel
theorem dX8_count_120 : decode cX8_count 120 = .ok (.getfield 16, 3) := by decide +kernel
theorem dX8_count_123 : decode cX8_count 123 = .ok (.getfield 114, 3) := by decide +kernel
theorem dX8_count_126 : decode cX8_count 126 = .ok (.isub, 1) := by decide +kernel
theorem dX8_count_127 : decode cX8_count 127 = .ok (.ireturn, 1) := by decide +kernel
theorem dX8_count_128 : decode cX8_count 128 = .ok (.aload_n 0, 1) := by decide +kernel
theorem dX8_count_129 : decode cX8_count 129 = .ok (.getfield 16, 3) := by decide +kernel
theorem dX8_count_132 : decode cX8_count 132 = .ok (.getfield 120, 3) := by decide +kernel
theorem dX8_count_135 : decode cX8_count 135 = .ok (.ireturn, 1) := by decide +kernel
theorem dX8_count_136 : decode cX8_count 136 = .ok (.aload_n 0, 1) := by decide +kernel
theorem dX8_count_137 : decode cX8_count 137 = .ok (.getfield 16, 3) := by decide +kernel
theorem dX8_count_140 : decode cX8_count 140 = .ok (.getfield 123, 3) := by decide +kernel
theorem dX8_count_143 : decode cX8_count 143 = .ok (.ireturn, 1) := by decide +kernel
theorem dX8_count_144 : decode cX8_count 144 = .ok (.aload_n 0, 1) := by decide +kernel
theorem dX8_count_145 : decode cX8_count 145 = .ok (.getfield 16, 3) := by decide +kernel
theorem dX8_count_148 : decode cX8_count 148 = .ok (.getfield 126, 3) := by decide +kernel
theorem dX8_count_151 : decode cX8_count 151 = .ok (.ireturn, 1) := by decide +kernel
theorem dX8_count_152 : decode cX8_count 152 = .ok (.aload_n 0, 1) := by decide +kernel
theorem dX8_count_153 : decode cX8_count 153 = .ok (.getfield 16, 3) := by decide +kernel
theorem dX8_count_156 : decode cX8_count 156 = .ok (.getfield 129, 3) := by decide +kernel
theorem dX8_count_159 : decode cX8_count 159 = .ok (.ireturn, 1) := by decide +kernel
theorem dX8_count_160 : decode cX8_count 160 = .ok (.aload_n 0, 1) := by decide +kernel
theorem dX8_count_161 : decode cX8_count 161 = .ok (.getfield 16, 3) := by decide +kernel
theorem dX8_count_164 : decode cX8_count 164 = .ok (.invokevirtual 132, 3) := by decide +kernel
theorem dX8_count_167 : decode cX8_count 167 = .ok (.ireturn, 1) := by decide +kernel
theorem dX8_count_168 : decode cX8_count 168 = .ok (.aload_n 0, 1) := by decide +kernel
theorem dX8_count_169 : decode cX8_count 169 = .ok (.getfield 16, 3) := by decide +kernel
theorem dX8_count_172 : decode cX8_count 172 = .ok (.invokevirtual 136, 3) := by decide +kernel
theorem dX8_count_175 : decode cX8_count 175 = .ok (.ireturn, 1) := by decide +kernel
theorem dX8_count_176 : decode cX8_count 176 = .ok (.aload_n 0, 1) := by decide +kernel
theorem dX8_count_177 : decode cX8_count 177 = .ok (.getfield 16, 3) := by decide +kernel
theorem dX8_count_180 : decode cX8_count 180 = .ok (.invokevirtual 139, 3) := by decide +kernel
theorem dX8_count_183 : decode cX8_count 183 = .ok (.ireturn, 1) := by decide +kernel
theorem dX8_count_184 : decode cX8_count 184 = .ok (.aload_n 0, 1) := by decide +kernel
theorem dX8_count_185 : decode cX8_count 185 = .ok (.getfield 16, 3) := by decide +kernel
theorem dX8_count_188 : decode cX8_count 188 = .ok (.invokevirtual 142, 3) := by decide +kernel
theorem dX8_count_191 : decode cX8_count 191 = .ok (.ireturn, 1) := by decide +kernel
theorem dX8_count_192 : decode cX8_count 192 = .ok (.aload_n 0, 1) := by decide +kernel
theorem dX8_count_193 : decode cX8_count 193 = .ok (.getfield 16, 3) := by decide +kernel
theorem dX8_count_196 : decode cX8_count 196 = .ok (.getfield 114, 3) := by decide +kernel
theorem dX8_count_199 : decode cX8_count 199 = .ok (.aload_n 0, 1) := by decide +kernel
theorem dX8_count_200 : decode cX8_count 200 = .ok (.getfield 66, 3) := by decide +kernel
theorem dX8_count_203 : decode cX8_count 203 = .ok (.getfield 145, 3) := by decide +kernel
theorem dX8_count_206 : decode cX8_count 206 = .ok (.if_icmp .lt 7, 3) := by decide +kernel
theorem dX8_count_209 : decode cX8_count 209 = .ok (.iconst 1, 1) := by decide +kernel
theorem dX8_count_210 : decode cX8_count 210 = .ok (.goto 4, 3) := by decide +kernel
theorem dX8_count_213 : decode cX8_count 213 = .ok (.iconst 0, 1) := by decide +kernel
theorem dX8_count_214 : decode cX8_count 214 = .ok (.ireturn, 1) := by decide +kernel
theorem dX8_count_215 : decode cX8_count 215 = .ok (.aload_n 0, 1) := by decide +kernel
theorem dX8_count_216 : decode cX8_count 216 = .ok (.getfield 16, 3) := by decide +kernel
theorem dX8_count_219 : decode cX8_count 219 = .ok (.getfield 148, 3) := by decide +kernel
theorem dX8_count_222 : decode cX8_count 222 = .ok (.ireturn, 1) := by decide +kernel
theorem dX8_count_223 : decode cX8_count 223 = .ok (.aload_n 0, 1) := by decide +kernel
theorem dX8_count_224 : decode cX8_count 224 = .ok (.getfield 16, 3) := by decide +kernel
theorem dX8_count_227 : decode cX8_count 227 = .ok (.invokestatic 151, 3) := by decide +kernel
theorem dX8_count_230 : decode cX8_count 230 = .ok (.ireturn, 1) := by decide +kernel
theorem dX8_count_231 : decode cX8_count 231 = .ok (.aload_n 0, 1) := by decide +kernel
theorem dX8_count_232 : decode cX8_count 232 = .ok (.getfield 16, 3) := by decide +kernel
theorem dX8_count_235 : decode cX8_count 235 = .ok (.aload_n 0, 1) := by decide +kernel
theorem dX8_count_236 : decode cX8_count 236 = .ok (.getfield 16, 3) := by decide +kernel
theorem dX8_count_239 : decode cX8_count 239 = .ok (.invokevirtual 157, 3) := by decide +kernel
theorem dX8_count_242 : decode cX8_count 242 = .ok (.invokevirtual 160, 3) := by decide +kernel
theorem dX8_count_245 : decode cX8_count 245 = .ok (.ireturn, 1) := by decide +kernel
theorem dX8_count_246 : decode cX8_count 246 = .ok (.aload_n 0, 1) := by decide +kernel
theorem dX8_count_247 : decode cX8_count 247 = .ok (.getfield 16, 3) := by decide +kernel
theorem dX8_count_250 : decode cX8_count 250 = .ok (.invokevirtual 157, 3) := by decide +kernel
theorem dX8_count_253 : decode cX8_count 253 = .ok (.ireturn, 1) := by decide +kernel
theorem dX8_count_254 : decode cX8_count 254 = .ok (.aload_n 0, 1) := by decide +kernel
theorem dX8_count_255 : decode cX8_count 255 = .ok (.getfield 16, 3) := by decide +kernel
theorem dX8_count_258 : decode cX8_count 258 = .ok (.invokevirtual 163, 3) := by decide +kernel
theorem dX8_count_261 : decode cX8_count 261 = .ok (.ireturn, 1) := by decide +kernel
theorem dX8_count_262 : decode cX8_count 262 = .ok (.aload_n 0, 1) := by decide +kernel
theorem dX8_count_263 : decode cX8_count 263 = .ok (.getfield 29, 3) := by decide +kernel
theorem dX8_count_266 : decode cX8_count 266 = .ok (.getfield 166, 3) := by decide +kernel
theorem dX8_count_269 : decode cX8_count 269 = .ok (.ireturn, 1) := by decide +kernel
theorem dX8_count_270 : decode cX8_count 270 = .ok (.aload_n 0, 1) := by decide +kernel
theorem dX8_count_271 : decode cX8_count 271 = .ok (.getfield 36, 3) := by decide +kernel
theorem dX8_count_274 : decode cX8_count 274 = .ok (.getfield 169, 3) := by decide +kernel
theorem dX8_count_277 : decode cX8_count 277 = .ok (.ireturn, 1) := by decide +kernel
theorem dX8_count_278 : decode cX8_count 278 = .ok (.aload_n 0, 1) := by decide +kernel
theorem dX8_count_279 : decode cX8_count 279 = .ok (.getfield 59, 3) := by decide +kernel
theorem dX8_count_282 : decode cX8_count 282 = .ok (.getfield 78, 3) := by decide +kernel
theorem dX8_count_285 : decode cX8_count 285 = .ok (.ireturn, 1) := by decide +kernel
theorem dX8_count_286 : decode cX8_count 286 = .ok (.aload_n 0, 1) := by decide +kernel
theorem dX8_count_287 : decode cX8_count 287 = .ok (.getfield 7, 3) := by decide +kernel
theorem dX8_count_290 : decode cX8_count 290 = .ok (.iconst 0, 1) := by decide +kernel
theorem dX8_count_291 : decode cX8_count 291 = .ok (.iaload, 1) := by decide +kernel
theorem dX8_count_292 : decode cX8_count 292 = .ok (.ireturn, 1) := by decide +kernel
theorem dX8_count_293 : decode cX8_count 293 = .ok (.aload_n 0, 1) := by decide +kernel
theorem dX8_count_294 : decode cX8_count 294 = .ok (.getfield 7, 3) := by decide +kernel
theorem dX8_count_297 : decode cX8_count 297 = .ok (.iconst 1, 1) := by decide +kernel
theorem dX8_count_298 : decode cX8_count 298 = .ok (.iaload, 1) := by decide +kernel
theorem dX8_count_299 : decode cX8_count 299 = .ok (.ireturn, 1) := by decide +kernel
theorem dX8_count_300 : decode cX8_count 300 = .ok (.aload_n 0, 1) := by decide +kernel
theorem dX8_count_301 : decode cX8_count 301 = .ok (.getfield 7, 3) := by decide +kernel
theorem dX8_count_304 : decode cX8_count 304 = .ok (.iconst 2, 1) := by decide +kernel
theorem dX8_count_305 : decode cX8_count 305 = .ok (.iaload, 1) := by decide +kernel
theorem dX8_count_306 : decode cX8_count 306 = .ok (.ireturn, 1) := by decide +kernel
theorem dX8_count_307 : decode cX8_count 307 = .ok (.new 170, 3) := by decide +kernel
theorem dX8_count_310 : decode cX8_count 310 = .ok (.dup, 1) := by decide +kernel
theorem dX8_count_311 : decode cX8_count 311 = .ok (.ldc 172, 2) := by decide +kernel
theorem dX8_count_313 : decode cX8_count 313 = .ok (.invokespecial 174, 3) := by decide +kernel
theorem dX8_count_316 : decode cX8_count 316 = .ok (.athrow, 1) := by decide +kernel
theorem dX8_course_0 : decode cX8_course 0 = .ok (.iload_n 1, 1) := by decide +kernel
theorem dX8_course_1 : decode cX8_course 1 = .ok (.ifCond .lt 14, 3) := by decide +kernel
theorem dX8_course_4 : decode cX8_course 4 = .ok (.iload_n 1, 1) := by decide +kernel
theorem dX8_course_5 : decode cX8_course 5 = .ok (.aload_n 0, 1) := by decide +kernel
theorem dX8_course_6 : decode cX8_course 6 = .ok (.getfield 16, 3) := by decide +kernel
theorem dX8_course_9 : decode cX8_course 9 = .ok (.getfield 117, 3) := by decide +kernel
theorem dX8_course_12 : decode cX8_course 12 = .ok (.if_icmp .lt 13, 3) := by decide +kernel
theorem dX8_course_15 : decode cX8_course 15 = .ok (.new 170, 3) := by decide +kernel
theorem dX8_course_18 : decode cX8_course 18 = .ok (.dup, 1) := by decide +kernel
theorem dX8_course_19 : decode cX8_course 19 = .ok (.ldc 175, 2) := by decide +kernel
theorem dX8_course_21 : decode cX8_course 21 = .ok (.invokespecial 174, 3) := by decide +kernel
theorem dX8_course_24 : decode cX8_course 24 = .ok (.athrow, 1) := by decide +kernel
theorem dX8_course_25 : decode cX8_course 25 = .ok (.iload_n 2, 1) := by decide +kernel
theorem dX8_course_26 : decode cX8_course 26 = .ok (.tableswitch 63 0 2 #[26, 36, 46], 26) := by decide +kernel
theorem dX8_course_52 : decode cX8_course 52 = .ok (.aload_n 0, 1) := by decide +kernel
theorem dX8_course_53 : decode cX8_course 53 = .ok (.getfield 16, 3) := by decide +kernel
theorem dX8_course_56 : decode cX8_course 56 = .ok (.getfield 177, 3) := by decide +kernel
theorem dX8_course_59 : decode cX8_course 59 = .ok (.iload_n 1, 1) := by decide +kernel
theorem dX8_course_60 : decode cX8_course 60 = .ok (.iaload, 1) := by decide +kernel
theorem dX8_course_61 : decode cX8_course 61 = .ok (.ireturn, 1) := by decide +kernel
theorem dX8_course_62 : decode cX8_course 62 = .ok (.aload_n 0, 1) := by decide +kernel
theorem dX8_course_63 : decode cX8_course 63 = .ok (.getfield 16, 3) := by decide +kernel
theorem dX8_course_66 : decode cX8_course 66 = .ok (.getfield 180, 3) := by decide +kernel
theorem dX8_course_69 : decode cX8_course 69 = .ok (.iload_n 1, 1) := by decide +kernel
theorem dX8_course_70 : decode cX8_course 70 = .ok (.iaload, 1) := by decide +kernel
theorem dX8_course_71 : decode cX8_course 71 = .ok (.ireturn, 1) := by decide +kernel
theorem dX8_course_72 : decode cX8_course 72 = .ok (.iload_n 1, 1) := by decide +kernel
theorem dX8_course_73 : decode cX8_course 73 = .ok (.aload_n 0, 1) := by decide +kernel
theorem dX8_course_74 : decode cX8_course 74 = .ok (.getfield 16, 3) := by decide +kernel
theorem dX8_course_77 : decode cX8_course 77 = .ok (.getfield 114, 3) := by decide +kernel
theorem dX8_course_80 : decode cX8_course 80 = .ok (.if_icmp .ge 7, 3) := by decide +kernel
theorem dX8_course_83 : decode cX8_course 83 = .ok (.iconst 1, 1) := by decide +kernel
theorem dX8_course_84 : decode cX8_course 84 = .ok (.goto 4, 3) := by decide +kernel
theorem dX8_course_87 : decode cX8_course 87 = .ok (.iconst 0, 1) := by decide +kernel
theorem dX8_course_88 : decode cX8_course 88 = .ok (.ireturn, 1) := by decide +kernel
theorem dX8_course_89 : decode cX8_course 89 = .ok (.new 170, 3) := by decide +kernel
theorem dX8_course_92 : decode cX8_course 92 = .ok (.dup, 1) := by decide +kernel
theorem dX8_course_93 : decode cX8_course 93 = .ok (.ldc 172, 2) := by decide +kernel
theorem dX8_course_95 : decode cX8_course 95 = .ok (.invokespecial 174, 3) := by decide +kernel
theorem dX8_course_98 : decode cX8_course 98 = .ok (.athrow, 1) := by decide +kernel
theorem dX8_ward_0 : decode cX8_ward 0 = .ok (.aload_n 0, 1) := by decide +kernel
theorem dX8_ward_1 : decode cX8_ward 1 = .ok (.iload_n 1, 1) := by decide +kernel
theorem dX8_ward_2 : decode cX8_ward 2 = .ok (.invokevirtual 183, 3) := by decide +kernel
theorem dX8_ward_5 : decode cX8_ward 5 = .ok (.iload_n 2, 1) := by decide +kernel
theorem dX8_ward_6 : decode cX8_ward 6 = .ok (.tableswitch 94 0 3 #[30, 40, 50, 66], 30) := by decide +kernel
theorem dX8_ward_36 : decode cX8_ward 36 = .ok (.aload_n 0, 1) := by decide +kernel
theorem dX8_ward_37 : decode cX8_ward 37 = .ok (.getfield 16, 3) := by decide +kernel
theorem dX8_ward_40 : decode cX8_ward 40 = .ok (.getfield 186, 3) := by decide +kernel
theorem dX8_ward_43 : decode cX8_ward 43 = .ok (.iload_n 1, 1) := by decide +kernel
theorem dX8_ward_44 : decode cX8_ward 44 = .ok (.iaload, 1) := by decide +kernel
theorem dX8_ward_45 : decode cX8_ward 45 = .ok (.ireturn, 1) := by decide +kernel
theorem dX8_ward_46 : decode cX8_ward 46 = .ok (.aload_n 0, 1) := by decide +kernel
theorem dX8_ward_47 : decode cX8_ward 47 = .ok (.getfield 16, 3) := by decide +kernel
theorem dX8_ward_50 : decode cX8_ward 50 = .ok (.getfield 189, 3) := by decide +kernel
theorem dX8_ward_53 : decode cX8_ward 53 = .ok (.iload_n 1, 1) := by decide +kernel
theorem dX8_ward_54 : decode cX8_ward 54 = .ok (.iaload, 1) := by decide +kernel
theorem dX8_ward_55 : decode cX8_ward 55 = .ok (.ireturn, 1) := by decide +kernel
theorem dX8_ward_56 : decode cX8_ward 56 = .ok (.aload_n 0, 1) := by decide +kernel
theorem dX8_ward_57 : decode cX8_ward 57 = .ok (.getfield 16, 3) := by decide +kernel
theorem dX8_ward_60 : decode cX8_ward 60 = .ok (.iload_n 1, 1) := by decide +kernel
theorem dX8_ward_61 : decode cX8_ward 61 = .ok (.aload_n 0, 1) := by decide +kernel
theorem dX8_ward_62 : decode cX8_ward 62 = .ok (.getfield 16, 3) := by decide +kernel
theorem dX8_ward_65 : decode cX8_ward 65 = .ok (.invokevirtual 163, 3) := by decide +kernel
theorem dX8_ward_68 : decode cX8_ward 68 = .ok (.invokevirtual 192, 3) := by decide +kernel
theorem dX8_ward_71 : decode cX8_ward 71 = .ok (.ireturn, 1) := by decide +kernel
theorem dX8_ward_72 : decode cX8_ward 72 = .ok (.aload_n 0, 1) := by decide +kernel
theorem dX8_ward_73 : decode cX8_ward 73 = .ok (.getfield 66, 3) := by decide +kernel
theorem dX8_ward_76 : decode cX8_ward 76 = .ok (.aload_n 0, 1) := by decide +kernel
theorem dX8_ward_77 : decode cX8_ward 77 = .ok (.getfield 16, 3) := by decide +kernel
theorem dX8_ward_80 : decode cX8_ward 80 = .ok (.iload_n 1, 1) := by decide +kernel
theorem dX8_ward_81 : decode cX8_ward 81 = .ok (.aload_n 0, 1) := by decide +kernel
theorem dX8_ward_82 : decode cX8_ward 82 = .ok (.getfield 16, 3) := by decide +kernel
theorem dX8_ward_85 : decode cX8_ward 85 = .ok (.iload_n 1, 1) := by decide +kernel
theorem dX8_ward_86 : decode cX8_ward 86 = .ok (.aload_n 0, 1) := by decide +kernel
theorem dX8_ward_87 : decode cX8_ward 87 = .ok (.getfield 16, 3) := by decide +kernel
theorem dX8_ward_90 : decode cX8_ward 90 = .ok (.invokevirtual 163, 3) := by decide +kernel
theorem dX8_ward_93 : decode cX8_ward 93 = .ok (.invokevirtual 192, 3) := by decide +kernel
theorem dX8_ward_96 : decode cX8_ward 96 = .ok (.invokevirtual 196, 3) := by decide +kernel
theorem dX8_ward_99 : decode cX8_ward 99 = .ok (.ireturn, 1) := by decide +kernel
theorem dX8_ward_100 : decode cX8_ward 100 = .ok (.new 170, 3) := by decide +kernel
theorem dX8_ward_103 : decode cX8_ward 103 = .ok (.dup, 1) := by decide +kernel
theorem dX8_ward_104 : decode cX8_ward 104 = .ok (.ldc 172, 2) := by decide +kernel
theorem dX8_ward_106 : decode cX8_ward 106 = .ok (.invokespecial 174, 3) := by decide +kernel
theorem dX8_ward_109 : decode cX8_ward 109 = .ok (.athrow, 1) := by decide +kernel
theorem dX8_days_0 : decode cX8_days 0 = .ok (.iload_n 1, 1) := by decide +kernel
theorem dX8_days_1 : decode cX8_days 1 = .ok (.iconst 1, 1) := by decide +kernel
theorem dX8_days_2 : decode cX8_days 2 = .ok (.if_icmp .lt 24, 3) := by decide +kernel
theorem dX8_days_5 : decode cX8_days 5 = .ok (.iload_n 1, 1) := by decide +kernel
theorem dX8_days_6 : decode cX8_days 6 = .ok (.bipush 20, 2) := by decide +kernel
theorem dX8_days_8 : decode cX8_days 8 = .ok (.if_icmp .gt 18, 3) := by decide +kernel
theorem dX8_days_11 : decode cX8_days 11 = .ok (.aload_n 0, 1) := by decide +kernel
theorem dX8_days_12 : decode cX8_days 12 = .ok (.getfield 16, 3) := by decide +kernel
theorem dX8_days_15 : decode cX8_days 15 = .ok (.getfield 123, 3) := by decide +kernel
theorem dX8_days_18 : decode cX8_days 18 = .ok (.iload_n 1, 1) := by decide +kernel
theorem dX8_days_19 : decode cX8_days 19 = .ok (.iadd, 1) := by decide +kernel
theorem dX8_days_20 : decode cX8_days 20 = .ok (.sipush 9999, 3) := by decide +kernel
theorem dX8_days_23 : decode cX8_days 23 = .ok (.if_icmp .le 9, 3) := by decide +kernel
theorem dX8_days_26 : decode cX8_days 26 = .ok (.aload_n 0, 1) := by decide +kernel
theorem dX8_days_27 : decode cX8_days 27 = .ok (.iconst 1, 1) := by decide +kernel
theorem dX8_days_28 : decode cX8_days 28 = .ok (.invokevirtual 200, 3) := by decide +kernel
theorem dX8_days_31 : decode cX8_days 31 = .ok (.ireturn, 1) := by decide +kernel
theorem dX8_days_32 : decode cX8_days 32 = .ok (.aload_n 0, 1) := by decide +kernel
theorem dX8_days_33 : decode cX8_days 33 = .ok (.getfield 29, 3) := by decide +kernel
theorem dX8_days_36 : decode cX8_days 36 = .ok (.aload_n 0, 1) := by decide +kernel
theorem dX8_days_37 : decode cX8_days 37 = .ok (.getfield 16, 3) := by decide +kernel
theorem dX8_days_40 : decode cX8_days 40 = .ok (.invokevirtual 203, 3) := by decide +kernel
theorem dX8_days_43 : decode cX8_days 43 = .ok (.iconst 0, 1) := by decide +kernel
theorem dX8_days_44 : decode cX8_days 44 = .ok (.istore_n 2, 1) := by decide +kernel
theorem dX8_days_45 : decode cX8_days 45 = .ok (.iload_n 2, 1) := by decide +kernel
theorem dX8_days_46 : decode cX8_days 46 = .ok (.iload_n 1, 1) := by decide +kernel
theorem dX8_days_47 : decode cX8_days 47 = .ok (.if_icmp .ge 34, 3) := by decide +kernel
theorem dX8_days_50 : decode cX8_days 50 = .ok (.aload_n 0, 1) := by decide +kernel
theorem dX8_days_51 : decode cX8_days 51 = .ok (.getfield 16, 3) := by decide +kernel
theorem dX8_days_54 : decode cX8_days 54 = .ok (.aload_n 0, 1) := by decide +kernel
theorem dX8_days_55 : decode cX8_days 55 = .ok (.getfield 66, 3) := by decide +kernel
theorem dX8_days_58 : decode cX8_days 58 = .ok (.aload_n 0, 1) := by decide +kernel
theorem dX8_days_59 : decode cX8_days 59 = .ok (.getfield 66, 3) := by decide +kernel
theorem dX8_days_62 : decode cX8_days 62 = .ok (.aload_n 0, 1) := by decide +kernel
theorem dX8_days_63 : decode cX8_days 63 = .ok (.getfield 16, 3) := by decide +kernel
theorem dX8_days_66 : decode cX8_days 66 = .ok (.getfield 123, 3) := by decide +kernel
theorem dX8_days_69 : decode cX8_days 69 = .ok (.invokevirtual 206, 3) := by decide +kernel
theorem dX8_days_72 : decode cX8_days 72 = .ok (.invokevirtual 209, 3) := by decide +kernel
theorem dX8_days_75 : decode cX8_days 75 = .ok (.iinc 2 1, 3) := by decide +kernel
theorem dX8_days_78 : decode cX8_days 78 = .ok (.goto (-33), 3) := by decide +kernel
theorem dX8_days_81 : decode cX8_days 81 = .ok (.aload_n 0, 1) := by decide +kernel
theorem dX8_days_82 : decode cX8_days 82 = .ok (.getfield 16, 3) := by decide +kernel
theorem dX8_days_85 : decode cX8_days 85 = .ok (.getfield 123, 3) := by decide +kernel
theorem dX8_days_88 : decode cX8_days 88 = .ok (.ireturn, 1) := by decide +kernel
theorem dX8_give_0 : decode cX8_give 0 = .ok (.iload_n 1, 1) := by decide +kernel
theorem dX8_give_1 : decode cX8_give 1 = .ok (.iconst 1, 1) := by decide +kernel
theorem dX8_give_2 : decode cX8_give 2 = .ok (.if_icmp .lt 9, 3) := by decide +kernel
theorem dX8_give_5 : decode cX8_give 5 = .ok (.iload_n 1, 1) := by decide +kernel
theorem dX8_give_6 : decode cX8_give 6 = .ok (.bipush 99, 2) := by decide +kernel
theorem dX8_give_8 : decode cX8_give 8 = .ok (.if_icmp .le 9, 3) := by decide +kernel
theorem dX8_give_11 : decode cX8_give 11 = .ok (.aload_n 0, 1) := by decide +kernel
theorem dX8_give_12 : decode cX8_give 12 = .ok (.iconst 1, 1) := by decide +kernel
theorem dX8_give_13 : decode cX8_give 13 = .ok (.invokevirtual 200, 3) := by decide +kernel
theorem dX8_give_16 : decode cX8_give 16 = .ok (.ireturn, 1) := by decide +kernel
theorem dX8_give_17 : decode cX8_give 17 = .ok (.aload_n 0, 1) := by decide +kernel
theorem dX8_give_18 : decode cX8_give 18 = .ok (.getfield 29, 3) := by decide +kernel
theorem dX8_give_21 : decode cX8_give 21 = .ok (.aload_n 0, 1) := by decide +kernel
theorem dX8_give_22 : decode cX8_give 22 = .ok (.getfield 16, 3) := by decide +kernel
theorem dX8_give_25 : decode cX8_give 25 = .ok (.invokevirtual 203, 3) := by decide +kernel
theorem dX8_give_28 : decode cX8_give 28 = .ok (.aload_n 0, 1) := by decide +kernel
theorem dX8_give_29 : decode cX8_give 29 = .ok (.getfield 16, 3) := by decide +kernel
theorem dX8_give_32 : decode cX8_give 32 = .ok (.iload_n 1, 1) := by decide +kernel
theorem dX8_give_33 : decode cX8_give 33 = .ok (.invokevirtual 213, 3) := by decide +kernel
theorem dX8_give_36 : decode cX8_give 36 = .ok (.aload_n 0, 1) := by decide +kernel
theorem dX8_give_37 : decode cX8_give 37 = .ok (.getfield 16, 3) := by decide +kernel
theorem dX8_give_40 : decode cX8_give 40 = .ok (.getfield 126, 3) := by decide +kernel
theorem dX8_give_43 : decode cX8_give 43 = .ok (.ireturn, 1) := by decide +kernel
theorem dX8_preach_0 : decode cX8_preach 0 = .ok (.aload_n 0, 1) := by decide +kernel
theorem dX8_preach_1 : decode cX8_preach 1 = .ok (.iload_n 1, 1) := by decide +kernel
theorem dX8_preach_2 : decode cX8_preach 2 = .ok (.invokevirtual 183, 3) := by decide +kernel
theorem dX8_preach_5 : decode cX8_preach 5 = .ok (.aload_n 0, 1) := by decide +kernel
theorem dX8_preach_6 : decode cX8_preach 6 = .ok (.getfield 16, 3) := by decide +kernel
theorem dX8_preach_9 : decode cX8_preach 9 = .ok (.getfield 186, 3) := by decide +kernel
theorem dX8_preach_12 : decode cX8_preach 12 = .ok (.iload_n 1, 1) := by decide +kernel
theorem dX8_preach_13 : decode cX8_preach 13 = .ok (.iaload, 1) := by decide +kernel
theorem dX8_preach_14 : decode cX8_preach 14 = .ok (.bipush 99, 2) := by decide +kernel
theorem dX8_preach_16 : decode cX8_preach 16 = .ok (.if_icmp .lt 9, 3) := by decide +kernel
theorem dX8_preach_19 : decode cX8_preach 19 = .ok (.aload_n 0, 1) := by decide +kernel
theorem dX8_preach_20 : decode cX8_preach 20 = .ok (.iconst 1, 1) := by decide +kernel
theorem dX8_preach_21 : decode cX8_preach 21 = .ok (.invokevirtual 200, 3) := by decide +kernel
theorem dX8_preach_24 : decode cX8_preach 24 = .ok (.ireturn, 1) := by decide +kernel
theorem dX8_preach_25 : decode cX8_preach 25 = .ok (.aload_n 0, 1) := by decide +kernel
theorem dX8_preach_26 : decode cX8_preach 26 = .ok (.getfield 29, 3) := by decide +kernel
theorem dX8_preach_29 : decode cX8_preach 29 = .ok (.aload_n 0, 1) := by decide +kernel
theorem dX8_preach_30 : decode cX8_preach 30 = .ok (.getfield 16, 3) := by decide +kernel
theorem dX8_preach_33 : decode cX8_preach 33 = .ok (.invokevirtual 203, 3) := by decide +kernel
theorem dX8_preach_36 : decode cX8_preach 36 = .ok (.aload_n 0, 1) := by decide +kernel
theorem dX8_preach_37 : decode cX8_preach 37 = .ok (.getfield 16, 3) := by decide +kernel
theorem dX8_preach_40 : decode cX8_preach 40 = .ok (.iload_n 1, 1) := by decide +kernel
theorem dX8_preach_41 : decode cX8_preach 41 = .ok (.bipush 10, 2) := by decide +kernel
theorem dX8_preach_43 : decode cX8_preach 43 = .ok (.invokevirtual 216, 3) := by decide +kernel
theorem dX8_preach_46 : decode cX8_preach 46 = .ok (.aload_n 0, 1) := by decide +kernel
theorem dX8_preach_47 : decode cX8_preach 47 = .ok (.getfield 16, 3) := by decide +kernel
theorem dX8_preach_50 : decode cX8_preach 50 = .ok (.getfield 186, 3) := by decide +kernel
theorem dX8_preach_53 : decode cX8_preach 53 = .ok (.iload_n 1, 1) := by decide +kernel
theorem dX8_preach_54 : decode cX8_preach 54 = .ok (.iaload, 1) := by decide +kernel
theorem dX8_preach_55 : decode cX8_preach 55 = .ok (.ireturn, 1) := by decide +kernel
theorem dX8_mortar_0 : decode cX8_mortar 0 = .ok (.iload_n 1, 1) := by decide +kernel
theorem dX8_mortar_1 : decode cX8_mortar 1 = .ok (.ifCond .lt 14, 3) := by decide +kernel
theorem dX8_mortar_4 : decode cX8_mortar 4 = .ok (.iload_n 1, 1) := by decide +kernel
theorem dX8_mortar_5 : decode cX8_mortar 5 = .ok (.aload_n 0, 1) := by decide +kernel
theorem dX8_mortar_6 : decode cX8_mortar 6 = .ok (.getfield 16, 3) := by decide +kernel
theorem dX8_mortar_9 : decode cX8_mortar 9 = .ok (.getfield 114, 3) := by decide +kernel
theorem dX8_mortar_12 : decode cX8_mortar 12 = .ok (.if_icmp .lt 13, 3) := by decide +kernel
theorem dX8_mortar_15 : decode cX8_mortar 15 = .ok (.new 170, 3) := by decide +kernel
theorem dX8_mortar_18 : decode cX8_mortar 18 = .ok (.dup, 1) := by decide +kernel
theorem dX8_mortar_19 : decode cX8_mortar 19 = .ok (.ldc 175, 2) := by decide +kernel
theorem dX8_mortar_21 : decode cX8_mortar 21 = .ok (.invokespecial 174, 3) := by decide +kernel
theorem dX8_mortar_24 : decode cX8_mortar 24 = .ok (.athrow, 1) := by decide +kernel
theorem dX8_mortar_25 : decode cX8_mortar 25 = .ok (.aload_n 0, 1) := by decide +kernel
theorem dX8_mortar_26 : decode cX8_mortar 26 = .ok (.getfield 16, 3) := by decide +kernel
theorem dX8_mortar_29 : decode cX8_mortar 29 = .ok (.getfield 180, 3) := by decide +kernel
theorem dX8_mortar_32 : decode cX8_mortar 32 = .ok (.iload_n 1, 1) := by decide +kernel
theorem dX8_mortar_33 : decode cX8_mortar 33 = .ok (.iaload, 1) := by decide +kernel
theorem dX8_mortar_34 : decode cX8_mortar 34 = .ok (.bipush 9, 2) := by decide +kernel
theorem dX8_mortar_36 : decode cX8_mortar 36 = .ok (.if_icmp .lt 9, 3) := by decide +kernel
theorem dX8_mortar_39 : decode cX8_mortar 39 = .ok (.aload_n 0, 1) := by decide +kernel
theorem dX8_mortar_40 : decode cX8_mortar 40 = .ok (.iconst 1, 1) := by decide +kernel
theorem dX8_mortar_41 : decode cX8_mortar 41 = .ok (.invokevirtual 200, 3) := by decide +kernel
theorem dX8_mortar_44 : decode cX8_mortar 44 = .ok (.ireturn, 1) := by decide +kernel
theorem dX8_mortar_45 : decode cX8_mortar 45 = .ok (.aload_n 0, 1) := by decide +kernel
theorem dX8_mortar_46 : decode cX8_mortar 46 = .ok (.getfield 29, 3) := by decide +kernel
theorem dX8_mortar_49 : decode cX8_mortar 49 = .ok (.aload_n 0, 1) := by decide +kernel
theorem dX8_mortar_50 : decode cX8_mortar 50 = .ok (.getfield 16, 3) := by decide +kernel
theorem dX8_mortar_53 : decode cX8_mortar 53 = .ok (.invokevirtual 203, 3) := by decide +kernel
theorem dX8_mortar_56 : decode cX8_mortar 56 = .ok (.aload_n 0, 1) := by decide +kernel
theorem dX8_mortar_57 : decode cX8_mortar 57 = .ok (.getfield 16, 3) := by decide +kernel
theorem dX8_mortar_60 : decode cX8_mortar 60 = .ok (.getfield 180, 3) := by decide +kernel
theorem dX8_mortar_63 : decode cX8_mortar 63 = .ok (.iload_n 1, 1) := by decide +kernel
theorem dX8_mortar_64 : decode cX8_mortar 64 = .ok (.dup2, 1) := by decide +kernel
theorem dX8_mortar_65 : decode cX8_mortar 65 = .ok (.iaload, 1) := by decide +kernel
theorem dX8_mortar_66 : decode cX8_mortar 66 = .ok (.iconst 1, 1) := by decide +kernel
theorem dX8_mortar_67 : decode cX8_mortar 67 = .ok (.iadd, 1) := by decide +kernel
theorem dX8_mortar_68 : decode cX8_mortar 68 = .ok (.iastore, 1) := by decide +kernel
theorem dX8_mortar_69 : decode cX8_mortar 69 = .ok (.aload_n 0, 1) := by decide +kernel
theorem dX8_mortar_70 : decode cX8_mortar 70 = .ok (.getfield 16, 3) := by decide +kernel
theorem dX8_mortar_73 : decode cX8_mortar 73 = .ok (.getfield 180, 3) := by decide +kernel
theorem dX8_mortar_76 : decode cX8_mortar 76 = .ok (.iload_n 1, 1) := by decide +kernel
theorem dX8_mortar_77 : decode cX8_mortar 77 = .ok (.iaload, 1) := by decide +kernel
theorem dX8_mortar_78 : decode cX8_mortar 78 = .ok (.ireturn, 1) := by decide +kernel
theorem dX8_prop_0 : decode cX8_prop 0 = .ok (.aload_n 0, 1) := by decide +kernel
theorem dX8_prop_1 : decode cX8_prop 1 = .ok (.getfield 16, 3) := by decide +kernel
theorem dX8_prop_4 : decode cX8_prop 4 = .ok (.getfield 129, 3) := by decide +kernel
theorem dX8_prop_7 : decode cX8_prop 7 = .ok (.ifCond .ne 9, 3) := by decide +kernel
theorem dX8_prop_10 : decode cX8_prop 10 = .ok (.aload_n 0, 1) := by decide +kernel
theorem dX8_prop_11 : decode cX8_prop 11 = .ok (.iconst 1, 1) := by decide +kernel
theorem dX8_prop_12 : decode cX8_prop 12 = .ok (.invokevirtual 200, 3) := by decide +kernel
theorem dX8_prop_15 : decode cX8_prop 15 = .ok (.ireturn, 1) := by decide +kernel
theorem dX8_prop_16 : decode cX8_prop 16 = .ok (.aload_n 0, 1) := by decide +kernel
theorem dX8_prop_17 : decode cX8_prop 17 = .ok (.getfield 29, 3) := by decide +kernel
theorem dX8_prop_20 : decode cX8_prop 20 = .ok (.aload_n 0, 1) := by decide +kernel
theorem dX8_prop_21 : decode cX8_prop 21 = .ok (.getfield 16, 3) := by decide +kernel
theorem dX8_prop_24 : decode cX8_prop 24 = .ok (.invokevirtual 203, 3) := by decide +kernel
theorem dX8_prop_27 : decode cX8_prop 27 = .ok (.aload_n 0, 1) := by decide +kernel
theorem dX8_prop_28 : decode cX8_prop 28 = .ok (.getfield 16, 3) := by decide +kernel
theorem dX8_prop_31 : decode cX8_prop 31 = .ok (.getfield 129, 3) := by decide +kernel
theorem dX8_prop_34 : decode cX8_prop 34 = .ok (.istore_n 1, 1) := by decide +kernel
theorem dX8_prop_35 : decode cX8_prop 35 = .ok (.aload_n 0, 1) := by decide +kernel
theorem dX8_prop_36 : decode cX8_prop 36 = .ok (.getfield 16, 3) := by decide +kernel
theorem dX8_prop_39 : decode cX8_prop 39 = .ok (.iconst 0, 1) := by decide +kernel
theorem dX8_prop_40 : decode cX8_prop 40 = .ok (.putfield 129, 3) := by decide +kernel
theorem dX8_prop_43 : decode cX8_prop 43 = .ok (.iload_n 1, 1) := by decide +kernel
theorem dX8_prop_44 : decode cX8_prop 44 = .ok (.ireturn, 1) := by decide +kernel
theorem dX8_street_0 : decode cX8_street 0 = .ok (.aload_n 0, 1) := by decide +kernel
theorem dX8_street_1 : decode cX8_street 1 = .ok (.iload_n 1, 1) := by decide +kernel
theorem dX8_street_2 : decode cX8_street 2 = .ok (.invokevirtual 183, 3) := by decide +kernel
theorem dX8_street_5 : decode cX8_street 5 = .ok (.aload_n 0, 1) := by decide +kernel
theorem dX8_street_6 : decode cX8_street 6 = .ok (.iload_n 2, 1) := by decide +kernel
theorem dX8_street_7 : decode cX8_street 7 = .ok (.invokevirtual 183, 3) := by decide +kernel
theorem dX8_street_10 : decode cX8_street 10 = .ok (.iload_n 1, 1) := by decide +kernel
theorem dX8_street_11 : decode cX8_street 11 = .ok (.iload_n 2, 1) := by decide +kernel
theorem dX8_street_12 : decode cX8_street 12 = .ok (.if_icmp .eq 16, 3) := by decide +kernel
theorem dX8_street_15 : decode cX8_street 15 = .ok (.aload_n 0, 1) := by decide +kernel
theorem dX8_street_16 : decode cX8_street 16 = .ok (.getfield 16, 3) := by decide +kernel
theorem dX8_street_19 : decode cX8_street 19 = .ok (.iload_n 1, 1) := by decide +kernel
theorem dX8_street_20 : decode cX8_street 20 = .ok (.iload_n 2, 1) := by decide +kernel
theorem dX8_street_21 : decode cX8_street 21 = .ok (.invokevirtual 220, 3) := by decide +kernel
theorem dX8_street_24 : decode cX8_street 24 = .ok (.iload_n 3, 1) := by decide +kernel
theorem dX8_street_25 : decode cX8_street 25 = .ok (.if_icmp .ne 11, 3) := by decide +kernel
theorem dX8_street_28 : decode cX8_street 28 = .ok (.aload_n 0, 1) := by decide +kernel
theorem dX8_street_29 : decode cX8_street 29 = .ok (.iconst 1, 1) := by decide +kernel
theorem dX8_street_30 : decode cX8_street 30 = .ok (.invokevirtual 200, 3) := by decide +kernel
theorem dX8_street_33 : decode cX8_street 33 = .ok (.pop, 1) := by decide +kernel
theorem dX8_street_34 : decode cX8_street 34 = .ok (.iconst 0, 1) := by decide +kernel
theorem dX8_street_35 : decode cX8_street 35 = .ok (.ireturn, 1) := by decide +kernel
theorem dX8_street_36 : decode cX8_street 36 = .ok (.aload_n 0, 1) := by decide +kernel
theorem dX8_street_37 : decode cX8_street 37 = .ok (.getfield 29, 3) := by decide +kernel
theorem dX8_street_40 : decode cX8_street 40 = .ok (.aload_n 0, 1) := by decide +kernel
theorem dX8_street_41 : decode cX8_street 41 = .ok (.getfield 16, 3) := by decide +kernel
theorem dX8_street_44 : decode cX8_street 44 = .ok (.invokevirtual 203, 3) := by decide +kernel
theorem dX8_street_47 : decode cX8_street 47 = .ok (.aload_n 0, 1) := by decide +kernel
theorem dX8_street_48 : decode cX8_street 48 = .ok (.getfield 16, 3) := by decide +kernel
theorem dX8_street_51 : decode cX8_street 51 = .ok (.iload_n 1, 1) := by decide +kernel
theorem dX8_street_52 : decode cX8_street 52 = .ok (.iload_n 2, 1) := by decide +kernel
theorem dX8_street_53 : decode cX8_street 53 = .ok (.invokevirtual 224, 3) := by decide +kernel
theorem dX8_street_56 : decode cX8_street 56 = .ok (.iconst 1, 1) := by decide +kernel
theorem dX8_street_57 : decode cX8_street 57 = .ok (.ireturn, 1) := by decide +kernel
theorem dX8_undo_0 : decode cX8_undo 0 = .ok (.aload_n 0, 1) := by decide +kernel
theorem dX8_undo_1 : decode cX8_undo 1 = .ok (.getfield 29, 3) := by decide +kernel
theorem dX8_undo_4 : decode cX8_undo 4 = .ok (.aload_n 0, 1) := by decide +kernel
theorem dX8_undo_5 : decode cX8_undo 5 = .ok (.getfield 16, 3) := by decide +kernel
theorem dX8_undo_8 : decode cX8_undo 8 = .ok (.invokevirtual 227, 3) := by decide +kernel
theorem dX8_undo_11 : decode cX8_undo 11 = .ok (.ifCond .eq 13, 3) := by decide +kernel
theorem dX8_undo_14 : decode cX8_undo 14 = .ok (.aload_n 0, 1) := by decide +kernel
theorem dX8_undo_15 : decode cX8_undo 15 = .ok (.getfield 29, 3) := by decide +kernel
theorem dX8_undo_18 : decode cX8_undo 18 = .ok (.getfield 166, 3) := by decide +kernel
theorem dX8_undo_21 : decode cX8_undo 21 = .ok (.goto 4, 3) := by decide +kernel
theorem dX8_undo_24 : decode cX8_undo 24 = .ok (.iconst (-1), 1) := by decide +kernel
theorem dX8_undo_25 : decode cX8_undo 25 = .ok (.ireturn, 1) := by decide +kernel
theorem dX8_then_0 : decode cX8_then 0 = .ok (.iload_n 2, 1) := by decide +kernel
theorem dX8_then_1 : decode cX8_then 1 = .ok (.bipush 6, 2) := by decide +kernel
theorem dX8_then_3 : decode cX8_then 3 = .ok (.invokestatic 231, 3) := by decide +kernel
theorem dX8_then_6 : decode cX8_then 6 = .ok (.iload_n 1, 1) := by decide +kernel
theorem dX8_then_7 : decode cX8_then 7 = .ok (.bipush 60, 2) := by decide +kernel
theorem dX8_then_9 : decode cX8_then 9 = .ok (.invokestatic 234, 3) := by decide +kernel
theorem dX8_then_12 : decode cX8_then 12 = .ok (.aload_n 0, 1) := by decide +kernel
theorem dX8_then_13 : decode cX8_then 13 = .ok (.invokevirtual 237, 3) := by decide +kernel
theorem dX8_then_16 : decode cX8_then 16 = .ok (.aload_n 0, 1) := by decide +kernel
theorem dX8_then_17 : decode cX8_then 17 = .ok (.iload_n 1, 1) := by decide +kernel
theorem dX8_then_18 : decode cX8_then 18 = .ok (.invokevirtual 240, 3) := by decide +kernel
theorem dX8_then_21 : decode cX8_then 21 = .ok (.istore_n 3, 1) := by decide +kernel
theorem dX8_then_22 : decode cX8_then 22 = .ok (.iload_n 2, 1) := by decide +kernel
theorem dX8_then_23 : decode cX8_then 23 = .ok (.tableswitch 87 0 5 #[37, 45, 53, 61, 69, 85], 37) := by decide +kernel
theorem dX8_then_60 : decode cX8_then 60 = .ok (.aload_n 0, 1) := by decide +kernel
theorem dX8_then_61 : decode cX8_then 61 = .ok (.getfield 20, 3) := by decide +kernel
theorem dX8_then_64 : decode cX8_then 64 = .ok (.getfield 114, 3) := by decide +kernel
theorem dX8_then_67 : decode cX8_then 67 = .ok (.ireturn, 1) := by decide +kernel
theorem dX8_then_68 : decode cX8_then 68 = .ok (.aload_n 0, 1) := by decide +kernel
theorem dX8_then_69 : decode cX8_then 69 = .ok (.getfield 20, 3) := by decide +kernel
theorem dX8_then_72 : decode cX8_then 72 = .ok (.invokevirtual 132, 3) := by decide +kernel
theorem dX8_then_75 : decode cX8_then 75 = .ok (.ireturn, 1) := by decide +kernel
theorem dX8_then_76 : decode cX8_then 76 = .ok (.aload_n 0, 1) := by decide +kernel
theorem dX8_then_77 : decode cX8_then 77 = .ok (.getfield 20, 3) := by decide +kernel
theorem dX8_then_80 : decode cX8_then 80 = .ok (.getfield 129, 3) := by decide +kernel
theorem dX8_then_83 : decode cX8_then 83 = .ok (.ireturn, 1) := by decide +kernel
theorem dX8_then_84 : decode cX8_then 84 = .ok (.aload_n 0, 1) := by decide +kernel
theorem dX8_then_85 : decode cX8_then 85 = .ok (.getfield 20, 3) := by decide +kernel
theorem dX8_then_88 : decode cX8_then 88 = .ok (.getfield 126, 3) := by decide +kernel
theorem dX8_then_91 : decode cX8_then 91 = .ok (.ireturn, 1) := by decide +kernel
theorem dX8_then_92 : decode cX8_then 92 = .ok (.aload_n 0, 1) := by decide +kernel
theorem dX8_then_93 : decode cX8_then 93 = .ok (.getfield 20, 3) := by decide +kernel
theorem dX8_then_96 : decode cX8_then 96 = .ok (.getfield 117, 3) := by decide +kernel
theorem dX8_then_99 : decode cX8_then 99 = .ok (.aload_n 0, 1) := by decide +kernel
theorem dX8_then_100 : decode cX8_then 100 = .ok (.getfield 20, 3) := by decide +kernel
theorem dX8_then_103 : decode cX8_then 103 = .ok (.getfield 114, 3) := by decide +kernel
theorem dX8_then_106 : decode cX8_then 106 = .ok (.isub, 1) := by decide +kernel
theorem dX8_then_107 : decode cX8_then 107 = .ok (.ireturn, 1) := by decide +kernel
theorem dX8_then_108 : decode cX8_then 108 = .ok (.iload_n 3, 1) := by decide +kernel
theorem dX8_then_109 : decode cX8_then 109 = .ok (.ireturn, 1) := by decide +kernel
theorem dX8_then_110 : decode cX8_then 110 = .ok (.aload_n 0, 1) := by decide +kernel
theorem dX8_then_111 : decode cX8_then 111 = .ok (.getfield 20, 3) := by decide +kernel
theorem dX8_then_114 : decode cX8_then 114 = .ok (.getfield 114, 3) := by decide +kernel
theorem dX8_then_117 : decode cX8_then 117 = .ok (.ifCond .le 23, 3) := by decide +kernel
theorem dX8_then_120 : decode cX8_then 120 = .ok (.aload_n 0, 1) := by decide +kernel
theorem dX8_then_121 : decode cX8_then 121 = .ok (.getfield 20, 3) := by decide +kernel
theorem dX8_then_124 : decode cX8_then 124 = .ok (.getfield 177, 3) := by decide +kernel
theorem dX8_then_127 : decode cX8_then 127 = .ok (.aload_n 0, 1) := by decide +kernel
theorem dX8_then_128 : decode cX8_then 128 = .ok (.getfield 20, 3) := by decide +kernel
theorem dX8_then_131 : decode cX8_then 131 = .ok (.getfield 114, 3) := by decide +kernel
theorem dX8_then_134 : decode cX8_then 134 = .ok (.iconst 1, 1) := by decide +kernel
theorem dX8_then_135 : decode cX8_then 135 = .ok (.isub, 1) := by decide +kernel
theorem dX8_then_136 : decode cX8_then 136 = .ok (.iaload, 1) := by decide +kernel
theorem dX8_then_137 : decode cX8_then 137 = .ok (.goto 4, 3) := by decide +kernel
theorem dX8_then_140 : decode cX8_then 140 = .ok (.iconst (-1), 1) := by decide +kernel
theorem dX8_then_141 : decode cX8_then 141 = .ok (.ireturn, 1) := by decide +kernel
theorem dX8_wardThen_0 : decode cX8_wardThen 0 = .ok (.aload_n 0, 1) := by decide +kernel
theorem dX8_wardThen_1 : decode cX8_wardThen 1 = .ok (.iload_n 1, 1) := by decide +kernel
theorem dX8_wardThen_2 : decode cX8_wardThen 2 = .ok (.invokevirtual 183, 3) := by decide +kernel
theorem dX8_wardThen_5 : decode cX8_wardThen 5 = .ok (.iload_n 3, 1) := by decide +kernel
theorem dX8_wardThen_6 : decode cX8_wardThen 6 = .ok (.iconst 1, 1) := by decide +kernel
theorem dX8_wardThen_7 : decode cX8_wardThen 7 = .ok (.invokestatic 231, 3) := by decide +kernel
theorem dX8_wardThen_10 : decode cX8_wardThen 10 = .ok (.iload_n 2, 1) := by decide +kernel
theorem dX8_wardThen_11 : decode cX8_wardThen 11 = .ok (.bipush 60, 2) := by decide +kernel
theorem dX8_wardThen_13 : decode cX8_wardThen 13 = .ok (.invokestatic 234, 3) := by decide +kernel
theorem dX8_wardThen_16 : decode cX8_wardThen 16 = .ok (.aload_n 0, 1) := by decide +kernel
theorem dX8_wardThen_17 : decode cX8_wardThen 17 = .ok (.invokevirtual 237, 3) := by decide +kernel
theorem dX8_wardThen_20 : decode cX8_wardThen 20 = .ok (.iconst 0, 1) := by decide +kernel
theorem dX8_wardThen_21 : decode cX8_wardThen 21 = .ok (.istore 4, 2) := by decide +kernel
theorem dX8_wardThen_23 : decode cX8_wardThen 23 = .ok (.iconst 0, 1) := by decide +kernel
theorem dX8_wardThen_24 : decode cX8_wardThen 24 = .ok (.istore 5, 2) := by decide +kernel
theorem dX8_wardThen_26 : decode cX8_wardThen 26 = .ok (.iload 5, 2) := by decide +kernel
theorem dX8_wardThen_28 : decode cX8_wardThen 28 = .ok (.iload_n 2, 1) := by decide +kernel
theorem dX8_wardThen_29 : decode cX8_wardThen 29 = .ok (.if_icmp .ge 27, 3) := by decide +kernel
theorem dX8_wardThen_32 : decode cX8_wardThen 32 = .ok (.aload_n 0, 1) := by decide +kernel
theorem dX8_wardThen_33 : decode cX8_wardThen 33 = .ok (.invokevirtual 243, 3) := by decide +kernel
theorem dX8_wardThen_36 : decode cX8_wardThen 36 = .ok (.iload 4, 2) := by decide +kernel
theorem dX8_wardThen_38 : decode cX8_wardThen 38 = .ok (.aload_n 0, 1) := by decide +kernel
theorem dX8_wardThen_39 : decode cX8_wardThen 39 = .ok (.getfield 20, 3) := by decide +kernel
theorem dX8_wardThen_42 : decode cX8_wardThen 42 = .ok (.getfield 246, 3) := by decide +kernel
theorem dX8_wardThen_45 : decode cX8_wardThen 45 = .ok (.iload_n 1, 1) := by decide +kernel
theorem dX8_wardThen_46 : decode cX8_wardThen 46 = .ok (.iaload, 1) := by decide +kernel
theorem dX8_wardThen_47 : decode cX8_wardThen 47 = .ok (.iadd, 1) := by decide +kernel
theorem dX8_wardThen_48 : decode cX8_wardThen 48 = .ok (.istore 4, 2) := by decide +kernel
theorem dX8_wardThen_50 : decode cX8_wardThen 50 = .ok (.iinc 5 1, 3) := by decide +kernel
theorem dX8_wardThen_53 : decode cX8_wardThen 53 = .ok (.goto (-27), 3) := by decide +kernel
theorem dX8_wardThen_56 : decode cX8_wardThen 56 = .ok (.iload_n 3, 1) := by decide +kernel
theorem dX8_wardThen_57 : decode cX8_wardThen 57 = .ok (.ifCond .ne 15, 3) := by decide +kernel
theorem dX8_wardThen_60 : decode cX8_wardThen 60 = .ok (.aload_n 0, 1) := by decide +kernel
theorem dX8_wardThen_61 : decode cX8_wardThen 61 = .ok (.getfield 20, 3) := by decide +kernel
theorem dX8_wardThen_64 : decode cX8_wardThen 64 = .ok (.getfield 186, 3) := by decide +kernel
theorem dX8_wardThen_67 : decode cX8_wardThen 67 = .ok (.iload_n 1, 1) := by decide +kernel
theorem dX8_wardThen_68 : decode cX8_wardThen 68 = .ok (.iaload, 1) := by decide +kernel
theorem dX8_wardThen_69 : decode cX8_wardThen 69 = .ok (.goto 5, 3) := by decide +kernel
theorem dX8_wardThen_72 : decode cX8_wardThen 72 = .ok (.iload 4, 2) := by decide +kernel
theorem dX8_wardThen_74 : decode cX8_wardThen 74 = .ok (.ireturn, 1) := by decide +kernel
theorem dX8_reaches_0 : decode cX8_reaches 0 = .ok (.iload_n 1, 1) := by decide +kernel
theorem dX8_reaches_1 : decode cX8_reaches 1 = .ok (.bipush 16, 2) := by decide +kernel
theorem dX8_reaches_3 : decode cX8_reaches 3 = .ok (.invokestatic 234, 3) := by decide +kernel
theorem dX8_reaches_6 : decode cX8_reaches 6 = .ok (.aload_n 0, 1) := by decide +kernel
theorem dX8_reaches_7 : decode cX8_reaches 7 = .ok (.invokevirtual 237, 3) := by decide +kernel
theorem dX8_reaches_10 : decode cX8_reaches 10 = .ok (.iconst 0, 1) := by decide +kernel
theorem dX8_reaches_11 : decode cX8_reaches 11 = .ok (.istore_n 2, 1) := by decide +kernel
theorem dX8_reaches_12 : decode cX8_reaches 12 = .ok (.iload_n 2, 1) := by decide +kernel
theorem dX8_reaches_13 : decode cX8_reaches 13 = .ok (.bipush 60, 2) := by decide +kernel
theorem dX8_reaches_15 : decode cX8_reaches 15 = .ok (.if_icmp .gt 26, 3) := by decide +kernel
theorem dX8_reaches_18 : decode cX8_reaches 18 = .ok (.aload_n 0, 1) := by decide +kernel
theorem dX8_reaches_19 : decode cX8_reaches 19 = .ok (.getfield 20, 3) := by decide +kernel
theorem dX8_reaches_22 : decode cX8_reaches 22 = .ok (.getfield 114, 3) := by decide +kernel
theorem dX8_reaches_25 : decode cX8_reaches 25 = .ok (.iload_n 1, 1) := by decide +kernel
theorem dX8_reaches_26 : decode cX8_reaches 26 = .ok (.if_icmp .lt 5, 3) := by decide +kernel
theorem dX8_reaches_29 : decode cX8_reaches 29 = .ok (.iload_n 2, 1) := by decide +kernel
theorem dX8_reaches_30 : decode cX8_reaches 30 = .ok (.ireturn, 1) := by decide +kernel
theorem dX8_reaches_31 : decode cX8_reaches 31 = .ok (.aload_n 0, 1) := by decide +kernel
theorem dX8_reaches_32 : decode cX8_reaches 32 = .ok (.invokevirtual 243, 3) := by decide +kernel
theorem dX8_reaches_35 : decode cX8_reaches 35 = .ok (.iinc 2 1, 3) := by decide +kernel
theorem dX8_reaches_38 : decode cX8_reaches 38 = .ok (.goto (-26), 3) := by decide +kernel
theorem dX8_reaches_41 : decode cX8_reaches 41 = .ok (.iconst (-1), 1) := by decide +kernel
theorem dX8_reaches_42 : decode cX8_reaches 42 = .ok (.ireturn, 1) := by decide +kernel
theorem dX8_falls_0 : decode cX8_falls 0 = .ok (.aload_n 0, 1) := by decide +kernel
theorem dX8_falls_1 : decode cX8_falls 1 = .ok (.invokevirtual 237, 3) := by decide +kernel
theorem dX8_falls_4 : decode cX8_falls 4 = .ok (.iconst 1, 1) := by decide +kernel
theorem dX8_falls_5 : decode cX8_falls 5 = .ok (.istore_n 1, 1) := by decide +kernel
theorem dX8_falls_6 : decode cX8_falls 6 = .ok (.iload_n 1, 1) := by decide +kernel
theorem dX8_falls_7 : decode cX8_falls 7 = .ok (.bipush 60, 2) := by decide +kernel
theorem dX8_falls_9 : decode cX8_falls 9 = .ok (.if_icmp .gt 25, 3) := by decide +kernel
theorem dX8_falls_12 : decode cX8_falls 12 = .ok (.aload_n 0, 1) := by decide +kernel
theorem dX8_falls_13 : decode cX8_falls 13 = .ok (.invokevirtual 243, 3) := by decide +kernel
theorem dX8_falls_16 : decode cX8_falls 16 = .ok (.aload_n 0, 1) := by decide +kernel
theorem dX8_falls_17 : decode cX8_falls 17 = .ok (.getfield 20, 3) := by decide +kernel
theorem dX8_falls_20 : decode cX8_falls 20 = .ok (.getfield 148, 3) := by decide +kernel
theorem dX8_falls_23 : decode cX8_falls 23 = .ok (.ifCond .le 5, 3) := by decide +kernel
theorem dX8_falls_26 : decode cX8_falls 26 = .ok (.iload_n 1, 1) := by decide +kernel
theorem dX8_falls_27 : decode cX8_falls 27 = .ok (.ireturn, 1) := by decide +kernel
theorem dX8_falls_28 : decode cX8_falls 28 = .ok (.iinc 1 1, 3) := by decide +kernel
theorem dX8_falls_31 : decode cX8_falls 31 = .ok (.goto (-25), 3) := by decide +kernel
theorem dX8_falls_34 : decode cX8_falls 34 = .ok (.iconst (-1), 1) := by decide +kernel
theorem dX8_falls_35 : decode cX8_falls 35 = .ok (.ireturn, 1) := by decide +kernel
theorem dX8_later_0 : decode cX8_later 0 = .ok (.iload_n 2, 1) := by decide +kernel
theorem dX8_later_1 : decode cX8_later 1 = .ok (.iconst 1, 1) := by decide +kernel
theorem dX8_later_2 : decode cX8_later 2 = .ok (.invokestatic 231, 3) := by decide +kernel
theorem dX8_later_5 : decode cX8_later 5 = .ok (.iload_n 1, 1) := by decide +kernel
theorem dX8_later_6 : decode cX8_later 6 = .ok (.bipush 60, 2) := by decide +kernel
theorem dX8_later_8 : decode cX8_later 8 = .ok (.invokestatic 234, 3) := by decide +kernel
theorem dX8_later_11 : decode cX8_later 11 = .ok (.aload_n 0, 1) := by decide +kernel
theorem dX8_later_12 : decode cX8_later 12 = .ok (.invokevirtual 237, 3) := by decide +kernel
theorem dX8_later_15 : decode cX8_later 15 = .ok (.aload_n 0, 1) := by decide +kernel
theorem dX8_later_16 : decode cX8_later 16 = .ok (.iload_n 1, 1) := by decide +kernel
theorem dX8_later_17 : decode cX8_later 17 = .ok (.invokevirtual 240, 3) := by decide +kernel
theorem dX8_later_20 : decode cX8_later 20 = .ok (.pop, 1) := by decide +kernel
theorem dX8_later_21 : decode cX8_later 21 = .ok (.iload_n 2, 1) := by decide +kernel
theorem dX8_later_22 : decode cX8_later 22 = .ok (.ifCond .ne 13, 3) := by decide +kernel
theorem dX8_later_25 : decode cX8_later 25 = .ok (.aload_n 0, 1) := by decide +kernel
theorem dX8_later_26 : decode cX8_later 26 = .ok (.getfield 20, 3) := by decide +kernel
theorem dX8_later_29 : decode cX8_later 29 = .ok (.invokevirtual 163, 3) := by decide +kernel
theorem dX8_later_32 : decode cX8_later 32 = .ok (.goto 10, 3) := by decide +kernel
theorem dX8_later_35 : decode cX8_later 35 = .ok (.aload_n 0, 1) := by decide +kernel
theorem dX8_later_36 : decode cX8_later 36 = .ok (.getfield 20, 3) := by decide +kernel
theorem dX8_later_39 : decode cX8_later 39 = .ok (.invokevirtual 249, 3) := by decide +kernel
theorem dX8_later_42 : decode cX8_later 42 = .ok (.ireturn, 1) := by decide +kernel
theorem dX8_through_0 : decode cX8_through 0 = .ok (.iload_n 2, 1) := by decide +kernel
theorem dX8_through_1 : decode cX8_through 1 = .ok (.iconst 3, 1) := by decide +kernel
theorem dX8_through_2 : decode cX8_through 2 = .ok (.invokestatic 231, 3) := by decide +kernel
theorem dX8_through_5 : decode cX8_through 5 = .ok (.iload_n 1, 1) := by decide +kernel
theorem dX8_through_6 : decode cX8_through 6 = .ok (.invokestatic 252, 3) := by decide +kernel
theorem dX8_through_9 : decode cX8_through 9 = .ok (.aload_n 0, 1) := by decide +kernel
theorem dX8_through_10 : decode cX8_through 10 = .ok (.invokevirtual 237, 3) := by decide +kernel
theorem dX8_through_13 : decode cX8_through 13 = .ok (.iconst 0, 1) := by decide +kernel
theorem dX8_through_14 : decode cX8_through 14 = .ok (.istore_n 3, 1) := by decide +kernel
theorem dX8_through_15 : decode cX8_through 15 = .ok (.iconst 0, 1) := by decide +kernel
theorem dX8_through_16 : decode cX8_through 16 = .ok (.istore 4, 2) := by decide +kernel
theorem dX8_through_18 : decode cX8_through 18 = .ok (.iconst 1, 1) := by decide +kernel
theorem dX8_through_19 : decode cX8_through 19 = .ok (.istore 5, 2) := by decide +kernel
theorem dX8_through_21 : decode cX8_through 21 = .ok (.iconst 0, 1) := by decide +kernel
theorem dX8_through_22 : decode cX8_through 22 = .ok (.istore 6, 2) := by decide +kernel
theorem dX8_through_24 : decode cX8_through 24 = .ok (.iconst 0, 1) := by decide +kernel
theorem dX8_through_25 : decode cX8_through 25 = .ok (.istore 7, 2) := by decide +kernel
theorem dX8_through_27 : decode cX8_through 27 = .ok (.iconst 1, 1) := by decide +kernel
theorem dX8_through_28 : decode cX8_through 28 = .ok (.istore 8, 2) := by decide +kernel
theorem dX8_through_30 : decode cX8_through 30 = .ok (.iload 8, 2) := by decide +kernel
theorem dX8_through_32 : decode cX8_through 32 = .ok (.iload_n 1, 1) := by decide +kernel
theorem dX8_through_33 : decode cX8_through 33 = .ok (.if_icmp .gt 96, 3) := by decide +kernel
theorem dX8_through_36 : decode cX8_through 36 = .ok (.aload_n 0, 1) := by decide +kernel
theorem dX8_through_37 : decode cX8_through 37 = .ok (.invokevirtual 243, 3) := by decide +kernel
theorem dX8_through_40 : decode cX8_through 40 = .ok (.iload_n 3, 1) := by decide +kernel
theorem dX8_through_41 : decode cX8_through 41 = .ok (.aload_n 0, 1) := by decide +kernel
theorem dX8_through_42 : decode cX8_through 42 = .ok (.getfield 20, 3) := by decide +kernel
theorem dX8_through_45 : decode cX8_through 45 = .ok (.getfield 129, 3) := by decide +kernel
theorem dX8_through_48 : decode cX8_through 48 = .ok (.invokestatic 255, 3) := by decide +kernel
theorem dX8_through_51 : decode cX8_through 51 = .ok (.istore_n 3, 1) := by decide +kernel
theorem dX8_through_52 : decode cX8_through 52 = .ok (.iload 4, 2) := by decide +kernel
theorem dX8_through_54 : decode cX8_through 54 = .ok (.aload_n 0, 1) := by decide +kernel
theorem dX8_through_55 : decode cX8_through 55 = .ok (.getfield 20, 3) := by decide +kernel
theorem dX8_through_58 : decode cX8_through 58 = .ok (.getfield 114, 3) := by decide +kernel
theorem dX8_through_61 : decode cX8_through 61 = .ok (.aload_n 0, 1) := by decide +kernel
theorem dX8_through_62 : decode cX8_through 62 = .ok (.getfield 66, 3) := by decide +kernel
theorem dX8_through_65 : decode cX8_through 65 = .ok (.getfield 145, 3) := by decide +kernel
theorem dX8_through_68 : decode cX8_through 68 = .ok (.if_icmp .lt 7, 3) := by decide +kernel
theorem dX8_through_71 : decode cX8_through 71 = .ok (.iconst 1, 1) := by decide +kernel
theorem dX8_through_72 : decode cX8_through 72 = .ok (.goto 4, 3) := by decide +kernel
theorem dX8_through_75 : decode cX8_through 75 = .ok (.iconst 0, 1) := by decide +kernel
theorem dX8_through_76 : decode cX8_through 76 = .ok (.iadd, 1) := by decide +kernel
theorem dX8_through_77 : decode cX8_through 77 = .ok (.istore 4, 2) := by decide +kernel
theorem dX8_through_79 : decode cX8_through 79 = .ok (.iload 7, 2) := by decide +kernel
theorem dX8_through_81 : decode cX8_through 81 = .ok (.aload_n 0, 1) := by decide +kernel
theorem dX8_through_82 : decode cX8_through 82 = .ok (.getfield 20, 3) := by decide +kernel
theorem dX8_through_85 : decode cX8_through 85 = .ok (.getfield 148, 3) := by decide +kernel
theorem dX8_through_88 : decode cX8_through 88 = .ok (.ifCond .ne 7, 3) := by decide +kernel
theorem dX8_through_91 : decode cX8_through 91 = .ok (.iconst 1, 1) := by decide +kernel
theorem dX8_through_92 : decode cX8_through 92 = .ok (.goto 4, 3) := by decide +kernel
theorem dX8_through_95 : decode cX8_through 95 = .ok (.iconst 0, 1) := by decide +kernel
theorem dX8_through_96 : decode cX8_through 96 = .ok (.iadd, 1) := by decide +kernel
theorem dX8_through_97 : decode cX8_through 97 = .ok (.istore 7, 2) := by decide +kernel
theorem dX8_through_99 : decode cX8_through 99 = .ok (.aload_n 0, 1) := by decide +kernel
theorem dX8_through_100 : decode cX8_through 100 = .ok (.getfield 20, 3) := by decide +kernel
theorem dX8_through_103 : decode cX8_through 103 = .ok (.invokevirtual 260, 3) := by decide +kernel
theorem dX8_through_106 : decode cX8_through 106 = .ok (.istore 9, 2) := by decide +kernel
theorem dX8_through_108 : decode cX8_through 108 = .ok (.iload 9, 2) := by decide +kernel
theorem dX8_through_110 : decode cX8_through 110 = .ok (.iload 6, 2) := by decide +kernel
theorem dX8_through_112 : decode cX8_through 112 = .ok (.if_icmp .le 11, 3) := by decide +kernel
theorem dX8_through_115 : decode cX8_through 115 = .ok (.iload 9, 2) := by decide +kernel
theorem dX8_through_117 : decode cX8_through 117 = .ok (.istore 6, 2) := by decide +kernel
theorem dX8_through_119 : decode cX8_through 119 = .ok (.iload 8, 2) := by decide +kernel
theorem dX8_through_121 : decode cX8_through 121 = .ok (.istore 5, 2) := by decide +kernel
theorem dX8_through_123 : decode cX8_through 123 = .ok (.iinc 8 1, 3) := by decide +kernel
theorem dX8_through_126 : decode cX8_through 126 = .ok (.goto (-96), 3) := by decide +kernel
theorem dX8_through_129 : decode cX8_through 129 = .ok (.iload_n 2, 1) := by decide +kernel
theorem dX8_through_130 : decode cX8_through 130 = .ok (.tableswitch 34 0 2 #[26, 28, 31], 26) := by decide +kernel
theorem dX8_through_156 : decode cX8_through 156 = .ok (.iload_n 3, 1) := by decide +kernel
theorem dX8_through_157 : decode cX8_through 157 = .ok (.ireturn, 1) := by decide +kernel
theorem dX8_through_158 : decode cX8_through 158 = .ok (.iload 4, 2) := by decide +kernel
theorem dX8_through_160 : decode cX8_through 160 = .ok (.ireturn, 1) := by decide +kernel
theorem dX8_through_161 : decode cX8_through 161 = .ok (.iload 5, 2) := by decide +kernel
theorem dX8_through_163 : decode cX8_through 163 = .ok (.ireturn, 1) := by decide +kernel
theorem dX8_through_164 : decode cX8_through 164 = .ok (.iload 7, 2) := by decide +kernel
theorem dX8_through_166 : decode cX8_through 166 = .ok (.ireturn, 1) := by decide +kernel
theorem dX8_pious_0 : decode cX8_pious 0 = .ok (.aload_n 0, 1) := by decide +kernel
theorem dX8_pious_1 : decode cX8_pious 1 = .ok (.iload_n 1, 1) := by decide +kernel
theorem dX8_pious_2 : decode cX8_pious 2 = .ok (.invokevirtual 183, 3) := by decide +kernel
theorem dX8_pious_5 : decode cX8_pious 5 = .ok (.iload_n 2, 1) := by decide +kernel
theorem dX8_pious_6 : decode cX8_pious 6 = .ok (.invokestatic 252, 3) := by decide +kernel
theorem dX8_pious_9 : decode cX8_pious 9 = .ok (.aload_n 0, 1) := by decide +kernel
theorem dX8_pious_10 : decode cX8_pious 10 = .ok (.invokevirtual 237, 3) := by decide +kernel
theorem dX8_pious_13 : decode cX8_pious 13 = .ok (.iconst 0, 1) := by decide +kernel
theorem dX8_pious_14 : decode cX8_pious 14 = .ok (.istore_n 3, 1) := by decide +kernel
theorem dX8_pious_15 : decode cX8_pious 15 = .ok (.iconst 0, 1) := by decide +kernel
theorem dX8_pious_16 : decode cX8_pious 16 = .ok (.istore 4, 2) := by decide +kernel
theorem dX8_pious_18 : decode cX8_pious 18 = .ok (.iload 4, 2) := by decide +kernel
theorem dX8_pious_20 : decode cX8_pious 20 = .ok (.iload_n 2, 1) := by decide +kernel
theorem dX8_pious_21 : decode cX8_pious 21 = .ok (.if_icmp .ge 35, 3) := by decide +kernel
theorem dX8_pious_24 : decode cX8_pious 24 = .ok (.aload_n 0, 1) := by decide +kernel
theorem dX8_pious_25 : decode cX8_pious 25 = .ok (.invokevirtual 243, 3) := by decide +kernel
theorem dX8_pious_28 : decode cX8_pious 28 = .ok (.iload_n 3, 1) := by decide +kernel
theorem dX8_pious_29 : decode cX8_pious 29 = .ok (.aload_n 0, 1) := by decide +kernel
theorem dX8_pious_30 : decode cX8_pious 30 = .ok (.getfield 20, 3) := by decide +kernel
theorem dX8_pious_33 : decode cX8_pious 33 = .ok (.getfield 186, 3) := by decide +kernel
theorem dX8_pious_36 : decode cX8_pious 36 = .ok (.iload_n 1, 1) := by decide +kernel
theorem dX8_pious_37 : decode cX8_pious 37 = .ok (.iaload, 1) := by decide +kernel
theorem dX8_pious_38 : decode cX8_pious 38 = .ok (.bipush 50, 2) := by decide +kernel
theorem dX8_pious_40 : decode cX8_pious 40 = .ok (.if_icmp .lt 7, 3) := by decide +kernel
theorem dX8_pious_43 : decode cX8_pious 43 = .ok (.iconst 1, 1) := by decide +kernel
theorem dX8_pious_44 : decode cX8_pious 44 = .ok (.goto 4, 3) := by decide +kernel
theorem dX8_pious_47 : decode cX8_pious 47 = .ok (.iconst 0, 1) := by decide +kernel
theorem dX8_pious_48 : decode cX8_pious 48 = .ok (.iadd, 1) := by decide +kernel
theorem dX8_pious_49 : decode cX8_pious 49 = .ok (.istore_n 3, 1) := by decide +kernel
theorem dX8_pious_50 : decode cX8_pious 50 = .ok (.iinc 4 1, 3) := by decide +kernel
theorem dX8_pious_53 : decode cX8_pious 53 = .ok (.goto (-35), 3) := by decide +kernel
theorem dX8_pious_56 : decode cX8_pious 56 = .ok (.iload_n 3, 1) := by decide +kernel
theorem dX8_pious_57 : decode cX8_pious 57 = .ok (.ireturn, 1) := by decide +kernel
theorem dX8_share_0 : decode cX8_share 0 = .ok (.aload_n 0, 1) := by decide +kernel
theorem dX8_share_1 : decode cX8_share 1 = .ok (.iload_n 1, 1) := by decide +kernel
theorem dX8_share_2 : decode cX8_share 2 = .ok (.invokevirtual 183, 3) := by decide +kernel
theorem dX8_share_5 : decode cX8_share 5 = .ok (.iload_n 2, 1) := by decide +kernel
theorem dX8_share_6 : decode cX8_share 6 = .ok (.bipush 60, 2) := by decide +kernel
theorem dX8_share_8 : decode cX8_share 8 = .ok (.invokestatic 234, 3) := by decide +kernel
theorem dX8_share_11 : decode cX8_share 11 = .ok (.aload_n 0, 1) := by decide +kernel
theorem dX8_share_12 : decode cX8_share 12 = .ok (.invokevirtual 237, 3) := by decide +kernel
theorem dX8_share_15 : decode cX8_share 15 = .ok (.iconst 0, 1) := by decide +kernel
theorem dX8_share_16 : decode cX8_share 16 = .ok (.istore_n 3, 1) := by decide +kernel
theorem dX8_share_17 : decode cX8_share 17 = .ok (.iconst 0, 1) := by decide +kernel
theorem dX8_share_18 : decode cX8_share 18 = .ok (.istore 4, 2) := by decide +kernel
theorem dX8_share_20 : decode cX8_share 20 = .ok (.iconst 0, 1) := by decide +kernel
theorem dX8_share_21 : decode cX8_share 21 = .ok (.istore 5, 2) := by decide +kernel
theorem dX8_share_23 : decode cX8_share 23 = .ok (.iload 5, 2) := by decide +kernel
theorem dX8_share_25 : decode cX8_share 25 = .ok (.iload_n 2, 1) := by decide +kernel
theorem dX8_share_26 : decode cX8_share 26 = .ok (.if_icmp .ge 37, 3) := by decide +kernel
theorem dX8_share_29 : decode cX8_share 29 = .ok (.aload_n 0, 1) := by decide +kernel
theorem dX8_share_30 : decode cX8_share 30 = .ok (.invokevirtual 243, 3) := by decide +kernel
theorem dX8_share_33 : decode cX8_share 33 = .ok (.iload_n 3, 1) := by decide +kernel
theorem dX8_share_34 : decode cX8_share 34 = .ok (.aload_n 0, 1) := by decide +kernel
theorem dX8_share_35 : decode cX8_share 35 = .ok (.getfield 20, 3) := by decide +kernel
theorem dX8_share_38 : decode cX8_share 38 = .ok (.getfield 246, 3) := by decide +kernel
theorem dX8_share_41 : decode cX8_share 41 = .ok (.iload_n 1, 1) := by decide +kernel
theorem dX8_share_42 : decode cX8_share 42 = .ok (.iaload, 1) := by decide +kernel
theorem dX8_share_43 : decode cX8_share 43 = .ok (.iadd, 1) := by decide +kernel
theorem dX8_share_44 : decode cX8_share 44 = .ok (.istore_n 3, 1) := by decide +kernel
theorem dX8_share_45 : decode cX8_share 45 = .ok (.iload 4, 2) := by decide +kernel
theorem dX8_share_47 : decode cX8_share 47 = .ok (.aload_n 0, 1) := by decide +kernel
theorem dX8_share_48 : decode cX8_share 48 = .ok (.getfield 20, 3) := by decide +kernel
theorem dX8_share_51 : decode cX8_share 51 = .ok (.invokevirtual 260, 3) := by decide +kernel
theorem dX8_share_54 : decode cX8_share 54 = .ok (.iadd, 1) := by decide +kernel
theorem dX8_share_55 : decode cX8_share 55 = .ok (.istore 4, 2) := by decide +kernel
theorem dX8_share_57 : decode cX8_share 57 = .ok (.iinc 5 1, 3) := by decide +kernel
theorem dX8_share_60 : decode cX8_share 60 = .ok (.goto (-37), 3) := by decide +kernel
theorem dX8_share_63 : decode cX8_share 63 = .ok (.iload 4, 2) := by decide +kernel
theorem dX8_share_65 : decode cX8_share 65 = .ok (.ifCond .le 13, 3) := by decide +kernel
theorem dX8_share_68 : decode cX8_share 68 = .ok (.iload_n 3, 1) := by decide +kernel
theorem dX8_share_69 : decode cX8_share 69 = .ok (.bipush 100, 2) := by decide +kernel
theorem dX8_share_71 : decode cX8_share 71 = .ok (.imul, 1) := by decide +kernel
theorem dX8_share_72 : decode cX8_share 72 = .ok (.iload 4, 2) := by decide +kernel
theorem dX8_share_74 : decode cX8_share 74 = .ok (.idiv, 1) := by decide +kernel
theorem dX8_share_75 : decode cX8_share 75 = .ok (.goto 4, 3) := by decide +kernel
theorem dX8_share_78 : decode cX8_share 78 = .ok (.iconst 0, 1) := by decide +kernel
theorem dX8_share_79 : decode cX8_share 79 = .ok (.ireturn, 1) := by decide +kernel
theorem dX8_heaviest_0 : decode cX8_heaviest 0 = .ok (.iload_n 1, 1) := by decide +kernel
theorem dX8_heaviest_1 : decode cX8_heaviest 1 = .ok (.bipush 60, 2) := by decide +kernel
theorem dX8_heaviest_3 : decode cX8_heaviest 3 = .ok (.invokestatic 234, 3) := by decide +kernel
theorem dX8_heaviest_6 : decode cX8_heaviest 6 = .ok (.aload_n 0, 1) := by decide +kernel
theorem dX8_heaviest_7 : decode cX8_heaviest 7 = .ok (.invokevirtual 237, 3) := by decide +kernel
theorem dX8_heaviest_10 : decode cX8_heaviest 10 = .ok (.aload_n 0, 1) := by decide +kernel
theorem dX8_heaviest_11 : decode cX8_heaviest 11 = .ok (.iload_n 1, 1) := by decide +kernel
theorem dX8_heaviest_12 : decode cX8_heaviest 12 = .ok (.invokevirtual 240, 3) := by decide +kernel
theorem dX8_heaviest_15 : decode cX8_heaviest 15 = .ok (.pop, 1) := by decide +kernel
theorem dX8_heaviest_16 : decode cX8_heaviest 16 = .ok (.aload_n 0, 1) := by decide +kernel
theorem dX8_heaviest_17 : decode cX8_heaviest 17 = .ok (.getfield 20, 3) := by decide +kernel
theorem dX8_heaviest_20 : decode cX8_heaviest 20 = .ok (.invokevirtual 263, 3) := by decide +kernel
theorem dX8_heaviest_23 : decode cX8_heaviest 23 = .ok (.ireturn, 1) := by decide +kernel
theorem dX8_far_0 : decode cX8_far 0 = .ok (.aload_n 0, 1) := by decide +kernel
theorem dX8_far_1 : decode cX8_far 1 = .ok (.iload_n 1, 1) := by decide +kernel
theorem dX8_far_2 : decode cX8_far 2 = .ok (.invokevirtual 183, 3) := by decide +kernel
theorem dX8_far_5 : decode cX8_far 5 = .ok (.aload_n 0, 1) := by decide +kernel
theorem dX8_far_6 : decode cX8_far 6 = .ok (.iload_n 2, 1) := by decide +kernel
theorem dX8_far_7 : decode cX8_far 7 = .ok (.invokevirtual 183, 3) := by decide +kernel
theorem dX8_far_10 : decode cX8_far 10 = .ok (.aload_n 0, 1) := by decide +kernel
theorem dX8_far_11 : decode cX8_far 11 = .ok (.getfield 16, 3) := by decide +kernel
theorem dX8_far_14 : decode cX8_far 14 = .ok (.iload_n 1, 1) := by decide +kernel
theorem dX8_far_15 : decode cX8_far 15 = .ok (.iload_n 2, 1) := by decide +kernel
theorem dX8_far_16 : decode cX8_far 16 = .ok (.invokestatic 266, 3) := by decide +kernel
theorem dX8_far_19 : decode cX8_far 19 = .ok (.ireturn, 1) := by decide +kernel
theorem dX8_apart_0 : decode cX8_apart 0 = .ok (.aload_n 0, 1) := by decide +kernel
theorem dX8_apart_1 : decode cX8_apart 1 = .ok (.iload_n 1, 1) := by decide +kernel
theorem dX8_apart_2 : decode cX8_apart 2 = .ok (.invokevirtual 183, 3) := by decide +kernel
theorem dX8_apart_5 : decode cX8_apart 5 = .ok (.aload_n 0, 1) := by decide +kernel
theorem dX8_apart_6 : decode cX8_apart 6 = .ok (.iload_n 2, 1) := by decide +kernel
theorem dX8_apart_7 : decode cX8_apart 7 = .ok (.invokevirtual 183, 3) := by decide +kernel
theorem dX8_apart_10 : decode cX8_apart 10 = .ok (.aload_n 0, 1) := by decide +kernel
theorem dX8_apart_11 : decode cX8_apart 11 = .ok (.getfield 16, 3) := by decide +kernel
theorem dX8_apart_14 : decode cX8_apart 14 = .ok (.iload_n 1, 1) := by decide +kernel
theorem dX8_apart_15 : decode cX8_apart 15 = .ok (.iload_n 2, 1) := by decide +kernel
theorem dX8_apart_16 : decode cX8_apart 16 = .ok (.invokestatic 269, 3) := by decide +kernel
theorem dX8_apart_19 : decode cX8_apart 19 = .ok (.ireturn, 1) := by decide +kernel
theorem dX8_toPreach_0 : decode cX8_toPreach 0 = .ok (.iload_n 1, 1) := by decide +kernel
theorem dX8_toPreach_1 : decode cX8_toPreach 1 = .ok (.invokestatic 252, 3) := by decide +kernel
theorem dX8_toPreach_4 : decode cX8_toPreach 4 = .ok (.iconst 1, 1) := by decide +kernel
theorem dX8_toPreach_5 : decode cX8_toPreach 5 = .ok (.aload_n 0, 1) := by decide +kernel
theorem dX8_toPreach_6 : decode cX8_toPreach 6 = .ok (.getfield 16, 3) := by decide +kernel
theorem dX8_toPreach_9 : decode cX8_toPreach 9 = .ok (.getfield 120, 3) := by decide +kernel
theorem dX8_toPreach_12 : decode cX8_toPreach 12 = .ok (.ishl, 1) := by decide +kernel
theorem dX8_toPreach_13 : decode cX8_toPreach 13 = .ok (.istore_n 2, 1) := by decide +kernel
theorem dX8_toPreach_14 : decode cX8_toPreach 14 = .ok (.iconst 0, 1) := by decide +kernel
theorem dX8_toPreach_15 : decode cX8_toPreach 15 = .ok (.istore_n 3, 1) := by decide +kernel
theorem dX8_toPreach_16 : decode cX8_toPreach 16 = .ok (.iload_n 3, 1) := by decide +kernel
theorem dX8_toPreach_17 : decode cX8_toPreach 17 = .ok (.aload_n 0, 1) := by decide +kernel
theorem dX8_toPreach_18 : decode cX8_toPreach 18 = .ok (.getfield 16, 3) := by decide +kernel
theorem dX8_toPreach_21 : decode cX8_toPreach 21 = .ok (.getfield 120, 3) := by decide +kernel
theorem dX8_toPreach_24 : decode cX8_toPreach 24 = .ok (.if_icmp .gt 46, 3) := by decide +kernel
theorem dX8_toPreach_27 : decode cX8_toPreach 27 = .ok (.iconst 0, 1) := by decide +kernel
theorem dX8_toPreach_28 : decode cX8_toPreach 28 = .ok (.istore 4, 2) := by decide +kernel
theorem dX8_toPreach_30 : decode cX8_toPreach 30 = .ok (.iload 4, 2) := by decide +kernel
theorem dX8_toPreach_32 : decode cX8_toPreach 32 = .ok (.iload_n 2, 1) := by decide +kernel
theorem dX8_toPreach_33 : decode cX8_toPreach 33 = .ok (.if_icmp .ge 31, 3) := by decide +kernel
theorem dX8_toPreach_36 : decode cX8_toPreach 36 = .ok (.iload 4, 2) := by decide +kernel
theorem dX8_toPreach_38 : decode cX8_toPreach 38 = .ok (.invokestatic 272, 3) := by decide +kernel
theorem dX8_toPreach_41 : decode cX8_toPreach 41 = .ok (.iload_n 3, 1) := by decide +kernel
theorem dX8_toPreach_42 : decode cX8_toPreach 42 = .ok (.if_icmp .ne 16, 3) := by decide +kernel
theorem dX8_toPreach_45 : decode cX8_toPreach 45 = .ok (.aload_n 0, 1) := by decide +kernel
theorem dX8_toPreach_46 : decode cX8_toPreach 46 = .ok (.iload 4, 2) := by decide +kernel
theorem dX8_toPreach_48 : decode cX8_toPreach 48 = .ok (.iload_n 1, 1) := by decide +kernel
theorem dX8_toPreach_49 : decode cX8_toPreach 49 = .ok (.invokevirtual 277, 3) := by decide +kernel
theorem dX8_toPreach_52 : decode cX8_toPreach 52 = .ok (.ifCond .eq 6, 3) := by decide +kernel
theorem dX8_toPreach_55 : decode cX8_toPreach 55 = .ok (.iload 4, 2) := by decide +kernel
theorem dX8_toPreach_57 : decode cX8_toPreach 57 = .ok (.ireturn, 1) := by decide +kernel
theorem dX8_toPreach_58 : decode cX8_toPreach 58 = .ok (.iinc 4 1, 3) := by decide +kernel
theorem dX8_toPreach_61 : decode cX8_toPreach 61 = .ok (.goto (-31), 3) := by decide +kernel
theorem dX8_toPreach_64 : decode cX8_toPreach 64 = .ok (.iinc 3 1, 3) := by decide +kernel
theorem dX8_toPreach_67 : decode cX8_toPreach 67 = .ok (.goto (-51), 3) := by decide +kernel
theorem dX8_toPreach_70 : decode cX8_toPreach 70 = .ok (.iconst (-1), 1) := by decide +kernel
theorem dX8_toPreach_71 : decode cX8_toPreach 71 = .ok (.ireturn, 1) := by decide +kernel
theorem dX8_standsIfPreached_0 : decode cX8_standsIfPreached 0 = .ok (.aload_n 0, 1) := by decide +kernel
theorem dX8_standsIfPreached_1 : decode cX8_standsIfPreached 1 = .ok (.invokevirtual 237, 3) := by decide +kernel
theorem dX8_standsIfPreached_4 : decode cX8_standsIfPreached 4 = .ok (.iconst 0, 1) := by decide +kernel
theorem dX8_standsIfPreached_5 : decode cX8_standsIfPreached 5 = .ok (.istore_n 3, 1) := by decide +kernel
theorem dX8_standsIfPreached_6 : decode cX8_standsIfPreached 6 = .ok (.iload_n 3, 1) := by decide +kernel
theorem dX8_standsIfPreached_7 : decode cX8_standsIfPreached 7 = .ok (.aload_n 0, 1) := by decide +kernel
theorem dX8_standsIfPreached_8 : decode cX8_standsIfPreached 8 = .ok (.getfield 20, 3) := by decide +kernel
theorem dX8_standsIfPreached_11 : decode cX8_standsIfPreached 11 = .ok (.getfield 120, 3) := by decide +kernel
theorem dX8_standsIfPreached_14 : decode cX8_standsIfPreached 14 = .ok (.if_icmp .ge 28, 3) := by decide +kernel
theorem dX8_standsIfPreached_17 : decode cX8_standsIfPreached 17 = .ok (.iload_n 1, 1) := by decide +kernel
theorem dX8_standsIfPreached_18 : decode cX8_standsIfPreached 18 = .ok (.iload_n 3, 1) := by decide +kernel
theorem dX8_standsIfPreached_19 : decode cX8_standsIfPreached 19 = .ok (.ishr, 1) := by decide +kernel
theorem dX8_standsIfPreached_20 : decode cX8_standsIfPreached 20 = .ok (.iconst 1, 1) := by decide +kernel
theorem dX8_standsIfPreached_21 : decode cX8_standsIfPreached 21 = .ok (.iand, 1) := by decide +kernel
theorem dX8_standsIfPreached_22 : decode cX8_standsIfPreached 22 = .ok (.iconst 1, 1) := by decide +kernel
theorem dX8_standsIfPreached_23 : decode cX8_standsIfPreached 23 = .ok (.if_icmp .ne 13, 3) := by decide +kernel
theorem dX8_standsIfPreached_26 : decode cX8_standsIfPreached 26 = .ok (.aload_n 0, 1) := by decide +kernel
theorem dX8_standsIfPreached_27 : decode cX8_standsIfPreached 27 = .ok (.getfield 20, 3) := by decide +kernel
theorem dX8_standsIfPreached_30 : decode cX8_standsIfPreached 30 = .ok (.iload_n 3, 1) := by decide +kernel
theorem dX8_standsIfPreached_31 : decode cX8_standsIfPreached 31 = .ok (.bipush 10, 2) := by decide +kernel
theorem dX8_standsIfPreached_33 : decode cX8_standsIfPreached 33 = .ok (.invokevirtual 216, 3) := by decide +kernel
theorem dX8_standsIfPreached_36 : decode cX8_standsIfPreached 36 = .ok (.iinc 3 1, 3) := by decide +kernel
theorem dX8_standsIfPreached_39 : decode cX8_standsIfPreached 39 = .ok (.goto (-33), 3) := by decide +kernel
theorem dX8_standsIfPreached_42 : decode cX8_standsIfPreached 42 = .ok (.iconst 0, 1) := by decide +kernel
theorem dX8_standsIfPreached_43 : decode cX8_standsIfPreached 43 = .ok (.istore_n 3, 1) := by decide +kernel
theorem dX8_standsIfPreached_44 : decode cX8_standsIfPreached 44 = .ok (.iload_n 3, 1) := by decide +kernel
theorem dX8_standsIfPreached_45 : decode cX8_standsIfPreached 45 = .ok (.iload_n 2, 1) := by decide +kernel
theorem dX8_standsIfPreached_46 : decode cX8_standsIfPreached 46 = .ok (.if_icmp .ge 25, 3) := by decide +kernel
theorem dX8_standsIfPreached_49 : decode cX8_standsIfPreached 49 = .ok (.aload_n 0, 1) := by decide +kernel
theorem dX8_standsIfPreached_50 : decode cX8_standsIfPreached 50 = .ok (.invokevirtual 243, 3) := by decide +kernel
theorem dX8_standsIfPreached_53 : decode cX8_standsIfPreached 53 = .ok (.aload_n 0, 1) := by decide +kernel
theorem dX8_standsIfPreached_54 : decode cX8_standsIfPreached 54 = .ok (.getfield 20, 3) := by decide +kernel
theorem dX8_standsIfPreached_57 : decode cX8_standsIfPreached 57 = .ok (.getfield 148, 3) := by decide +kernel
theorem dX8_standsIfPreached_60 : decode cX8_standsIfPreached 60 = .ok (.ifCond .le 5, 3) := by decide +kernel
theorem dX8_standsIfPreached_63 : decode cX8_standsIfPreached 63 = .ok (.iconst 0, 1) := by decide +kernel
theorem dX8_standsIfPreached_64 : decode cX8_standsIfPreached 64 = .ok (.ireturn, 1) := by decide +kernel
theorem dX8_standsIfPreached_65 : decode cX8_standsIfPreached 65 = .ok (.iinc 3 1, 3) := by decide +kernel
theorem dX8_standsIfPreached_68 : decode cX8_standsIfPreached 68 = .ok (.goto (-24), 3) := by decide +kernel
theorem dX8_standsIfPreached_71 : decode cX8_standsIfPreached 71 = .ok (.iconst 1, 1) := by decide +kernel
theorem dX8_standsIfPreached_72 : decode cX8_standsIfPreached 72 = .ok (.ireturn, 1) := by decide +kernel
theorem dX8_row_0 : decode cX8_row 0 = .ok (.iload_n 2, 1) := by decide +kernel
theorem dX8_row_1 : decode cX8_row 1 = .ok (.iconst 1, 1) := by decide +kernel
theorem dX8_row_2 : decode cX8_row 2 = .ok (.invokestatic 231, 3) := by decide +kernel
theorem dX8_row_5 : decode cX8_row 5 = .ok (.iload_n 1, 1) := by decide +kernel
theorem dX8_row_6 : decode cX8_row 6 = .ok (.invokestatic 252, 3) := by decide +kernel
theorem dX8_row_9 : decode cX8_row 9 = .ok (.iconst 4, 1) := by decide +kernel
theorem dX8_row_10 : decode cX8_row 10 = .ok (.aload_n 0, 1) := by decide +kernel
theorem dX8_row_11 : decode cX8_row 11 = .ok (.getfield 16, 3) := by decide +kernel
theorem dX8_row_14 : decode cX8_row 14 = .ok (.getfield 117, 3) := by decide +kernel
theorem dX8_row_17 : decode cX8_row 17 = .ok (.aload_n 0, 1) := by decide +kernel
theorem dX8_row_18 : decode cX8_row 18 = .ok (.getfield 16, 3) := by decide +kernel
theorem dX8_row_21 : decode cX8_row 21 = .ok (.getfield 114, 3) := by decide +kernel
theorem dX8_row_24 : decode cX8_row 24 = .ok (.isub, 1) := by decide +kernel
theorem dX8_row_25 : decode cX8_row 25 = .ok (.invokestatic 280, 3) := by decide +kernel
theorem dX8_row_28 : decode cX8_row 28 = .ok (.istore_n 3, 1) := by decide +kernel
theorem dX8_row_29 : decode cX8_row 29 = .ok (.iconst (-1), 1) := by decide +kernel
theorem dX8_row_30 : decode cX8_row 30 = .ok (.istore 4, 2) := by decide +kernel
theorem dX8_row_32 : decode cX8_row 32 = .ok (.iconst (-1), 1) := by decide +kernel
theorem dX8_row_33 : decode cX8_row 33 = .ok (.istore 5, 2) := by decide +kernel
theorem dX8_row_35 : decode cX8_row 35 = .ok (.iconst 0, 1) := by decide +kernel
theorem dX8_row_36 : decode cX8_row 36 = .ok (.istore 6, 2) := by decide +kernel
theorem dX8_row_38 : decode cX8_row 38 = .ok (.iload 6, 2) := by decide +kernel
theorem dX8_row_40 : decode cX8_row 40 = .ok (.getstatic 283, 3) := by decide +kernel
theorem dX8_row_43 : decode cX8_row 43 = .ok (.iload_n 3, 1) := by decide +kernel
theorem dX8_row_44 : decode cX8_row 44 = .ok (.iaload, 1) := by decide +kernel
theorem dX8_row_45 : decode cX8_row 45 = .ok (.if_icmp .ge 53, 3) := by decide +kernel
theorem dX8_row_48 : decode cX8_row 48 = .ok (.aload_n 0, 1) := by decide +kernel
theorem dX8_row_49 : decode cX8_row 49 = .ok (.invokevirtual 237, 3) := by decide +kernel
theorem dX8_row_52 : decode cX8_row 52 = .ok (.aload_n 0, 1) := by decide +kernel
theorem dX8_row_53 : decode cX8_row 53 = .ok (.iload 6, 2) := by decide +kernel
theorem dX8_row_55 : decode cX8_row 55 = .ok (.iload_n 3, 1) := by decide +kernel
theorem dX8_row_56 : decode cX8_row 56 = .ok (.invokevirtual 286, 3) := by decide +kernel
theorem dX8_row_59 : decode cX8_row 59 = .ok (.istore 7, 2) := by decide +kernel
theorem dX8_row_61 : decode cX8_row 61 = .ok (.aload_n 0, 1) := by decide +kernel
theorem dX8_row_62 : decode cX8_row 62 = .ok (.iload_n 1, 1) := by decide +kernel
theorem dX8_row_63 : decode cX8_row 63 = .ok (.invokevirtual 240, 3) := by decide +kernel
theorem dX8_row_66 : decode cX8_row 66 = .ok (.pop, 1) := by decide +kernel
theorem dX8_row_67 : decode cX8_row 67 = .ok (.aload_n 0, 1) := by decide +kernel
theorem dX8_row_68 : decode cX8_row 68 = .ok (.getfield 20, 3) := by decide +kernel
theorem dX8_row_71 : decode cX8_row 71 = .ok (.getfield 114, 3) := by decide +kernel
theorem dX8_row_74 : decode cX8_row 74 = .ok (.iload 4, 2) := by decide +kernel
theorem dX8_row_76 : decode cX8_row 76 = .ok (.if_icmp .le 16, 3) := by decide +kernel
theorem dX8_row_79 : decode cX8_row 79 = .ok (.aload_n 0, 1) := by decide +kernel
theorem dX8_row_80 : decode cX8_row 80 = .ok (.getfield 20, 3) := by decide +kernel
theorem dX8_row_83 : decode cX8_row 83 = .ok (.getfield 114, 3) := by decide +kernel
theorem dX8_row_86 : decode cX8_row 86 = .ok (.istore 4, 2) := by decide +kernel
theorem dX8_row_88 : decode cX8_row 88 = .ok (.iload 7, 2) := by decide +kernel
theorem dX8_row_90 : decode cX8_row 90 = .ok (.istore 5, 2) := by decide +kernel
theorem dX8_row_92 : decode cX8_row 92 = .ok (.iinc 6 1, 3) := by decide +kernel
theorem dX8_row_95 : decode cX8_row 95 = .ok (.goto (-57), 3) := by decide +kernel
theorem dX8_row_98 : decode cX8_row 98 = .ok (.iload_n 2, 1) := by decide +kernel
theorem dX8_row_99 : decode cX8_row 99 = .ok (.ifCond .ne 6, 3) := by decide +kernel
theorem dX8_row_102 : decode cX8_row 102 = .ok (.iload 4, 2) := by decide +kernel
theorem dX8_row_104 : decode cX8_row 104 = .ok (.ireturn, 1) := by decide +kernel
theorem dX8_row_105 : decode cX8_row 105 = .ok (.iload_n 3, 1) := by decide +kernel
theorem dX8_row_106 : decode cX8_row 106 = .ok (.ifCond .ne 7, 3) := by decide +kernel
theorem dX8_row_109 : decode cX8_row 109 = .ok (.iconst (-1), 1) := by decide +kernel
theorem dX8_row_110 : decode cX8_row 110 = .ok (.goto 5, 3) := by decide +kernel
theorem dX8_row_113 : decode cX8_row 113 = .ok (.iload 5, 2) := by decide +kernel
theorem dX8_row_115 : decode cX8_row 115 = .ok (.ireturn, 1) := by decide +kernel
theorem dX8_layRow_0 : decode cX8_layRow 0 = .ok (.iconst 0, 1) := by decide +kernel
theorem dX8_layRow_1 : decode cX8_layRow 1 = .ok (.istore_n 3, 1) := by decide +kernel
theorem dX8_layRow_2 : decode cX8_layRow 2 = .ok (.iconst 0, 1) := by decide +kernel
theorem dX8_layRow_3 : decode cX8_layRow 3 = .ok (.istore 4, 2) := by decide +kernel
theorem dX8_layRow_5 : decode cX8_layRow 5 = .ok (.iload_n 1, 1) := by decide +kernel
theorem dX8_layRow_6 : decode cX8_layRow 6 = .ok (.istore 5, 2) := by decide +kernel
theorem dX8_layRow_8 : decode cX8_layRow 8 = .ok (.iconst 0, 1) := by decide +kernel
theorem dX8_layRow_9 : decode cX8_layRow 9 = .ok (.istore 6, 2) := by decide +kernel
theorem dX8_layRow_11 : decode cX8_layRow 11 = .ok (.iload 6, 2) := by decide +kernel
theorem dX8_layRow_13 : decode cX8_layRow 13 = .ok (.iload_n 2, 1) := by decide +kernel
theorem dX8_layRow_14 : decode cX8_layRow 14 = .ok (.if_icmp .ge 129, 3) := by decide +kernel
theorem dX8_layRow_17 : decode cX8_layRow 17 = .ok (.getstatic 283, 3) := by decide +kernel
theorem dX8_layRow_20 : decode cX8_layRow 20 = .ok (.iload_n 2, 1) := by decide +kernel
theorem dX8_layRow_21 : decode cX8_layRow 21 = .ok (.iconst 1, 1) := by decide +kernel
theorem dX8_layRow_22 : decode cX8_layRow 22 = .ok (.isub, 1) := by decide +kernel
theorem dX8_layRow_23 : decode cX8_layRow 23 = .ok (.iload 6, 2) := by decide +kernel
theorem dX8_layRow_25 : decode cX8_layRow 25 = .ok (.isub, 1) := by decide +kernel
theorem dX8_layRow_26 : decode cX8_layRow 26 = .ok (.iaload, 1) := by decide +kernel
theorem dX8_layRow_27 : decode cX8_layRow 27 = .ok (.istore 7, 2) := by decide +kernel
theorem dX8_layRow_29 : decode cX8_layRow 29 = .ok (.iload 4, 2) := by decide +kernel
theorem dX8_layRow_31 : decode cX8_layRow 31 = .ok (.iload 5, 2) := by decide +kernel
theorem dX8_layRow_33 : decode cX8_layRow 33 = .ok (.iload 7, 2) := by decide +kernel
theorem dX8_layRow_35 : decode cX8_layRow 35 = .ok (.idiv, 1) := by decide +kernel
theorem dX8_layRow_36 : decode cX8_layRow 36 = .ok (.invokestatic 289, 3) := by decide +kernel
theorem dX8_layRow_39 : decode cX8_layRow 39 = .ok (.istore 8, 2) := by decide +kernel
theorem dX8_layRow_41 : decode cX8_layRow 41 = .ok (.iload 5, 2) := by decide +kernel
theorem dX8_layRow_43 : decode cX8_layRow 43 = .ok (.iload 7, 2) := by decide +kernel
theorem dX8_layRow_45 : decode cX8_layRow 45 = .ok (.irem, 1) := by decide +kernel
theorem dX8_layRow_46 : decode cX8_layRow 46 = .ok (.istore 5, 2) := by decide +kernel
theorem dX8_layRow_48 : decode cX8_layRow 48 = .ok (.iload 4, 2) := by decide +kernel
theorem dX8_layRow_50 : decode cX8_layRow 50 = .ok (.iconst 1, 1) := by decide +kernel
theorem dX8_layRow_51 : decode cX8_layRow 51 = .ok (.iload 8, 2) := by decide +kernel
theorem dX8_layRow_53 : decode cX8_layRow 53 = .ok (.ishl, 1) := by decide +kernel
theorem dX8_layRow_54 : decode cX8_layRow 54 = .ok (.ior, 1) := by decide +kernel
theorem dX8_layRow_55 : decode cX8_layRow 55 = .ok (.istore 4, 2) := by decide +kernel
theorem dX8_layRow_57 : decode cX8_layRow 57 = .ok (.iload_n 3, 1) := by decide +kernel
theorem dX8_layRow_58 : decode cX8_layRow 58 = .ok (.bipush 10, 2) := by decide +kernel
theorem dX8_layRow_60 : decode cX8_layRow 60 = .ok (.imul, 1) := by decide +kernel
theorem dX8_layRow_61 : decode cX8_layRow 61 = .ok (.iload 8, 2) := by decide +kernel
theorem dX8_layRow_63 : decode cX8_layRow 63 = .ok (.iadd, 1) := by decide +kernel
theorem dX8_layRow_64 : decode cX8_layRow 64 = .ok (.istore_n 3, 1) := by decide +kernel
theorem dX8_layRow_65 : decode cX8_layRow 65 = .ok (.aload_n 0, 1) := by decide +kernel
theorem dX8_layRow_66 : decode cX8_layRow 66 = .ok (.getfield 20, 3) := by decide +kernel
theorem dX8_layRow_69 : decode cX8_layRow 69 = .ok (.getfield 177, 3) := by decide +kernel
theorem dX8_layRow_72 : decode cX8_layRow 72 = .ok (.aload_n 0, 1) := by decide +kernel
theorem dX8_layRow_73 : decode cX8_layRow 73 = .ok (.getfield 20, 3) := by decide +kernel
theorem dX8_layRow_76 : decode cX8_layRow 76 = .ok (.getfield 114, 3) := by decide +kernel
theorem dX8_layRow_79 : decode cX8_layRow 79 = .ok (.iload 6, 2) := by decide +kernel
theorem dX8_layRow_81 : decode cX8_layRow 81 = .ok (.iadd, 1) := by decide +kernel
theorem dX8_layRow_82 : decode cX8_layRow 82 = .ok (.aload_n 0, 1) := by decide +kernel
theorem dX8_layRow_83 : decode cX8_layRow 83 = .ok (.getfield 16, 3) := by decide +kernel
theorem dX8_layRow_86 : decode cX8_layRow 86 = .ok (.getfield 177, 3) := by decide +kernel
theorem dX8_layRow_89 : decode cX8_layRow 89 = .ok (.aload_n 0, 1) := by decide +kernel
theorem dX8_layRow_90 : decode cX8_layRow 90 = .ok (.getfield 16, 3) := by decide +kernel
theorem dX8_layRow_93 : decode cX8_layRow 93 = .ok (.getfield 114, 3) := by decide +kernel
theorem dX8_layRow_96 : decode cX8_layRow 96 = .ok (.iload 8, 2) := by decide +kernel
theorem dX8_layRow_98 : decode cX8_layRow 98 = .ok (.iadd, 1) := by decide +kernel
theorem dX8_layRow_99 : decode cX8_layRow 99 = .ok (.iaload, 1) := by decide +kernel
theorem dX8_layRow_100 : decode cX8_layRow 100 = .ok (.iastore, 1) := by decide +kernel
theorem dX8_layRow_101 : decode cX8_layRow 101 = .ok (.aload_n 0, 1) := by decide +kernel
theorem dX8_layRow_102 : decode cX8_layRow 102 = .ok (.getfield 20, 3) := by decide +kernel
theorem dX8_layRow_105 : decode cX8_layRow 105 = .ok (.getfield 180, 3) := by decide +kernel
theorem dX8_layRow_108 : decode cX8_layRow 108 = .ok (.aload_n 0, 1) := by decide +kernel
theorem dX8_layRow_109 : decode cX8_layRow 109 = .ok (.getfield 20, 3) := by decide +kernel
theorem dX8_layRow_112 : decode cX8_layRow 112 = .ok (.getfield 114, 3) := by decide +kernel
theorem dX8_layRow_115 : decode cX8_layRow 115 = .ok (.iload 6, 2) := by decide +kernel
theorem dX8_layRow_117 : decode cX8_layRow 117 = .ok (.iadd, 1) := by decide +kernel
theorem dX8_layRow_118 : decode cX8_layRow 118 = .ok (.aload_n 0, 1) := by decide +kernel
theorem dX8_layRow_119 : decode cX8_layRow 119 = .ok (.getfield 16, 3) := by decide +kernel
theorem dX8_layRow_122 : decode cX8_layRow 122 = .ok (.getfield 180, 3) := by decide +kernel
theorem dX8_layRow_125 : decode cX8_layRow 125 = .ok (.aload_n 0, 1) := by decide +kernel
theorem dX8_layRow_126 : decode cX8_layRow 126 = .ok (.getfield 16, 3) := by decide +kernel
theorem dX8_layRow_129 : decode cX8_layRow 129 = .ok (.getfield 114, 3) := by decide +kernel
theorem dX8_layRow_132 : decode cX8_layRow 132 = .ok (.iload 8, 2) := by decide +kernel
theorem dX8_layRow_134 : decode cX8_layRow 134 = .ok (.iadd, 1) := by decide +kernel
theorem dX8_layRow_135 : decode cX8_layRow 135 = .ok (.iaload, 1) := by decide +kernel
theorem dX8_layRow_136 : decode cX8_layRow 136 = .ok (.iastore, 1) := by decide +kernel
theorem dX8_layRow_137 : decode cX8_layRow 137 = .ok (.iinc 6 1, 3) := by decide +kernel
theorem dX8_layRow_140 : decode cX8_layRow 140 = .ok (.goto (-129), 3) := by decide +kernel
theorem dX8_layRow_143 : decode cX8_layRow 143 = .ok (.iload_n 3, 1) := by decide +kernel
theorem dX8_layRow_144 : decode cX8_layRow 144 = .ok (.ireturn, 1) := by decide +kernel
theorem dX8_unusedPlace_0 : decode cX8_unusedPlace 0 = .ok (.iload_n 1, 1) := by decide +kernel
theorem dX8_unusedPlace_1 : decode cX8_unusedPlace 1 = .ok (.istore_n 2, 1) := by decide +kernel
theorem dX8_unusedPlace_2 : decode cX8_unusedPlace 2 = .ok (.iconst 0, 1) := by decide +kernel
theorem dX8_unusedPlace_3 : decode cX8_unusedPlace 3 = .ok (.istore_n 3, 1) := by decide +kernel
theorem dX8_unusedPlace_4 : decode cX8_unusedPlace 4 = .ok (.iload_n 3, 1) := by decide +kernel
theorem dX8_unusedPlace_5 : decode cX8_unusedPlace 5 = .ok (.iconst 4, 1) := by decide +kernel
theorem dX8_unusedPlace_6 : decode cX8_unusedPlace 6 = .ok (.if_icmp .ge 26, 3) := by decide +kernel
theorem dX8_unusedPlace_9 : decode cX8_unusedPlace 9 = .ok (.iload_n 0, 1) := by decide +kernel
theorem dX8_unusedPlace_10 : decode cX8_unusedPlace 10 = .ok (.iload_n 3, 1) := by decide +kernel
theorem dX8_unusedPlace_11 : decode cX8_unusedPlace 11 = .ok (.ishr, 1) := by decide +kernel
theorem dX8_unusedPlace_12 : decode cX8_unusedPlace 12 = .ok (.iconst 1, 1) := by decide +kernel
theorem dX8_unusedPlace_13 : decode cX8_unusedPlace 13 = .ok (.iand, 1) := by decide +kernel
theorem dX8_unusedPlace_14 : decode cX8_unusedPlace 14 = .ok (.ifCond .ne 12, 3) := by decide +kernel
theorem dX8_unusedPlace_17 : decode cX8_unusedPlace 17 = .ok (.iload_n 2, 1) := by decide +kernel
theorem dX8_unusedPlace_18 : decode cX8_unusedPlace 18 = .ok (.ifCond .ne 5, 3) := by decide +kernel
theorem dX8_unusedPlace_21 : decode cX8_unusedPlace 21 = .ok (.iload_n 3, 1) := by decide +kernel
theorem dX8_unusedPlace_22 : decode cX8_unusedPlace 22 = .ok (.ireturn, 1) := by decide +kernel
theorem dX8_unusedPlace_23 : decode cX8_unusedPlace 23 = .ok (.iinc 2 (-1), 3) := by decide +kernel
theorem dX8_unusedPlace_26 : decode cX8_unusedPlace 26 = .ok (.iinc 3 1, 3) := by decide +kernel
theorem dX8_unusedPlace_29 : decode cX8_unusedPlace 29 = .ok (.goto (-25), 3) := by decide +kernel
theorem dX8_unusedPlace_32 : decode cX8_unusedPlace 32 = .ok (.iconst 0, 1) := by decide +kernel
theorem dX8_unusedPlace_33 : decode cX8_unusedPlace 33 = .ok (.ireturn, 1) := by decide +kernel
theorem dX8_toMortar_0 : decode cX8_toMortar 0 = .ok (.iload_n 1, 1) := by decide +kernel
theorem dX8_toMortar_1 : decode cX8_toMortar 1 = .ok (.invokestatic 252, 3) := by decide +kernel
theorem dX8_toMortar_4 : decode cX8_toMortar 4 = .ok (.aload_n 0, 1) := by decide +kernel
theorem dX8_toMortar_5 : decode cX8_toMortar 5 = .ok (.invokevirtual 237, 3) := by decide +kernel
theorem dX8_toMortar_8 : decode cX8_toMortar 8 = .ok (.aload_n 0, 1) := by decide +kernel
theorem dX8_toMortar_9 : decode cX8_toMortar 9 = .ok (.iload_n 1, 1) := by decide +kernel
theorem dX8_toMortar_10 : decode cX8_toMortar 10 = .ok (.invokevirtual 240, 3) := by decide +kernel
theorem dX8_toMortar_13 : decode cX8_toMortar 13 = .ok (.pop, 1) := by decide +kernel
theorem dX8_toMortar_14 : decode cX8_toMortar 14 = .ok (.aload_n 0, 1) := by decide +kernel
theorem dX8_toMortar_15 : decode cX8_toMortar 15 = .ok (.getfield 20, 3) := by decide +kernel
theorem dX8_toMortar_18 : decode cX8_toMortar 18 = .ok (.getfield 114, 3) := by decide +kernel
theorem dX8_toMortar_21 : decode cX8_toMortar 21 = .ok (.istore_n 2, 1) := by decide +kernel
theorem dX8_toMortar_22 : decode cX8_toMortar 22 = .ok (.iconst (-1), 1) := by decide +kernel
theorem dX8_toMortar_23 : decode cX8_toMortar 23 = .ok (.istore_n 3, 1) := by decide +kernel
theorem dX8_toMortar_24 : decode cX8_toMortar 24 = .ok (.iconst 0, 1) := by decide +kernel
theorem dX8_toMortar_25 : decode cX8_toMortar 25 = .ok (.istore 4, 2) := by decide +kernel
theorem dX8_toMortar_27 : decode cX8_toMortar 27 = .ok (.iload 4, 2) := by decide +kernel
theorem dX8_toMortar_29 : decode cX8_toMortar 29 = .ok (.aload_n 0, 1) := by decide +kernel
theorem dX8_toMortar_30 : decode cX8_toMortar 30 = .ok (.getfield 16, 3) := by decide +kernel
theorem dX8_toMortar_33 : decode cX8_toMortar 33 = .ok (.getfield 114, 3) := by decide +kernel
theorem dX8_toMortar_36 : decode cX8_toMortar 36 = .ok (.if_icmp .ge 70, 3) := by decide +kernel
theorem dX8_toMortar_39 : decode cX8_toMortar 39 = .ok (.aload_n 0, 1) := by decide +kernel
theorem dX8_toMortar_40 : decode cX8_toMortar 40 = .ok (.getfield 16, 3) := by decide +kernel
theorem dX8_toMortar_43 : decode cX8_toMortar 43 = .ok (.getfield 180, 3) := by decide +kernel
theorem dX8_toMortar_46 : decode cX8_toMortar 46 = .ok (.iload 4, 2) := by decide +kernel
theorem dX8_toMortar_48 : decode cX8_toMortar 48 = .ok (.iaload, 1) := by decide +kernel
theorem dX8_toMortar_49 : decode cX8_toMortar 49 = .ok (.bipush 9, 2) := by decide +kernel
theorem dX8_toMortar_51 : decode cX8_toMortar 51 = .ok (.if_icmp .ge 49, 3) := by decide +kernel
theorem dX8_toMortar_54 : decode cX8_toMortar 54 = .ok (.aload_n 0, 1) := by decide +kernel
theorem dX8_toMortar_55 : decode cX8_toMortar 55 = .ok (.invokevirtual 237, 3) := by decide +kernel
theorem dX8_toMortar_58 : decode cX8_toMortar 58 = .ok (.aload_n 0, 1) := by decide +kernel
theorem dX8_toMortar_59 : decode cX8_toMortar 59 = .ok (.getfield 20, 3) := by decide +kernel
theorem dX8_toMortar_62 : decode cX8_toMortar 62 = .ok (.getfield 180, 3) := by decide +kernel
theorem dX8_toMortar_65 : decode cX8_toMortar 65 = .ok (.iload 4, 2) := by decide +kernel
theorem dX8_toMortar_67 : decode cX8_toMortar 67 = .ok (.dup2, 1) := by decide +kernel
theorem dX8_toMortar_68 : decode cX8_toMortar 68 = .ok (.iaload, 1) := by decide +kernel
theorem dX8_toMortar_69 : decode cX8_toMortar 69 = .ok (.iconst 1, 1) := by decide +kernel
theorem dX8_toMortar_70 : decode cX8_toMortar 70 = .ok (.iadd, 1) := by decide +kernel
theorem dX8_toMortar_71 : decode cX8_toMortar 71 = .ok (.iastore, 1) := by decide +kernel
theorem dX8_toMortar_72 : decode cX8_toMortar 72 = .ok (.aload_n 0, 1) := by decide +kernel
theorem dX8_toMortar_73 : decode cX8_toMortar 73 = .ok (.iload_n 1, 1) := by decide +kernel
theorem dX8_toMortar_74 : decode cX8_toMortar 74 = .ok (.invokevirtual 240, 3) := by decide +kernel
theorem dX8_toMortar_77 : decode cX8_toMortar 77 = .ok (.pop, 1) := by decide +kernel
theorem dX8_toMortar_78 : decode cX8_toMortar 78 = .ok (.aload_n 0, 1) := by decide +kernel
theorem dX8_toMortar_79 : decode cX8_toMortar 79 = .ok (.getfield 20, 3) := by decide +kernel
theorem dX8_toMortar_82 : decode cX8_toMortar 82 = .ok (.getfield 114, 3) := by decide +kernel
theorem dX8_toMortar_85 : decode cX8_toMortar 85 = .ok (.iload_n 2, 1) := by decide +kernel
theorem dX8_toMortar_86 : decode cX8_toMortar 86 = .ok (.if_icmp .le 14, 3) := by decide +kernel
theorem dX8_toMortar_89 : decode cX8_toMortar 89 = .ok (.aload_n 0, 1) := by decide +kernel
theorem dX8_toMortar_90 : decode cX8_toMortar 90 = .ok (.getfield 20, 3) := by decide +kernel
theorem dX8_toMortar_93 : decode cX8_toMortar 93 = .ok (.getfield 114, 3) := by decide +kernel
theorem dX8_toMortar_96 : decode cX8_toMortar 96 = .ok (.istore_n 2, 1) := by decide +kernel
theorem dX8_toMortar_97 : decode cX8_toMortar 97 = .ok (.iload 4, 2) := by decide +kernel
theorem dX8_toMortar_99 : decode cX8_toMortar 99 = .ok (.istore_n 3, 1) := by decide +kernel
theorem dX8_toMortar_100 : decode cX8_toMortar 100 = .ok (.iinc 4 1, 3) := by decide +kernel
theorem dX8_toMortar_103 : decode cX8_toMortar 103 = .ok (.goto (-76), 3) := by decide +kernel
theorem dX8_toMortar_106 : decode cX8_toMortar 106 = .ok (.iload_n 3, 1) := by decide +kernel
theorem dX8_toMortar_107 : decode cX8_toMortar 107 = .ok (.ireturn, 1) := by decide +kernel
theorem dX8_toProp_0 : decode cX8_toProp 0 = .ok (.iload_n 2, 1) := by decide +kernel
theorem dX8_toProp_1 : decode cX8_toProp 1 = .ok (.iconst 1, 1) := by decide +kernel
theorem dX8_toProp_2 : decode cX8_toProp 2 = .ok (.invokestatic 231, 3) := by decide +kernel
theorem dX8_toProp_5 : decode cX8_toProp 5 = .ok (.iload_n 1, 1) := by decide +kernel
theorem dX8_toProp_6 : decode cX8_toProp 6 = .ok (.invokestatic 252, 3) := by decide +kernel
theorem dX8_toProp_9 : decode cX8_toProp 9 = .ok (.iconst (-1), 1) := by decide +kernel
theorem dX8_toProp_10 : decode cX8_toProp 10 = .ok (.istore_n 3, 1) := by decide +kernel
theorem dX8_toProp_11 : decode cX8_toProp 11 = .ok (.iconst 0, 1) := by decide +kernel
theorem dX8_toProp_12 : decode cX8_toProp 12 = .ok (.istore 4, 2) := by decide +kernel
theorem dX8_toProp_14 : decode cX8_toProp 14 = .ok (.aload_n 0, 1) := by decide +kernel
theorem dX8_toProp_15 : decode cX8_toProp 15 = .ok (.getfield 23, 3) := by decide +kernel
theorem dX8_toProp_18 : decode cX8_toProp 18 = .ok (.aload_n 0, 1) := by decide +kernel
theorem dX8_toProp_19 : decode cX8_toProp 19 = .ok (.getfield 16, 3) := by decide +kernel
theorem dX8_toProp_22 : decode cX8_toProp 22 = .ok (.invokevirtual 106, 3) := by decide +kernel
theorem dX8_toProp_25 : decode cX8_toProp 25 = .ok (.iconst 0, 1) := by decide +kernel
theorem dX8_toProp_26 : decode cX8_toProp 26 = .ok (.istore 5, 2) := by decide +kernel
theorem dX8_toProp_28 : decode cX8_toProp 28 = .ok (.iload 5, 2) := by decide +kernel
theorem dX8_toProp_30 : decode cX8_toProp 30 = .ok (.iload_n 1, 1) := by decide +kernel
theorem dX8_toProp_31 : decode cX8_toProp 31 = .ok (.if_icmp .gt 85, 3) := by decide +kernel
theorem dX8_toProp_34 : decode cX8_toProp 34 = .ok (.aload_n 0, 1) := by decide +kernel
theorem dX8_toProp_35 : decode cX8_toProp 35 = .ok (.getfield 20, 3) := by decide +kernel
theorem dX8_toProp_38 : decode cX8_toProp 38 = .ok (.aload_n 0, 1) := by decide +kernel
theorem dX8_toProp_39 : decode cX8_toProp 39 = .ok (.getfield 23, 3) := by decide +kernel
theorem dX8_toProp_42 : decode cX8_toProp 42 = .ok (.invokevirtual 106, 3) := by decide +kernel
theorem dX8_toProp_45 : decode cX8_toProp 45 = .ok (.aload_n 0, 1) := by decide +kernel
theorem dX8_toProp_46 : decode cX8_toProp 46 = .ok (.getfield 20, 3) := by decide +kernel
theorem dX8_toProp_49 : decode cX8_toProp 49 = .ok (.iconst 0, 1) := by decide +kernel
theorem dX8_toProp_50 : decode cX8_toProp 50 = .ok (.putfield 129, 3) := by decide +kernel
theorem dX8_toProp_53 : decode cX8_toProp 53 = .ok (.aload_n 0, 1) := by decide +kernel
theorem dX8_toProp_54 : decode cX8_toProp 54 = .ok (.iload_n 1, 1) := by decide +kernel
theorem dX8_toProp_55 : decode cX8_toProp 55 = .ok (.iload 5, 2) := by decide +kernel
theorem dX8_toProp_57 : decode cX8_toProp 57 = .ok (.isub, 1) := by decide +kernel
theorem dX8_toProp_58 : decode cX8_toProp 58 = .ok (.invokevirtual 240, 3) := by decide +kernel
theorem dX8_toProp_61 : decode cX8_toProp 61 = .ok (.pop, 1) := by decide +kernel
theorem dX8_toProp_62 : decode cX8_toProp 62 = .ok (.aload_n 0, 1) := by decide +kernel
theorem dX8_toProp_63 : decode cX8_toProp 63 = .ok (.getfield 20, 3) := by decide +kernel
theorem dX8_toProp_66 : decode cX8_toProp 66 = .ok (.getfield 114, 3) := by decide +kernel
theorem dX8_toProp_69 : decode cX8_toProp 69 = .ok (.iload_n 3, 1) := by decide +kernel
theorem dX8_toProp_70 : decode cX8_toProp 70 = .ok (.if_icmp .le 15, 3) := by decide +kernel
theorem dX8_toProp_73 : decode cX8_toProp 73 = .ok (.aload_n 0, 1) := by decide +kernel
theorem dX8_toProp_74 : decode cX8_toProp 74 = .ok (.getfield 20, 3) := by decide +kernel
theorem dX8_toProp_77 : decode cX8_toProp 77 = .ok (.getfield 114, 3) := by decide +kernel
theorem dX8_toProp_80 : decode cX8_toProp 80 = .ok (.istore_n 3, 1) := by decide +kernel
theorem dX8_toProp_81 : decode cX8_toProp 81 = .ok (.iload 5, 2) := by decide +kernel
theorem dX8_toProp_83 : decode cX8_toProp 83 = .ok (.istore 4, 2) := by decide +kernel
theorem dX8_toProp_85 : decode cX8_toProp 85 = .ok (.aload_n 0, 1) := by decide +kernel
theorem dX8_toProp_86 : decode cX8_toProp 86 = .ok (.getfield 23, 3) := by decide +kernel
theorem dX8_toProp_89 : decode cX8_toProp 89 = .ok (.aload_n 0, 1) := by decide +kernel
theorem dX8_toProp_90 : decode cX8_toProp 90 = .ok (.getfield 66, 3) := by decide +kernel
theorem dX8_toProp_93 : decode cX8_toProp 93 = .ok (.aload_n 0, 1) := by decide +kernel
theorem dX8_toProp_94 : decode cX8_toProp 94 = .ok (.getfield 66, 3) := by decide +kernel
theorem dX8_toProp_97 : decode cX8_toProp 97 = .ok (.aload_n 0, 1) := by decide +kernel
theorem dX8_toProp_98 : decode cX8_toProp 98 = .ok (.getfield 23, 3) := by decide +kernel
theorem dX8_toProp_101 : decode cX8_toProp 101 = .ok (.getfield 123, 3) := by decide +kernel
theorem dX8_toProp_104 : decode cX8_toProp 104 = .ok (.invokevirtual 206, 3) := by decide +kernel
theorem dX8_toProp_107 : decode cX8_toProp 107 = .ok (.invokevirtual 209, 3) := by decide +kernel
theorem dX8_toProp_110 : decode cX8_toProp 110 = .ok (.iinc 5 1, 3) := by decide +kernel
theorem dX8_toProp_113 : decode cX8_toProp 113 = .ok (.goto (-85), 3) := by decide +kernel
theorem dX8_toProp_116 : decode cX8_toProp 116 = .ok (.iload_n 2, 1) := by decide +kernel
theorem dX8_toProp_117 : decode cX8_toProp 117 = .ok (.ifCond .ne 8, 3) := by decide +kernel
theorem dX8_toProp_120 : decode cX8_toProp 120 = .ok (.iload 4, 2) := by decide +kernel
theorem dX8_toProp_122 : decode cX8_toProp 122 = .ok (.goto 4, 3) := by decide +kernel
theorem dX8_toProp_125 : decode cX8_toProp 125 = .ok (.iload_n 3, 1) := by decide +kernel
theorem dX8_toProp_126 : decode cX8_toProp 126 = .ok (.ireturn, 1) := by decide +kernel
theorem dX8_see_0 : decode cX8_see 0 = .ok (.iload_n 1, 1) := by decide +kernel
theorem dX8_see_1 : decode cX8_see 1 = .ok (.ifCond .lt 23, 3) := by decide +kernel
theorem dX8_see_4 : decode cX8_see 4 = .ok (.iload_n 1, 1) := by decide +kernel
theorem dX8_see_5 : decode cX8_see 5 = .ok (.bipush 20, 2) := by decide +kernel
theorem dX8_see_7 : decode cX8_see 7 = .ok (.if_icmp .gt 17, 3) := by decide +kernel
theorem dX8_see_10 : decode cX8_see 10 = .ok (.iload_n 2, 1) := by decide +kernel
theorem dX8_see_11 : decode cX8_see 11 = .ok (.ifCond .lt 13, 3) := by decide +kernel
theorem dX8_see_14 : decode cX8_see 14 = .ok (.iload_n 2, 1) := by decide +kernel
theorem dX8_see_15 : decode cX8_see 15 = .ok (.bipush 99, 2) := by decide +kernel
theorem dX8_see_17 : decode cX8_see 17 = .ok (.if_icmp .gt 7, 3) := by decide +kernel
theorem dX8_see_20 : decode cX8_see 20 = .ok (.iconst 1, 1) := by decide +kernel
theorem dX8_see_21 : decode cX8_see 21 = .ok (.goto 4, 3) := by decide +kernel
theorem dX8_see_24 : decode cX8_see 24 = .ok (.iconst 0, 1) := by decide +kernel
theorem dX8_see_25 : decode cX8_see 25 = .ok (.istore_n 3, 1) := by decide +kernel
theorem dX8_see_26 : decode cX8_see 26 = .ok (.iload_n 3, 1) := by decide +kernel
theorem dX8_see_27 : decode cX8_see 27 = .ok (.ifCond .eq 15, 3) := by decide +kernel
theorem dX8_see_30 : decode cX8_see 30 = .ok (.aload_n 0, 1) := by decide +kernel
theorem dX8_see_31 : decode cX8_see 31 = .ok (.getfield 36, 3) := by decide +kernel
theorem dX8_see_34 : decode cX8_see 34 = .ok (.iload_n 1, 1) := by decide +kernel
theorem dX8_see_35 : decode cX8_see 35 = .ok (.iload_n 2, 1) := by decide +kernel
theorem dX8_see_36 : decode cX8_see 36 = .ok (.invokevirtual 292, 3) := by decide +kernel
theorem dX8_see_39 : decode cX8_see 39 = .ok (.ifCond .ne 9, 3) := by decide +kernel
theorem dX8_see_42 : decode cX8_see 42 = .ok (.aload_n 0, 1) := by decide +kernel
theorem dX8_see_43 : decode cX8_see 43 = .ok (.iconst 2, 1) := by decide +kernel
theorem dX8_see_44 : decode cX8_see 44 = .ok (.invokevirtual 200, 3) := by decide +kernel
theorem dX8_see_47 : decode cX8_see 47 = .ok (.ireturn, 1) := by decide +kernel
theorem dX8_see_48 : decode cX8_see 48 = .ok (.aload_n 0, 1) := by decide +kernel
theorem dX8_see_49 : decode cX8_see 49 = .ok (.getfield 36, 3) := by decide +kernel
theorem dX8_see_52 : decode cX8_see 52 = .ok (.getfield 169, 3) := by decide +kernel
theorem dX8_see_55 : decode cX8_see 55 = .ok (.ireturn, 1) := by decide +kernel
theorem dX8_forget_0 : decode cX8_forget 0 = .ok (.aload_n 0, 1) := by decide +kernel
theorem dX8_forget_1 : decode cX8_forget 1 = .ok (.getfield 36, 3) := by decide +kernel
theorem dX8_forget_4 : decode cX8_forget 4 = .ok (.invokevirtual 113, 3) := by decide +kernel
theorem dX8_forget_7 : decode cX8_forget 7 = .ok (.return_, 1) := by decide +kernel
theorem dX8_heavy_0 : decode cX8_heavy 0 = .ok (.iload_n 1, 1) := by decide +kernel
theorem dX8_heavy_1 : decode cX8_heavy 1 = .ok (.iconst 2, 1) := by decide +kernel
theorem dX8_heavy_2 : decode cX8_heavy 2 = .ok (.invokestatic 231, 3) := by decide +kernel
theorem dX8_heavy_5 : decode cX8_heavy 5 = .ok (.iload_n 1, 1) := by decide +kernel
theorem dX8_heavy_6 : decode cX8_heavy 6 = .ok (.iconst 2, 1) := by decide +kernel
theorem dX8_heavy_7 : decode cX8_heavy 7 = .ok (.if_icmp .ne 20, 3) := by decide +kernel
theorem dX8_heavy_10 : decode cX8_heavy 10 = .ok (.aload_n 0, 1) := by decide +kernel
theorem dX8_heavy_11 : decode cX8_heavy 11 = .ok (.invokevirtual 237, 3) := by decide +kernel
theorem dX8_heavy_14 : decode cX8_heavy 14 = .ok (.aload_n 0, 1) := by decide +kernel
theorem dX8_heavy_15 : decode cX8_heavy 15 = .ok (.invokevirtual 295, 3) := by decide +kernel
theorem dX8_heavy_18 : decode cX8_heavy 18 = .ok (.ifCond .eq 7, 3) := by decide +kernel
theorem dX8_heavy_21 : decode cX8_heavy 21 = .ok (.iconst 1, 1) := by decide +kernel
theorem dX8_heavy_22 : decode cX8_heavy 22 = .ok (.goto 4, 3) := by decide +kernel
theorem dX8_heavy_25 : decode cX8_heavy 25 = .ok (.iconst 0, 1) := by decide +kernel
theorem dX8_heavy_26 : decode cX8_heavy 26 = .ok (.ireturn, 1) := by decide +kernel
theorem dX8_heavy_27 : decode cX8_heavy 27 = .ok (.iconst 0, 1) := by decide +kernel
theorem dX8_heavy_28 : decode cX8_heavy 28 = .ok (.istore_n 2, 1) := by decide +kernel
theorem dX8_heavy_29 : decode cX8_heavy 29 = .ok (.iconst (-1), 1) := by decide +kernel
theorem dX8_heavy_30 : decode cX8_heavy 30 = .ok (.istore_n 3, 1) := by decide +kernel
theorem dX8_heavy_31 : decode cX8_heavy 31 = .ok (.iconst 0, 1) := by decide +kernel
theorem dX8_heavy_32 : decode cX8_heavy 32 = .ok (.istore 4, 2) := by decide +kernel
theorem dX8_heavy_34 : decode cX8_heavy 34 = .ok (.iload 4, 2) := by decide +kernel
theorem dX8_heavy_36 : decode cX8_heavy 36 = .ok (.aload_n 0, 1) := by decide +kernel
theorem dX8_heavy_37 : decode cX8_heavy 37 = .ok (.getfield 16, 3) := by decide +kernel
theorem dX8_heavy_40 : decode cX8_heavy 40 = .ok (.getfield 114, 3) := by decide +kernel
theorem dX8_heavy_43 : decode cX8_heavy 43 = .ok (.if_icmp .ge 56, 3) := by decide +kernel
theorem dX8_heavy_46 : decode cX8_heavy 46 = .ok (.iconst 1, 1) := by decide +kernel
theorem dX8_heavy_47 : decode cX8_heavy 47 = .ok (.istore 5, 2) := by decide +kernel
theorem dX8_heavy_49 : decode cX8_heavy 49 = .ok (.iload 5, 2) := by decide +kernel
theorem dX8_heavy_51 : decode cX8_heavy 51 = .ok (.bipush 9, 2) := by decide +kernel
theorem dX8_heavy_53 : decode cX8_heavy 53 = .ok (.if_icmp .gt 40, 3) := by decide +kernel
theorem dX8_heavy_56 : decode cX8_heavy 56 = .ok (.aload_n 0, 1) := by decide +kernel
theorem dX8_heavy_57 : decode cX8_heavy 57 = .ok (.iload 4, 2) := by decide +kernel
theorem dX8_heavy_59 : decode cX8_heavy 59 = .ok (.iload 5, 2) := by decide +kernel
theorem dX8_heavy_61 : decode cX8_heavy 61 = .ok (.invokevirtual 299, 3) := by decide +kernel
theorem dX8_heavy_64 : decode cX8_heavy 64 = .ok (.ifCond .eq 23, 3) := by decide +kernel
theorem dX8_heavy_67 : decode cX8_heavy 67 = .ok (.iload_n 2, 1) := by decide +kernel
theorem dX8_heavy_68 : decode cX8_heavy 68 = .ok (.ifCond .ne 14, 3) := by decide +kernel
theorem dX8_heavy_71 : decode cX8_heavy 71 = .ok (.bipush 10, 2) := by decide +kernel
theorem dX8_heavy_73 : decode cX8_heavy 73 = .ok (.iload 4, 2) := by decide +kernel
theorem dX8_heavy_75 : decode cX8_heavy 75 = .ok (.imul, 1) := by decide +kernel
theorem dX8_heavy_76 : decode cX8_heavy 76 = .ok (.iload 5, 2) := by decide +kernel
theorem dX8_heavy_78 : decode cX8_heavy 78 = .ok (.iadd, 1) := by decide +kernel
theorem dX8_heavy_79 : decode cX8_heavy 79 = .ok (.goto 4, 3) := by decide +kernel
theorem dX8_heavy_82 : decode cX8_heavy 82 = .ok (.iload_n 3, 1) := by decide +kernel
theorem dX8_heavy_83 : decode cX8_heavy 83 = .ok (.istore_n 3, 1) := by decide +kernel
theorem dX8_heavy_84 : decode cX8_heavy 84 = .ok (.iinc 2 1, 3) := by decide +kernel
theorem dX8_heavy_87 : decode cX8_heavy 87 = .ok (.iinc 5 1, 3) := by decide +kernel
theorem dX8_heavy_90 : decode cX8_heavy 90 = .ok (.goto (-41), 3) := by decide +kernel
theorem dX8_heavy_93 : decode cX8_heavy 93 = .ok (.iinc 4 1, 3) := by decide +kernel
theorem dX8_heavy_96 : decode cX8_heavy 96 = .ok (.goto (-62), 3) := by decide +kernel
theorem dX8_heavy_99 : decode cX8_heavy 99 = .ok (.iload_n 1, 1) := by decide +kernel
theorem dX8_heavy_100 : decode cX8_heavy 100 = .ok (.ifCond .ne 7, 3) := by decide +kernel
theorem dX8_heavy_103 : decode cX8_heavy 103 = .ok (.iload_n 2, 1) := by decide +kernel
theorem dX8_heavy_104 : decode cX8_heavy 104 = .ok (.goto 4, 3) := by decide +kernel
theorem dX8_heavy_107 : decode cX8_heavy 107 = .ok (.iload_n 3, 1) := by decide +kernel
theorem dX8_heavy_108 : decode cX8_heavy 108 = .ok (.ireturn, 1) := by decide +kernel
theorem dX8_maybeHeavy_0 : decode cX8_maybeHeavy 0 = .ok (.aload_n 0, 1) := by decide +kernel
theorem dX8_maybeHeavy_1 : decode cX8_maybeHeavy 1 = .ok (.getfield 16, 3) := by decide +kernel
theorem dX8_maybeHeavy_4 : decode cX8_maybeHeavy 4 = .ok (.getfield 177, 3) := by decide +kernel
theorem dX8_maybeHeavy_7 : decode cX8_maybeHeavy 7 = .ok (.iload_n 1, 1) := by decide +kernel
theorem dX8_maybeHeavy_8 : decode cX8_maybeHeavy 8 = .ok (.iaload, 1) := by decide +kernel
theorem dX8_maybeHeavy_9 : decode cX8_maybeHeavy 9 = .ok (.iload_n 2, 1) := by decide +kernel
theorem dX8_maybeHeavy_10 : decode cX8_maybeHeavy 10 = .ok (.if_icmp .ne 5, 3) := by decide +kernel
theorem dX8_maybeHeavy_13 : decode cX8_maybeHeavy 13 = .ok (.iconst 0, 1) := by decide +kernel
theorem dX8_maybeHeavy_14 : decode cX8_maybeHeavy 14 = .ok (.ireturn, 1) := by decide +kernel
theorem dX8_maybeHeavy_15 : decode cX8_maybeHeavy 15 = .ok (.aload_n 0, 1) := by decide +kernel
theorem dX8_maybeHeavy_16 : decode cX8_maybeHeavy 16 = .ok (.invokevirtual 237, 3) := by decide +kernel
theorem dX8_maybeHeavy_19 : decode cX8_maybeHeavy 19 = .ok (.aload_n 0, 1) := by decide +kernel
theorem dX8_maybeHeavy_20 : decode cX8_maybeHeavy 20 = .ok (.getfield 20, 3) := by decide +kernel
theorem dX8_maybeHeavy_23 : decode cX8_maybeHeavy 23 = .ok (.getfield 177, 3) := by decide +kernel
theorem dX8_maybeHeavy_26 : decode cX8_maybeHeavy 26 = .ok (.iload_n 1, 1) := by decide +kernel
theorem dX8_maybeHeavy_27 : decode cX8_maybeHeavy 27 = .ok (.iload_n 2, 1) := by decide +kernel
theorem dX8_maybeHeavy_28 : decode cX8_maybeHeavy 28 = .ok (.iastore, 1) := by decide +kernel
theorem dX8_maybeHeavy_29 : decode cX8_maybeHeavy 29 = .ok (.aload_n 0, 1) := by decide +kernel
theorem dX8_maybeHeavy_30 : decode cX8_maybeHeavy 30 = .ok (.invokevirtual 295, 3) := by decide +kernel
theorem dX8_maybeHeavy_33 : decode cX8_maybeHeavy 33 = .ok (.ireturn, 1) := by decide +kernel
theorem dX8_leansAsSeen_0 : decode cX8_leansAsSeen 0 = .ok (.aload_n 0, 1) := by decide +kernel
theorem dX8_leansAsSeen_1 : decode cX8_leansAsSeen 1 = .ok (.getfield 36, 3) := by decide +kernel
theorem dX8_leansAsSeen_4 : decode cX8_leansAsSeen 4 = .ok (.invokevirtual 302, 3) := by decide +kernel
theorem dX8_leansAsSeen_7 : decode cX8_leansAsSeen 7 = .ok (.istore_n 1, 1) := by decide +kernel
theorem dX8_leansAsSeen_8 : decode cX8_leansAsSeen 8 = .ok (.iconst 0, 1) := by decide +kernel
theorem dX8_leansAsSeen_9 : decode cX8_leansAsSeen 9 = .ok (.istore_n 2, 1) := by decide +kernel
theorem dX8_leansAsSeen_10 : decode cX8_leansAsSeen 10 = .ok (.iload_n 2, 1) := by decide +kernel
theorem dX8_leansAsSeen_11 : decode cX8_leansAsSeen 11 = .ok (.iload_n 1, 1) := by decide +kernel
theorem dX8_leansAsSeen_12 : decode cX8_leansAsSeen 12 = .ok (.if_icmp .gt 38, 3) := by decide +kernel
theorem dX8_leansAsSeen_15 : decode cX8_leansAsSeen 15 = .ok (.aload_n 0, 1) := by decide +kernel
theorem dX8_leansAsSeen_16 : decode cX8_leansAsSeen 16 = .ok (.getfield 36, 3) := by decide +kernel
theorem dX8_leansAsSeen_19 : decode cX8_leansAsSeen 19 = .ok (.iload_n 2, 1) := by decide +kernel
theorem dX8_leansAsSeen_20 : decode cX8_leansAsSeen 20 = .ok (.aload_n 0, 1) := by decide +kernel
theorem dX8_leansAsSeen_21 : decode cX8_leansAsSeen 21 = .ok (.getfield 20, 3) := by decide +kernel
theorem dX8_leansAsSeen_24 : decode cX8_leansAsSeen 24 = .ok (.getfield 129, 3) := by decide +kernel
theorem dX8_leansAsSeen_27 : decode cX8_leansAsSeen 27 = .ok (.invokevirtual 305, 3) := by decide +kernel
theorem dX8_leansAsSeen_30 : decode cX8_leansAsSeen 30 = .ok (.ifCond .ne 5, 3) := by decide +kernel
theorem dX8_leansAsSeen_33 : decode cX8_leansAsSeen 33 = .ok (.iconst 0, 1) := by decide +kernel
theorem dX8_leansAsSeen_34 : decode cX8_leansAsSeen 34 = .ok (.ireturn, 1) := by decide +kernel
theorem dX8_leansAsSeen_35 : decode cX8_leansAsSeen 35 = .ok (.iload_n 2, 1) := by decide +kernel
theorem dX8_leansAsSeen_36 : decode cX8_leansAsSeen 36 = .ok (.iload_n 1, 1) := by decide +kernel
theorem dX8_leansAsSeen_37 : decode cX8_leansAsSeen 37 = .ok (.if_icmp .ge 7, 3) := by decide +kernel
theorem dX8_leansAsSeen_40 : decode cX8_leansAsSeen 40 = .ok (.aload_n 0, 1) := by decide +kernel
theorem dX8_leansAsSeen_41 : decode cX8_leansAsSeen 41 = .ok (.invokevirtual 243, 3) := by decide +kernel
theorem dX8_leansAsSeen_44 : decode cX8_leansAsSeen 44 = .ok (.iinc 2 1, 3) := by decide +kernel
theorem dX8_leansAsSeen_47 : decode cX8_leansAsSeen 47 = .ok (.goto (-37), 3) := by decide +kernel
theorem dX8_leansAsSeen_50 : decode cX8_leansAsSeen 50 = .ok (.iconst 1, 1) := by decide +kernel
theorem dX8_leansAsSeen_51 : decode cX8_leansAsSeen 51 = .ok (.ireturn, 1) := by decide +kernel
theorem dX8_look_0 : decode cX8_look 0 = .ok (.iload_n 1, 1) := by decide +kernel
theorem dX8_look_1 : decode cX8_look 1 = .ok (.iconst 1, 1) := by decide +kernel
theorem dX8_look_2 : decode cX8_look 2 = .ok (.invokestatic 231, 3) := by decide +kernel
theorem dX8_look_5 : decode cX8_look 5 = .ok (.aload_n 0, 1) := by decide +kernel
theorem dX8_look_6 : decode cX8_look 6 = .ok (.getfield 49, 3) := by decide +kernel
theorem dX8_look_9 : decode cX8_look 9 = .ok (.lconst 0, 1) := by decide +kernel
theorem dX8_look_10 : decode cX8_look 10 = .ok (.invokestatic 308, 3) := by decide +kernel
theorem dX8_look_13 : decode cX8_look 13 = .ok (.iconst 0, 1) := by decide +kernel
theorem dX8_look_14 : decode cX8_look 14 = .ok (.istore_n 2, 1) := by decide +kernel
theorem dX8_look_15 : decode cX8_look 15 = .ok (.iload_n 2, 1) := by decide +kernel
theorem dX8_look_16 : decode cX8_look 16 = .ok (.aload_n 0, 1) := by decide +kernel
theorem dX8_look_17 : decode cX8_look 17 = .ok (.getfield 16, 3) := by decide +kernel
theorem dX8_look_20 : decode cX8_look 20 = .ok (.getfield 114, 3) := by decide +kernel
theorem dX8_look_23 : decode cX8_look 23 = .ok (.if_icmp .ge 38, 3) := by decide +kernel
theorem dX8_look_26 : decode cX8_look 26 = .ok (.iconst 1, 1) := by decide +kernel
theorem dX8_look_27 : decode cX8_look 27 = .ok (.istore_n 3, 1) := by decide +kernel
theorem dX8_look_28 : decode cX8_look 28 = .ok (.iload_n 3, 1) := by decide +kernel
theorem dX8_look_29 : decode cX8_look 29 = .ok (.bipush 9, 2) := by decide +kernel
theorem dX8_look_31 : decode cX8_look 31 = .ok (.if_icmp .gt 24, 3) := by decide +kernel
theorem dX8_look_34 : decode cX8_look 34 = .ok (.aload_n 0, 1) := by decide +kernel
theorem dX8_look_35 : decode cX8_look 35 = .ok (.iload_n 2, 1) := by decide +kernel
theorem dX8_look_36 : decode cX8_look 36 = .ok (.iload_n 3, 1) := by decide +kernel
theorem dX8_look_37 : decode cX8_look 37 = .ok (.invokevirtual 299, 3) := by decide +kernel
theorem dX8_look_40 : decode cX8_look 40 = .ok (.ifCond .eq 9, 3) := by decide +kernel
theorem dX8_look_43 : decode cX8_look 43 = .ok (.aload_n 0, 1) := by decide +kernel
theorem dX8_look_44 : decode cX8_look 44 = .ok (.iload_n 2, 1) := by decide +kernel
theorem dX8_look_45 : decode cX8_look 45 = .ok (.iload_n 3, 1) := by decide +kernel
theorem dX8_look_46 : decode cX8_look 46 = .ok (.invokevirtual 314, 3) := by decide +kernel
theorem dX8_look_49 : decode cX8_look 49 = .ok (.iinc 3 1, 3) := by decide +kernel
theorem dX8_look_52 : decode cX8_look 52 = .ok (.goto (-24), 3) := by decide +kernel
theorem dX8_look_55 : decode cX8_look 55 = .ok (.iinc 2 1, 3) := by decide +kernel
theorem dX8_look_58 : decode cX8_look 58 = .ok (.goto (-43), 3) := by decide +kernel
theorem dX8_look_61 : decode cX8_look 61 = .ok (.iconst 0, 1) := by decide +kernel
theorem dX8_look_62 : decode cX8_look 62 = .ok (.istore_n 2, 1) := by decide +kernel
theorem dX8_look_63 : decode cX8_look 63 = .ok (.iconst (-1), 1) := by decide +kernel
theorem dX8_look_64 : decode cX8_look 64 = .ok (.istore_n 3, 1) := by decide +kernel
theorem dX8_look_65 : decode cX8_look 65 = .ok (.iconst 0, 1) := by decide +kernel
theorem dX8_look_66 : decode cX8_look 66 = .ok (.istore 4, 2) := by decide +kernel
theorem dX8_look_68 : decode cX8_look 68 = .ok (.iload 4, 2) := by decide +kernel
theorem dX8_look_70 : decode cX8_look 70 = .ok (.iconst 5, 1) := by decide +kernel
theorem dX8_look_71 : decode cX8_look 71 = .ok (.if_icmp .ge 52, 3) := by decide +kernel
theorem dX8_look_74 : decode cX8_look 74 = .ok (.aload_n 0, 1) := by decide +kernel
theorem dX8_look_75 : decode cX8_look 75 = .ok (.getfield 49, 3) := by decide +kernel
theorem dX8_look_78 : decode cX8_look 78 = .ok (.iconst 2, 1) := by decide +kernel
theorem dX8_look_79 : decode cX8_look 79 = .ok (.iload 4, 2) := by decide +kernel
theorem dX8_look_81 : decode cX8_look 81 = .ok (.imul, 1) := by decide +kernel
theorem dX8_look_82 : decode cX8_look 82 = .ok (.laload, 1) := by decide +kernel
theorem dX8_look_83 : decode cX8_look 83 = .ok (.invokestatic 317, 3) := by decide +kernel
theorem dX8_look_86 : decode cX8_look 86 = .ok (.aload_n 0, 1) := by decide +kernel
theorem dX8_look_87 : decode cX8_look 87 = .ok (.getfield 49, 3) := by decide +kernel
theorem dX8_look_90 : decode cX8_look 90 = .ok (.iconst 2, 1) := by decide +kernel
theorem dX8_look_91 : decode cX8_look 91 = .ok (.iload 4, 2) := by decide +kernel
theorem dX8_look_93 : decode cX8_look 93 = .ok (.imul, 1) := by decide +kernel
theorem dX8_look_94 : decode cX8_look 94 = .ok (.iconst 1, 1) := by decide +kernel
theorem dX8_look_95 : decode cX8_look 95 = .ok (.iadd, 1) := by decide +kernel
theorem dX8_look_96 : decode cX8_look 96 = .ok (.laload, 1) := by decide +kernel
theorem dX8_look_97 : decode cX8_look 97 = .ok (.invokestatic 317, 3) := by decide +kernel
theorem dX8_look_100 : decode cX8_look 100 = .ok (.iadd, 1) := by decide +kernel
theorem dX8_look_101 : decode cX8_look 101 = .ok (.istore 5, 2) := by decide +kernel
theorem dX8_look_103 : decode cX8_look 103 = .ok (.iload 5, 2) := by decide +kernel
theorem dX8_look_105 : decode cX8_look 105 = .ok (.iload_n 2, 1) := by decide +kernel
theorem dX8_look_106 : decode cX8_look 106 = .ok (.if_icmp .le 11, 3) := by decide +kernel
theorem dX8_look_109 : decode cX8_look 109 = .ok (.iload 5, 2) := by decide +kernel
theorem dX8_look_111 : decode cX8_look 111 = .ok (.istore_n 2, 1) := by decide +kernel
theorem dX8_look_112 : decode cX8_look 112 = .ok (.iload 4, 2) := by decide +kernel
theorem dX8_look_114 : decode cX8_look 114 = .ok (.iconst 1, 1) := by decide +kernel
theorem dX8_look_115 : decode cX8_look 115 = .ok (.iadd, 1) := by decide +kernel
theorem dX8_look_116 : decode cX8_look 116 = .ok (.istore_n 3, 1) := by decide +kernel
theorem dX8_look_117 : decode cX8_look 117 = .ok (.iinc 4 1, 3) := by decide +kernel
theorem dX8_look_120 : decode cX8_look 120 = .ok (.goto (-52), 3) := by decide +kernel
theorem dX8_look_123 : decode cX8_look 123 = .ok (.iload_n 1, 1) := by decide +kernel
theorem dX8_look_124 : decode cX8_look 124 = .ok (.ifCond .ne 7, 3) := by decide +kernel
theorem dX8_look_127 : decode cX8_look 127 = .ok (.iload_n 3, 1) := by decide +kernel
theorem dX8_look_128 : decode cX8_look 128 = .ok (.goto 4, 3) := by decide +kernel
theorem dX8_look_131 : decode cX8_look 131 = .ok (.iload_n 2, 1) := by decide +kernel
theorem dX8_look_132 : decode cX8_look 132 = .ok (.ireturn, 1) := by decide +kernel
theorem dX8_meetLeans_0 : decode cX8_meetLeans 0 = .ok (.aload_n 0, 1) := by decide +kernel
theorem dX8_meetLeans_1 : decode cX8_meetLeans 1 = .ok (.invokevirtual 237, 3) := by decide +kernel
theorem dX8_meetLeans_4 : decode cX8_meetLeans 4 = .ok (.aload_n 0, 1) := by decide +kernel
theorem dX8_meetLeans_5 : decode cX8_meetLeans 5 = .ok (.getfield 20, 3) := by decide +kernel
theorem dX8_meetLeans_8 : decode cX8_meetLeans 8 = .ok (.getfield 177, 3) := by decide +kernel
theorem dX8_meetLeans_11 : decode cX8_meetLeans 11 = .ok (.iload_n 1, 1) := by decide +kernel
theorem dX8_meetLeans_12 : decode cX8_meetLeans 12 = .ok (.iload_n 2, 1) := by decide +kernel
theorem dX8_meetLeans_13 : decode cX8_meetLeans 13 = .ok (.iastore, 1) := by decide +kernel
theorem dX8_meetLeans_14 : decode cX8_meetLeans 14 = .ok (.iconst 0, 1) := by decide +kernel
theorem dX8_meetLeans_15 : decode cX8_meetLeans 15 = .ok (.istore_n 3, 1) := by decide +kernel
theorem dX8_meetLeans_16 : decode cX8_meetLeans 16 = .ok (.iload_n 3, 1) := by decide +kernel
theorem dX8_meetLeans_17 : decode cX8_meetLeans 17 = .ok (.iconst 5, 1) := by decide +kernel
theorem dX8_meetLeans_18 : decode cX8_meetLeans 18 = .ok (.if_icmp .ge 49, 3) := by decide +kernel
theorem dX8_meetLeans_21 : decode cX8_meetLeans 21 = .ok (.aload_n 0, 1) := by decide +kernel
theorem dX8_meetLeans_22 : decode cX8_meetLeans 22 = .ok (.invokevirtual 243, 3) := by decide +kernel
theorem dX8_meetLeans_25 : decode cX8_meetLeans 25 = .ok (.aload_n 0, 1) := by decide +kernel
theorem dX8_meetLeans_26 : decode cX8_meetLeans 26 = .ok (.getfield 49, 3) := by decide +kernel
theorem dX8_meetLeans_29 : decode cX8_meetLeans 29 = .ok (.iconst 2, 1) := by decide +kernel
theorem dX8_meetLeans_30 : decode cX8_meetLeans 30 = .ok (.iload_n 3, 1) := by decide +kernel
theorem dX8_meetLeans_31 : decode cX8_meetLeans 31 = .ok (.imul, 1) := by decide +kernel
theorem dX8_meetLeans_32 : decode cX8_meetLeans 32 = .ok (.aload_n 0, 1) := by decide +kernel
theorem dX8_meetLeans_33 : decode cX8_meetLeans 33 = .ok (.getfield 20, 3) := by decide +kernel
theorem dX8_meetLeans_36 : decode cX8_meetLeans 36 = .ok (.getfield 129, 3) := by decide +kernel
theorem dX8_meetLeans_39 : decode cX8_meetLeans 39 = .ok (.bipush 6, 2) := by decide +kernel
theorem dX8_meetLeans_41 : decode cX8_meetLeans 41 = .ok (.ishr, 1) := by decide +kernel
theorem dX8_meetLeans_42 : decode cX8_meetLeans 42 = .ok (.iconst 1, 1) := by decide +kernel
theorem dX8_meetLeans_43 : decode cX8_meetLeans 43 = .ok (.iand, 1) := by decide +kernel
theorem dX8_meetLeans_44 : decode cX8_meetLeans 44 = .ok (.iadd, 1) := by decide +kernel
theorem dX8_meetLeans_45 : decode cX8_meetLeans 45 = .ok (.dup2, 1) := by decide +kernel
theorem dX8_meetLeans_46 : decode cX8_meetLeans 46 = .ok (.laload, 1) := by decide +kernel
theorem dX8_meetLeans_47 : decode cX8_meetLeans 47 = .ok (.lconst 1, 1) := by decide +kernel
theorem dX8_meetLeans_48 : decode cX8_meetLeans 48 = .ok (.aload_n 0, 1) := by decide +kernel
theorem dX8_meetLeans_49 : decode cX8_meetLeans 49 = .ok (.getfield 20, 3) := by decide +kernel
theorem dX8_meetLeans_52 : decode cX8_meetLeans 52 = .ok (.getfield 129, 3) := by decide +kernel
theorem dX8_meetLeans_55 : decode cX8_meetLeans 55 = .ok (.bipush 63, 2) := by decide +kernel
theorem dX8_meetLeans_57 : decode cX8_meetLeans 57 = .ok (.iand, 1) := by decide +kernel
theorem dX8_meetLeans_58 : decode cX8_meetLeans 58 = .ok (.lshl, 1) := by decide +kernel
theorem dX8_meetLeans_59 : decode cX8_meetLeans 59 = .ok (.lor, 1) := by decide +kernel
theorem dX8_meetLeans_60 : decode cX8_meetLeans 60 = .ok (.lastore, 1) := by decide +kernel
theorem dX8_meetLeans_61 : decode cX8_meetLeans 61 = .ok (.iinc 3 1, 3) := by decide +kernel
theorem dX8_meetLeans_64 : decode cX8_meetLeans 64 = .ok (.goto (-48), 3) := by decide +kernel
theorem dX8_meetLeans_67 : decode cX8_meetLeans 67 = .ok (.return_, 1) := by decide +kernel
theorem dX8_gales_0 : decode cX8_gales 0 = .ok (.iload_n 1, 1) := by decide +kernel
theorem dX8_gales_1 : decode cX8_gales 1 = .ok (.iconst 1, 1) := by decide +kernel
theorem dX8_gales_2 : decode cX8_gales 2 = .ok (.if_icmp .lt 8, 3) := by decide +kernel
theorem dX8_gales_5 : decode cX8_gales 5 = .ok (.iload_n 1, 1) := by decide +kernel
theorem dX8_gales_6 : decode cX8_gales 6 = .ok (.iconst 5, 1) := by decide +kernel
theorem dX8_gales_7 : decode cX8_gales 7 = .ok (.if_icmp .le 14, 3) := by decide +kernel
theorem dX8_gales_10 : decode cX8_gales 10 = .ok (.new 85, 3) := by decide +kernel
theorem dX8_gales_13 : decode cX8_gales 13 = .ok (.dup, 1) := by decide +kernel
theorem dX8_gales_14 : decode cX8_gales 14 = .ok (.ldc_w 322, 3) := by decide +kernel
theorem dX8_gales_17 : decode cX8_gales 17 = .ok (.invokespecial 89, 3) := by decide +kernel
theorem dX8_gales_20 : decode cX8_gales 20 = .ok (.athrow, 1) := by decide +kernel
theorem dX8_gales_21 : decode cX8_gales 21 = .ok (.iload_n 2, 1) := by decide +kernel
theorem dX8_gales_22 : decode cX8_gales 22 = .ok (.bipush 10, 2) := by decide +kernel
theorem dX8_gales_24 : decode cX8_gales 24 = .ok (.invokestatic 234, 3) := by decide +kernel
theorem dX8_gales_27 : decode cX8_gales 27 = .ok (.iconst 0, 1) := by decide +kernel
theorem dX8_gales_28 : decode cX8_gales 28 = .ok (.istore_n 3, 1) := by decide +kernel
theorem dX8_gales_29 : decode cX8_gales 29 = .ok (.iconst 0, 1) := by decide +kernel
theorem dX8_gales_30 : decode cX8_gales 30 = .ok (.istore 4, 2) := by decide +kernel
theorem dX8_gales_32 : decode cX8_gales 32 = .ok (.iload 4, 2) := by decide +kernel
theorem dX8_gales_34 : decode cX8_gales 34 = .ok (.iconst 1, 1) := by decide +kernel
theorem dX8_gales_35 : decode cX8_gales 35 = .ok (.iload_n 1, 1) := by decide +kernel
theorem dX8_gales_36 : decode cX8_gales 36 = .ok (.ishl, 1) := by decide +kernel
theorem dX8_gales_37 : decode cX8_gales 37 = .ok (.if_icmp .ge 66, 3) := by decide +kernel
theorem dX8_gales_40 : decode cX8_gales 40 = .ok (.aload_n 0, 1) := by decide +kernel
theorem dX8_gales_41 : decode cX8_gales 41 = .ok (.iload 4, 2) := by decide +kernel
theorem dX8_gales_43 : decode cX8_gales 43 = .ok (.iload_n 1, 1) := by decide +kernel
theorem dX8_gales_44 : decode cX8_gales 44 = .ok (.invokevirtual 324, 3) := by decide +kernel
theorem dX8_gales_47 : decode cX8_gales 47 = .ok (.ifCond .eq 50, 3) := by decide +kernel
theorem dX8_gales_50 : decode cX8_gales 50 = .ok (.iconst 1, 1) := by decide +kernel
theorem dX8_gales_51 : decode cX8_gales 51 = .ok (.istore 5, 2) := by decide +kernel
theorem dX8_gales_53 : decode cX8_gales 53 = .ok (.iconst 0, 1) := by decide +kernel
theorem dX8_gales_54 : decode cX8_gales 54 = .ok (.istore 6, 2) := by decide +kernel
theorem dX8_gales_56 : decode cX8_gales 56 = .ok (.iload 6, 2) := by decide +kernel
theorem dX8_gales_58 : decode cX8_gales 58 = .ok (.iload_n 1, 1) := by decide +kernel
theorem dX8_gales_59 : decode cX8_gales 59 = .ok (.if_icmp .ge 33, 3) := by decide +kernel
theorem dX8_gales_62 : decode cX8_gales 62 = .ok (.iload 5, 2) := by decide +kernel
theorem dX8_gales_64 : decode cX8_gales 64 = .ok (.iload 4, 2) := by decide +kernel
theorem dX8_gales_66 : decode cX8_gales 66 = .ok (.iload 6, 2) := by decide +kernel
theorem dX8_gales_68 : decode cX8_gales 68 = .ok (.ishr, 1) := by decide +kernel
theorem dX8_gales_69 : decode cX8_gales 69 = .ok (.iconst 1, 1) := by decide +kernel
theorem dX8_gales_70 : decode cX8_gales 70 = .ok (.iand, 1) := by decide +kernel
theorem dX8_gales_71 : decode cX8_gales 71 = .ok (.iconst 1, 1) := by decide +kernel
theorem dX8_gales_72 : decode cX8_gales 72 = .ok (.if_icmp .ne 7, 3) := by decide +kernel
theorem dX8_gales_75 : decode cX8_gales 75 = .ok (.iload_n 2, 1) := by decide +kernel
theorem dX8_gales_76 : decode cX8_gales 76 = .ok (.goto 7, 3) := by decide +kernel
theorem dX8_gales_79 : decode cX8_gales 79 = .ok (.bipush 10, 2) := by decide +kernel
theorem dX8_gales_81 : decode cX8_gales 81 = .ok (.iload_n 2, 1) := by decide +kernel
theorem dX8_gales_82 : decode cX8_gales 82 = .ok (.isub, 1) := by decide +kernel
theorem dX8_gales_83 : decode cX8_gales 83 = .ok (.imul, 1) := by decide +kernel
theorem dX8_gales_84 : decode cX8_gales 84 = .ok (.istore 5, 2) := by decide +kernel
theorem dX8_gales_86 : decode cX8_gales 86 = .ok (.iinc 6 1, 3) := by decide +kernel
theorem dX8_gales_89 : decode cX8_gales 89 = .ok (.goto (-33), 3) := by decide +kernel
theorem dX8_gales_92 : decode cX8_gales 92 = .ok (.iload_n 3, 1) := by decide +kernel
theorem dX8_gales_93 : decode cX8_gales 93 = .ok (.iload 5, 2) := by decide +kernel
theorem dX8_gales_95 : decode cX8_gales 95 = .ok (.iadd, 1) := by decide +kernel
theorem dX8_gales_96 : decode cX8_gales 96 = .ok (.istore_n 3, 1) := by decide +kernel
theorem dX8_gales_97 : decode cX8_gales 97 = .ok (.iinc 4 1, 3) := by decide +kernel
theorem dX8_gales_100 : decode cX8_gales 100 = .ok (.goto (-68), 3) := by decide +kernel
theorem dX8_gales_103 : decode cX8_gales 103 = .ok (.iload_n 3, 1) := by decide +kernel
theorem dX8_gales_104 : decode cX8_gales 104 = .ok (.ireturn, 1) := by decide +kernel
theorem dX8_standsInGales_0 : decode cX8_standsInGales 0 = .ok (.aload_n 0, 1) := by decide +kernel
theorem dX8_standsInGales_1 : decode cX8_standsInGales 1 = .ok (.invokevirtual 237, 3) := by decide +kernel
theorem dX8_standsInGales_4 : decode cX8_standsInGales 4 = .ok (.iconst 0, 1) := by decide +kernel
theorem dX8_standsInGales_5 : decode cX8_standsInGales 5 = .ok (.istore_n 3, 1) := by decide +kernel
theorem dX8_standsInGales_6 : decode cX8_standsInGales 6 = .ok (.iload_n 3, 1) := by decide +kernel
theorem dX8_standsInGales_7 : decode cX8_standsInGales 7 = .ok (.iload_n 2, 1) := by decide +kernel
theorem dX8_standsInGales_8 : decode cX8_standsInGales 8 = .ok (.if_icmp .ge 47, 3) := by decide +kernel
theorem dX8_standsInGales_11 : decode cX8_standsInGales 11 = .ok (.aload_n 0, 1) := by decide +kernel
theorem dX8_standsInGales_12 : decode cX8_standsInGales 12 = .ok (.getfield 20, 3) := by decide +kernel
theorem dX8_standsInGales_15 : decode cX8_standsInGales 15 = .ok (.aload_n 0, 1) := by decide +kernel
theorem dX8_standsInGales_16 : decode cX8_standsInGales 16 = .ok (.getfield 66, 3) := by decide +kernel
theorem dX8_standsInGales_19 : decode cX8_standsInGales 19 = .ok (.iload_n 1, 1) := by decide +kernel
theorem dX8_standsInGales_20 : decode cX8_standsInGales 20 = .ok (.iload_n 3, 1) := by decide +kernel
theorem dX8_standsInGales_21 : decode cX8_standsInGales 21 = .ok (.ishr, 1) := by decide +kernel
theorem dX8_standsInGales_22 : decode cX8_standsInGales 22 = .ok (.iconst 1, 1) := by decide +kernel
theorem dX8_standsInGales_23 : decode cX8_standsInGales 23 = .ok (.iand, 1) := by decide +kernel
theorem dX8_standsInGales_24 : decode cX8_standsInGales 24 = .ok (.iconst 1, 1) := by decide +kernel
theorem dX8_standsInGales_25 : decode cX8_standsInGales 25 = .ok (.if_icmp .ne 8, 3) := by decide +kernel
theorem dX8_standsInGales_28 : decode cX8_standsInGales 28 = .ok (.bipush 9, 2) := by decide +kernel
theorem dX8_standsInGales_30 : decode cX8_standsInGales 30 = .ok (.goto 4, 3) := by decide +kernel
theorem dX8_standsInGales_33 : decode cX8_standsInGales 33 = .ok (.iconst 0, 1) := by decide +kernel
theorem dX8_standsInGales_34 : decode cX8_standsInGales 34 = .ok (.invokevirtual 209, 3) := by decide +kernel
theorem dX8_standsInGales_37 : decode cX8_standsInGales 37 = .ok (.aload_n 0, 1) := by decide +kernel
theorem dX8_standsInGales_38 : decode cX8_standsInGales 38 = .ok (.getfield 20, 3) := by decide +kernel
theorem dX8_standsInGales_41 : decode cX8_standsInGales 41 = .ok (.getfield 148, 3) := by decide +kernel
theorem dX8_standsInGales_44 : decode cX8_standsInGales 44 = .ok (.ifCond .le 5, 3) := by decide +kernel
theorem dX8_standsInGales_47 : decode cX8_standsInGales 47 = .ok (.iconst 0, 1) := by decide +kernel
theorem dX8_standsInGales_48 : decode cX8_standsInGales 48 = .ok (.ireturn, 1) := by decide +kernel
theorem dX8_standsInGales_49 : decode cX8_standsInGales 49 = .ok (.iinc 3 1, 3) := by decide +kernel
theorem dX8_standsInGales_52 : decode cX8_standsInGales 52 = .ok (.goto (-46), 3) := by decide +kernel
theorem dX8_standsInGales_55 : decode cX8_standsInGales 55 = .ok (.iconst 1, 1) := by decide +kernel
theorem dX8_standsInGales_56 : decode cX8_standsInGales 56 = .ok (.ireturn, 1) := by decide +kernel
theorem dX8_game_0 : decode cX8_game 0 = .ok (.aload_n 0, 1) := by decide +kernel
theorem dX8_game_1 : decode cX8_game 1 = .ok (.iload_n 1, 1) := by decide +kernel
theorem dX8_game_2 : decode cX8_game 2 = .ok (.invokevirtual 183, 3) := by decide +kernel
theorem dX8_game_5 : decode cX8_game 5 = .ok (.aload_n 0, 1) := by decide +kernel
theorem dX8_game_6 : decode cX8_game 6 = .ok (.iload_n 2, 1) := by decide +kernel
theorem dX8_game_7 : decode cX8_game 7 = .ok (.invokevirtual 183, 3) := by decide +kernel
theorem dX8_game_10 : decode cX8_game 10 = .ok (.iload_n 3, 1) := by decide +kernel
theorem dX8_game_11 : decode cX8_game 11 = .ok (.iconst 1, 1) := by decide +kernel
theorem dX8_game_12 : decode cX8_game 12 = .ok (.invokestatic 231, 3) := by decide +kernel
theorem dX8_game_15 : decode cX8_game 15 = .ok (.iload_n 1, 1) := by decide +kernel
theorem dX8_game_16 : decode cX8_game 16 = .ok (.iload_n 2, 1) := by decide +kernel
theorem dX8_game_17 : decode cX8_game 17 = .ok (.if_icmp .ne 14, 3) := by decide +kernel
theorem dX8_game_20 : decode cX8_game 20 = .ok (.new 85, 3) := by decide +kernel
theorem dX8_game_23 : decode cX8_game 23 = .ok (.dup, 1) := by decide +kernel
theorem dX8_game_24 : decode cX8_game 24 = .ok (.ldc_w 327, 3) := by decide +kernel
theorem dX8_game_27 : decode cX8_game 27 = .ok (.invokespecial 89, 3) := by decide +kernel
theorem dX8_game_30 : decode cX8_game 30 = .ok (.athrow, 1) := by decide +kernel
theorem dX8_game_31 : decode cX8_game 31 = .ok (.iconst 0, 1) := by decide +kernel
theorem dX8_game_32 : decode cX8_game 32 = .ok (.istore 4, 2) := by decide +kernel
theorem dX8_game_34 : decode cX8_game 34 = .ok (.iload 4, 2) := by decide +kernel
theorem dX8_game_36 : decode cX8_game 36 = .ok (.iconst 4, 1) := by decide +kernel
theorem dX8_game_37 : decode cX8_game 37 = .ok (.if_icmp .ge 17, 3) := by decide +kernel
theorem dX8_game_40 : decode cX8_game 40 = .ok (.aload_n 0, 1) := by decide +kernel
theorem dX8_game_41 : decode cX8_game 41 = .ok (.iload_n 1, 1) := by decide +kernel
theorem dX8_game_42 : decode cX8_game 42 = .ok (.iload_n 2, 1) := by decide +kernel
theorem dX8_game_43 : decode cX8_game 43 = .ok (.iload 4, 2) := by decide +kernel
theorem dX8_game_45 : decode cX8_game 45 = .ok (.invokevirtual 329, 3) := by decide +kernel
theorem dX8_game_48 : decode cX8_game 48 = .ok (.iinc 4 1, 3) := by decide +kernel
theorem dX8_game_51 : decode cX8_game 51 = .ok (.goto (-17), 3) := by decide +kernel
theorem dX8_game_54 : decode cX8_game 54 = .ok (.iconst 0, 1) := by decide +kernel
theorem dX8_game_55 : decode cX8_game 55 = .ok (.istore 4, 2) := by decide +kernel
theorem dX8_game_57 : decode cX8_game 57 = .ok (.iconst (-1), 1) := by decide +kernel
theorem dX8_game_58 : decode cX8_game 58 = .ok (.istore 5, 2) := by decide +kernel
theorem dX8_game_60 : decode cX8_game 60 = .ok (.iconst 0, 1) := by decide +kernel
theorem dX8_game_61 : decode cX8_game 61 = .ok (.istore 6, 2) := by decide +kernel
theorem dX8_game_63 : decode cX8_game 63 = .ok (.iload 6, 2) := by decide +kernel
theorem dX8_game_65 : decode cX8_game 65 = .ok (.iconst 4, 1) := by decide +kernel
theorem dX8_game_66 : decode cX8_game 66 = .ok (.if_icmp .ge 45, 3) := by decide +kernel
theorem dX8_game_69 : decode cX8_game 69 = .ok (.aload_n 0, 1) := by decide +kernel
theorem dX8_game_70 : decode cX8_game 70 = .ok (.iload 6, 2) := by decide +kernel
theorem dX8_game_72 : decode cX8_game 72 = .ok (.invokevirtual 333, 3) := by decide +kernel
theorem dX8_game_75 : decode cX8_game 75 = .ok (.ifCond .eq 30, 3) := by decide +kernel
theorem dX8_game_78 : decode cX8_game 78 = .ok (.iload 4, 2) := by decide +kernel
theorem dX8_game_80 : decode cX8_game 80 = .ok (.ifCond .ne 18, 3) := by decide +kernel
theorem dX8_game_83 : decode cX8_game 83 = .ok (.bipush 10, 2) := by decide +kernel
theorem dX8_game_85 : decode cX8_game 85 = .ok (.iload 6, 2) := by decide +kernel
theorem dX8_game_87 : decode cX8_game 87 = .ok (.iconst 1, 1) := by decide +kernel
theorem dX8_game_88 : decode cX8_game 88 = .ok (.ishr, 1) := by decide +kernel
theorem dX8_game_89 : decode cX8_game 89 = .ok (.imul, 1) := by decide +kernel
theorem dX8_game_90 : decode cX8_game 90 = .ok (.iload 6, 2) := by decide +kernel
theorem dX8_game_92 : decode cX8_game 92 = .ok (.iconst 1, 1) := by decide +kernel
theorem dX8_game_93 : decode cX8_game 93 = .ok (.iand, 1) := by decide +kernel
theorem dX8_game_94 : decode cX8_game 94 = .ok (.iadd, 1) := by decide +kernel
theorem dX8_game_95 : decode cX8_game 95 = .ok (.goto 5, 3) := by decide +kernel
theorem dX8_game_98 : decode cX8_game 98 = .ok (.iload 5, 2) := by decide +kernel
theorem dX8_game_100 : decode cX8_game 100 = .ok (.istore 5, 2) := by decide +kernel
theorem dX8_game_102 : decode cX8_game 102 = .ok (.iinc 4 1, 3) := by decide +kernel
theorem dX8_game_105 : decode cX8_game 105 = .ok (.iinc 6 1, 3) := by decide +kernel
theorem dX8_game_108 : decode cX8_game 108 = .ok (.goto (-45), 3) := by decide +kernel
theorem dX8_game_111 : decode cX8_game 111 = .ok (.iload_n 3, 1) := by decide +kernel
theorem dX8_game_112 : decode cX8_game 112 = .ok (.ifCond .ne 8, 3) := by decide +kernel
theorem dX8_game_115 : decode cX8_game 115 = .ok (.iload 4, 2) := by decide +kernel
theorem dX8_game_117 : decode cX8_game 117 = .ok (.goto 5, 3) := by decide +kernel
theorem dX8_game_120 : decode cX8_game 120 = .ok (.iload 5, 2) := by decide +kernel
theorem dX8_game_122 : decode cX8_game 122 = .ok (.ireturn, 1) := by decide +kernel
theorem dX8_playGame_0 : decode cX8_playGame 0 = .ok (.iload_n 3, 1) := by decide +kernel
theorem dX8_playGame_1 : decode cX8_playGame 1 = .ok (.iconst 1, 1) := by decide +kernel
theorem dX8_playGame_2 : decode cX8_playGame 2 = .ok (.ishr, 1) := by decide +kernel
theorem dX8_playGame_3 : decode cX8_playGame 3 = .ok (.istore 4, 2) := by decide +kernel
theorem dX8_playGame_5 : decode cX8_playGame 5 = .ok (.iload_n 3, 1) := by decide +kernel
theorem dX8_playGame_6 : decode cX8_playGame 6 = .ok (.iconst 1, 1) := by decide +kernel
theorem dX8_playGame_7 : decode cX8_playGame 7 = .ok (.iand, 1) := by decide +kernel
theorem dX8_playGame_8 : decode cX8_playGame 8 = .ok (.istore 5, 2) := by decide +kernel
theorem dX8_playGame_10 : decode cX8_playGame 10 = .ok (.aload_n 0, 1) := by decide +kernel
theorem dX8_playGame_11 : decode cX8_playGame 11 = .ok (.invokevirtual 237, 3) := by decide +kernel
theorem dX8_playGame_14 : decode cX8_playGame 14 = .ok (.aload_n 0, 1) := by decide +kernel
theorem dX8_playGame_15 : decode cX8_playGame 15 = .ok (.iload_n 1, 1) := by decide +kernel
theorem dX8_playGame_16 : decode cX8_playGame 16 = .ok (.iload 4, 2) := by decide +kernel
theorem dX8_playGame_18 : decode cX8_playGame 18 = .ok (.invokevirtual 337, 3) := by decide +kernel
theorem dX8_playGame_21 : decode cX8_playGame 21 = .ok (.aload_n 0, 1) := by decide +kernel
theorem dX8_playGame_22 : decode cX8_playGame 22 = .ok (.iload_n 2, 1) := by decide +kernel
theorem dX8_playGame_23 : decode cX8_playGame 23 = .ok (.iload 5, 2) := by decide +kernel
theorem dX8_playGame_25 : decode cX8_playGame 25 = .ok (.invokevirtual 337, 3) := by decide +kernel
theorem dX8_playGame_28 : decode cX8_playGame 28 = .ok (.aload_n 0, 1) := by decide +kernel
theorem dX8_playGame_29 : decode cX8_playGame 29 = .ok (.bipush 6, 2) := by decide +kernel
theorem dX8_playGame_31 : decode cX8_playGame 31 = .ok (.invokevirtual 240, 3) := by decide +kernel
theorem dX8_playGame_34 : decode cX8_playGame 34 = .ok (.pop, 1) := by decide +kernel
theorem dX8_playGame_35 : decode cX8_playGame 35 = .ok (.aload_n 0, 1) := by decide +kernel
theorem dX8_playGame_36 : decode cX8_playGame 36 = .ok (.getfield 53, 3) := by decide +kernel
theorem dX8_playGame_39 : decode cX8_playGame 39 = .ok (.iload_n 3, 1) := by decide +kernel
theorem dX8_playGame_40 : decode cX8_playGame 40 = .ok (.aload_n 0, 1) := by decide +kernel
theorem dX8_playGame_41 : decode cX8_playGame 41 = .ok (.getfield 20, 3) := by decide +kernel
theorem dX8_playGame_44 : decode cX8_playGame 44 = .ok (.getfield 186, 3) := by decide +kernel
theorem dX8_playGame_47 : decode cX8_playGame 47 = .ok (.iload_n 1, 1) := by decide +kernel
theorem dX8_playGame_48 : decode cX8_playGame 48 = .ok (.iaload, 1) := by decide +kernel
theorem dX8_playGame_49 : decode cX8_playGame 49 = .ok (.iconst 2, 1) := by decide +kernel
theorem dX8_playGame_50 : decode cX8_playGame 50 = .ok (.aload_n 0, 1) := by decide +kernel
theorem dX8_playGame_51 : decode cX8_playGame 51 = .ok (.getfield 20, 3) := by decide +kernel
theorem dX8_playGame_54 : decode cX8_playGame 54 = .ok (.getfield 114, 3) := by decide +kernel
theorem dX8_playGame_57 : decode cX8_playGame 57 = .ok (.imul, 1) := by decide +kernel
theorem dX8_playGame_58 : decode cX8_playGame 58 = .ok (.iadd, 1) := by decide +kernel
theorem dX8_playGame_59 : decode cX8_playGame 59 = .ok (.iconst 4, 1) := by decide +kernel
theorem dX8_playGame_60 : decode cX8_playGame 60 = .ok (.iload 4, 2) := by decide +kernel
theorem dX8_playGame_62 : decode cX8_playGame 62 = .ok (.imul, 1) := by decide +kernel
theorem dX8_playGame_63 : decode cX8_playGame 63 = .ok (.isub, 1) := by decide +kernel
theorem dX8_playGame_64 : decode cX8_playGame 64 = .ok (.iastore, 1) := by decide +kernel
theorem dX8_playGame_65 : decode cX8_playGame 65 = .ok (.aload_n 0, 1) := by decide +kernel
theorem dX8_playGame_66 : decode cX8_playGame 66 = .ok (.getfield 53, 3) := by decide +kernel
theorem dX8_playGame_69 : decode cX8_playGame 69 = .ok (.iconst 4, 1) := by decide +kernel
theorem dX8_playGame_70 : decode cX8_playGame 70 = .ok (.iload_n 3, 1) := by decide +kernel
theorem dX8_playGame_71 : decode cX8_playGame 71 = .ok (.iadd, 1) := by decide +kernel
theorem dX8_playGame_72 : decode cX8_playGame 72 = .ok (.aload_n 0, 1) := by decide +kernel
theorem dX8_playGame_73 : decode cX8_playGame 73 = .ok (.getfield 20, 3) := by decide +kernel
theorem dX8_playGame_76 : decode cX8_playGame 76 = .ok (.getfield 186, 3) := by decide +kernel
theorem dX8_playGame_79 : decode cX8_playGame 79 = .ok (.iload_n 2, 1) := by decide +kernel
theorem dX8_playGame_80 : decode cX8_playGame 80 = .ok (.iaload, 1) := by decide +kernel
theorem dX8_playGame_81 : decode cX8_playGame 81 = .ok (.iconst 2, 1) := by decide +kernel
theorem dX8_playGame_82 : decode cX8_playGame 82 = .ok (.aload_n 0, 1) := by decide +kernel
theorem dX8_playGame_83 : decode cX8_playGame 83 = .ok (.getfield 20, 3) := by decide +kernel
theorem dX8_playGame_86 : decode cX8_playGame 86 = .ok (.getfield 114, 3) := by decide +kernel
theorem dX8_playGame_89 : decode cX8_playGame 89 = .ok (.imul, 1) := by decide +kernel
theorem dX8_playGame_90 : decode cX8_playGame 90 = .ok (.iadd, 1) := by decide +kernel
theorem dX8_playGame_91 : decode cX8_playGame 91 = .ok (.iconst 4, 1) := by decide +kernel
theorem dX8_playGame_92 : decode cX8_playGame 92 = .ok (.iload 5, 2) := by decide +kernel
theorem dX8_playGame_94 : decode cX8_playGame 94 = .ok (.imul, 1) := by decide +kernel
theorem dX8_playGame_95 : decode cX8_playGame 95 = .ok (.isub, 1) := by decide +kernel
theorem dX8_playGame_96 : decode cX8_playGame 96 = .ok (.iastore, 1) := by decide +kernel
theorem dX8_playGame_97 : decode cX8_playGame 97 = .ok (.return_, 1) := by decide +kernel
theorem dX8_rests_0 : decode cX8_rests 0 = .ok (.aload_n 0, 1) := by decide +kernel
theorem dX8_rests_1 : decode cX8_rests 1 = .ok (.getfield 53, 3) := by decide +kernel
theorem dX8_rests_4 : decode cX8_rests 4 = .ok (.iload_n 1, 1) := by decide +kernel
theorem dX8_rests_5 : decode cX8_rests 5 = .ok (.iconst 2, 1) := by decide +kernel
theorem dX8_rests_6 : decode cX8_rests 6 = .ok (.ixor, 1) := by decide +kernel
theorem dX8_rests_7 : decode cX8_rests 7 = .ok (.iaload, 1) := by decide +kernel
theorem dX8_rests_8 : decode cX8_rests 8 = .ok (.aload_n 0, 1) := by decide +kernel
theorem dX8_rests_9 : decode cX8_rests 9 = .ok (.getfield 53, 3) := by decide +kernel
theorem dX8_rests_12 : decode cX8_rests 12 = .ok (.iload_n 1, 1) := by decide +kernel
theorem dX8_rests_13 : decode cX8_rests 13 = .ok (.iaload, 1) := by decide +kernel
theorem dX8_rests_14 : decode cX8_rests 14 = .ok (.if_icmp .gt 28, 3) := by decide +kernel
theorem dX8_rests_17 : decode cX8_rests 17 = .ok (.aload_n 0, 1) := by decide +kernel
theorem dX8_rests_18 : decode cX8_rests 18 = .ok (.getfield 53, 3) := by decide +kernel
theorem dX8_rests_21 : decode cX8_rests 21 = .ok (.iconst 4, 1) := by decide +kernel
theorem dX8_rests_22 : decode cX8_rests 22 = .ok (.iload_n 1, 1) := by decide +kernel
theorem dX8_rests_23 : decode cX8_rests 23 = .ok (.iconst 1, 1) := by decide +kernel
theorem dX8_rests_24 : decode cX8_rests 24 = .ok (.ixor, 1) := by decide +kernel
theorem dX8_rests_25 : decode cX8_rests 25 = .ok (.iadd, 1) := by decide +kernel
theorem dX8_rests_26 : decode cX8_rests 26 = .ok (.iaload, 1) := by decide +kernel
theorem dX8_rests_27 : decode cX8_rests 27 = .ok (.aload_n 0, 1) := by decide +kernel
theorem dX8_rests_28 : decode cX8_rests 28 = .ok (.getfield 53, 3) := by decide +kernel
theorem dX8_rests_31 : decode cX8_rests 31 = .ok (.iconst 4, 1) := by decide +kernel
theorem dX8_rests_32 : decode cX8_rests 32 = .ok (.iload_n 1, 1) := by decide +kernel
theorem dX8_rests_33 : decode cX8_rests 33 = .ok (.iadd, 1) := by decide +kernel
theorem dX8_rests_34 : decode cX8_rests 34 = .ok (.iaload, 1) := by decide +kernel
theorem dX8_rests_35 : decode cX8_rests 35 = .ok (.if_icmp .gt 7, 3) := by decide +kernel
theorem dX8_rests_38 : decode cX8_rests 38 = .ok (.iconst 1, 1) := by decide +kernel
theorem dX8_rests_39 : decode cX8_rests 39 = .ok (.goto 4, 3) := by decide +kernel
theorem dX8_rests_42 : decode cX8_rests 42 = .ok (.iconst 0, 1) := by decide +kernel
theorem dX8_rests_43 : decode cX8_rests 43 = .ok (.ireturn, 1) := by decide +kernel
theorem dX8_beGenerous_0 : decode cX8_beGenerous 0 = .ok (.iload_n 2, 1) := by decide +kernel
theorem dX8_beGenerous_1 : decode cX8_beGenerous 1 = .ok (.iconst 1, 1) := by decide +kernel
theorem dX8_beGenerous_2 : decode cX8_beGenerous 2 = .ok (.if_icmp .ne 21, 3) := by decide +kernel
theorem dX8_beGenerous_5 : decode cX8_beGenerous 5 = .ok (.aload_n 0, 1) := by decide +kernel
theorem dX8_beGenerous_6 : decode cX8_beGenerous 6 = .ok (.getfield 20, 3) := by decide +kernel
theorem dX8_beGenerous_9 : decode cX8_beGenerous 9 = .ok (.iconst 5, 1) := by decide +kernel
theorem dX8_beGenerous_10 : decode cX8_beGenerous 10 = .ok (.invokevirtual 213, 3) := by decide +kernel
theorem dX8_beGenerous_13 : decode cX8_beGenerous 13 = .ok (.aload_n 0, 1) := by decide +kernel
theorem dX8_beGenerous_14 : decode cX8_beGenerous 14 = .ok (.getfield 20, 3) := by decide +kernel
theorem dX8_beGenerous_17 : decode cX8_beGenerous 17 = .ok (.iload_n 1, 1) := by decide +kernel
theorem dX8_beGenerous_18 : decode cX8_beGenerous 18 = .ok (.bipush (-5), 2) := by decide +kernel
theorem dX8_beGenerous_20 : decode cX8_beGenerous 20 = .ok (.invokevirtual 216, 3) := by decide +kernel
theorem dX8_beGenerous_23 : decode cX8_beGenerous 23 = .ok (.return_, 1) := by decide +kernel
theorem dX8_years_0 : decode cX8_years 0 = .ok (.iload_n 3, 1) := by decide +kernel
theorem dX8_years_1 : decode cX8_years 1 = .ok (.iconst 2, 1) := by decide +kernel
theorem dX8_years_2 : decode cX8_years 2 = .ok (.invokestatic 231, 3) := by decide +kernel
theorem dX8_years_5 : decode cX8_years 5 = .ok (.iload_n 2, 1) := by decide +kernel
theorem dX8_years_6 : decode cX8_years 6 = .ok (.bipush 60, 2) := by decide +kernel
theorem dX8_years_8 : decode cX8_years 8 = .ok (.invokestatic 234, 3) := by decide +kernel
theorem dX8_years_11 : decode cX8_years 11 = .ok (.aload_n 0, 1) := by decide +kernel
theorem dX8_years_12 : decode cX8_years 12 = .ok (.invokevirtual 237, 3) := by decide +kernel
theorem dX8_years_15 : decode cX8_years 15 = .ok (.iconst 0, 1) := by decide +kernel
theorem dX8_years_16 : decode cX8_years 16 = .ok (.istore 4, 2) := by decide +kernel
theorem dX8_years_18 : decode cX8_years 18 = .ok (.iload_n 1, 1) := by decide +kernel
theorem dX8_years_19 : decode cX8_years 19 = .ok (.istore 5, 2) := by decide +kernel
theorem dX8_years_21 : decode cX8_years 21 = .ok (.iconst 0, 1) := by decide +kernel
theorem dX8_years_22 : decode cX8_years 22 = .ok (.istore 6, 2) := by decide +kernel
theorem dX8_years_24 : decode cX8_years 24 = .ok (.iload 6, 2) := by decide +kernel
theorem dX8_years_26 : decode cX8_years 26 = .ok (.iload_n 2, 1) := by decide +kernel
theorem dX8_years_27 : decode cX8_years 27 = .ok (.if_icmp .ge 36, 3) := by decide +kernel
theorem dX8_years_30 : decode cX8_years 30 = .ok (.aload_n 0, 1) := by decide +kernel
theorem dX8_years_31 : decode cX8_years 31 = .ok (.getfield 20, 3) := by decide +kernel
theorem dX8_years_34 : decode cX8_years 34 = .ok (.iload 5, 2) := by decide +kernel
theorem dX8_years_36 : decode cX8_years 36 = .ok (.invokevirtual 340, 3) := by decide +kernel
theorem dX8_years_39 : decode cX8_years 39 = .ok (.istore 5, 2) := by decide +kernel
theorem dX8_years_41 : decode cX8_years 41 = .ok (.aload_n 0, 1) := by decide +kernel
theorem dX8_years_42 : decode cX8_years 42 = .ok (.invokevirtual 243, 3) := by decide +kernel
theorem dX8_years_45 : decode cX8_years 45 = .ok (.iload 4, 2) := by decide +kernel
theorem dX8_years_47 : decode cX8_years 47 = .ok (.aload_n 0, 1) := by decide +kernel
theorem dX8_years_48 : decode cX8_years 48 = .ok (.getfield 20, 3) := by decide +kernel
theorem dX8_years_51 : decode cX8_years 51 = .ok (.getfield 148, 3) := by decide +kernel
theorem dX8_years_54 : decode cX8_years 54 = .ok (.iadd, 1) := by decide +kernel
theorem dX8_years_55 : decode cX8_years 55 = .ok (.istore 4, 2) := by decide +kernel
theorem dX8_years_57 : decode cX8_years 57 = .ok (.iinc 6 1, 3) := by decide +kernel
theorem dX8_years_60 : decode cX8_years 60 = .ok (.goto (-36), 3) := by decide +kernel
theorem dX8_years_63 : decode cX8_years 63 = .ok (.iload_n 3, 1) := by decide +kernel
theorem dX8_years_64 : decode cX8_years 64 = .ok (.lookupswitch 39 #[(0, 28), (1, 36)], 28) := by decide +kernel
theorem dX8_years_92 : decode cX8_years 92 = .ok (.aload_n 0, 1) := by decide +kernel
theorem dX8_years_93 : decode cX8_years 93 = .ok (.getfield 20, 3) := by decide +kernel
theorem dX8_years_96 : decode cX8_years 96 = .ok (.getfield 114, 3) := by decide +kernel
theorem dX8_years_99 : decode cX8_years 99 = .ok (.ireturn, 1) := by decide +kernel
theorem dX8_years_100 : decode cX8_years 100 = .ok (.iload 4, 2) := by decide +kernel
theorem dX8_years_102 : decode cX8_years 102 = .ok (.ireturn, 1) := by decide +kernel
theorem dX8_years_103 : decode cX8_years 103 = .ok (.aload_n 0, 1) := by decide +kernel
theorem dX8_years_104 : decode cX8_years 104 = .ok (.getfield 20, 3) := by decide +kernel
theorem dX8_years_107 : decode cX8_years 107 = .ok (.invokevirtual 343, 3) := by decide +kernel
theorem dX8_years_110 : decode cX8_years 110 = .ok (.ireturn, 1) := by decide +kernel
theorem dX8_image_0 : decode cX8_image 0 = .ok (.aload_n 0, 1) := by decide +kernel
theorem dX8_image_1 : decode cX8_image 1 = .ok (.getfield 40, 3) := by decide +kernel
theorem dX8_image_4 : decode cX8_image 4 = .ok (.aload_n 0, 1) := by decide +kernel
theorem dX8_image_5 : decode cX8_image 5 = .ok (.getfield 16, 3) := by decide +kernel
theorem dX8_image_8 : decode cX8_image 8 = .ok (.invokevirtual 106, 3) := by decide +kernel
theorem dX8_image_11 : decode cX8_image 11 = .ok (.aload_n 0, 1) := by decide +kernel
theorem dX8_image_12 : decode cX8_image 12 = .ok (.getfield 43, 3) := by decide +kernel
theorem dX8_image_15 : decode cX8_image 15 = .ok (.aload_n 0, 1) := by decide +kernel
theorem dX8_image_16 : decode cX8_image 16 = .ok (.getfield 29, 3) := by decide +kernel
theorem dX8_image_19 : decode cX8_image 19 = .ok (.invokevirtual 346, 3) := by decide +kernel
theorem dX8_image_22 : decode cX8_image 22 = .ok (.aload_n 0, 1) := by decide +kernel
theorem dX8_image_23 : decode cX8_image 23 = .ok (.getfield 46, 3) := by decide +kernel
theorem dX8_image_26 : decode cX8_image 26 = .ok (.aload_n 0, 1) := by decide +kernel
theorem dX8_image_27 : decode cX8_image 27 = .ok (.getfield 36, 3) := by decide +kernel
theorem dX8_image_30 : decode cX8_image 30 = .ok (.invokevirtual 349, 3) := by decide +kernel
theorem dX8_image_33 : decode cX8_image 33 = .ok (.aload_n 0, 1) := by decide +kernel
theorem dX8_image_34 : decode cX8_image 34 = .ok (.iconst 1, 1) := by decide +kernel
theorem dX8_image_35 : decode cX8_image 35 = .ok (.putfield 74, 3) := by decide +kernel
theorem dX8_image_38 : decode cX8_image 38 = .ok (.return_, 1) := by decide +kernel
theorem dX8_restore_0 : decode cX8_restore 0 = .ok (.aload_n 0, 1) := by decide +kernel
theorem dX8_restore_1 : decode cX8_restore 1 = .ok (.getfield 74, 3) := by decide +kernel
theorem dX8_restore_4 : decode cX8_restore 4 = .ok (.ifCond .ne 5, 3) := by decide +kernel
theorem dX8_restore_7 : decode cX8_restore 7 = .ok (.iconst 0, 1) := by decide +kernel
theorem dX8_restore_8 : decode cX8_restore 8 = .ok (.ireturn, 1) := by decide +kernel
theorem dX8_restore_9 : decode cX8_restore 9 = .ok (.aload_n 0, 1) := by decide +kernel
theorem dX8_restore_10 : decode cX8_restore 10 = .ok (.getfield 16, 3) := by decide +kernel
theorem dX8_restore_13 : decode cX8_restore 13 = .ok (.aload_n 0, 1) := by decide +kernel
theorem dX8_restore_14 : decode cX8_restore 14 = .ok (.getfield 40, 3) := by decide +kernel
theorem dX8_restore_17 : decode cX8_restore 17 = .ok (.invokevirtual 106, 3) := by decide +kernel
theorem dX8_restore_20 : decode cX8_restore 20 = .ok (.aload_n 0, 1) := by decide +kernel
theorem dX8_restore_21 : decode cX8_restore 21 = .ok (.getfield 29, 3) := by decide +kernel
theorem dX8_restore_24 : decode cX8_restore 24 = .ok (.aload_n 0, 1) := by decide +kernel
theorem dX8_restore_25 : decode cX8_restore 25 = .ok (.getfield 43, 3) := by decide +kernel
theorem dX8_restore_28 : decode cX8_restore 28 = .ok (.invokevirtual 346, 3) := by decide +kernel
theorem dX8_restore_31 : decode cX8_restore 31 = .ok (.aload_n 0, 1) := by decide +kernel
theorem dX8_restore_32 : decode cX8_restore 32 = .ok (.getfield 36, 3) := by decide +kernel
theorem dX8_restore_35 : decode cX8_restore 35 = .ok (.aload_n 0, 1) := by decide +kernel
theorem dX8_restore_36 : decode cX8_restore 36 = .ok (.getfield 46, 3) := by decide +kernel
theorem dX8_restore_39 : decode cX8_restore 39 = .ok (.invokevirtual 349, 3) := by decide +kernel
theorem dX8_restore_42 : decode cX8_restore 42 = .ok (.iconst 1, 1) := by decide +kernel
theorem dX8_restore_43 : decode cX8_restore 43 = .ok (.ireturn, 1) := by decide +kernel
theorem dX8_refuse_0 : decode cX8_refuse 0 = .ok (.aload_n 0, 1) := by decide +kernel
theorem dX8_refuse_1 : decode cX8_refuse 1 = .ok (.getfield 7, 3) := by decide +kernel
theorem dX8_refuse_4 : decode cX8_refuse 4 = .ok (.iload_n 1, 1) := by decide +kernel
theorem dX8_refuse_5 : decode cX8_refuse 5 = .ok (.dup2, 1) := by decide +kernel
theorem dX8_refuse_6 : decode cX8_refuse 6 = .ok (.iaload, 1) := by decide +kernel
theorem dX8_refuse_7 : decode cX8_refuse 7 = .ok (.iconst 1, 1) := by decide +kernel
theorem dX8_refuse_8 : decode cX8_refuse 8 = .ok (.iadd, 1) := by decide +kernel
theorem dX8_refuse_9 : decode cX8_refuse 9 = .ok (.iastore, 1) := by decide +kernel
theorem dX8_refuse_10 : decode cX8_refuse 10 = .ok (.iconst (-1), 1) := by decide +kernel
theorem dX8_refuse_11 : decode cX8_refuse 11 = .ok (.ireturn, 1) := by decide +kernel
theorem dX8_requireWard_0 : decode cX8_requireWard 0 = .ok (.iload_n 1, 1) := by decide +kernel
theorem dX8_requireWard_1 : decode cX8_requireWard 1 = .ok (.ifCond .lt 14, 3) := by decide +kernel
theorem dX8_requireWard_4 : decode cX8_requireWard 4 = .ok (.iload_n 1, 1) := by decide +kernel
theorem dX8_requireWard_5 : decode cX8_requireWard 5 = .ok (.aload_n 0, 1) := by decide +kernel
theorem dX8_requireWard_6 : decode cX8_requireWard 6 = .ok (.getfield 16, 3) := by decide +kernel
theorem dX8_requireWard_9 : decode cX8_requireWard 9 = .ok (.getfield 120, 3) := by decide +kernel
theorem dX8_requireWard_12 : decode cX8_requireWard 12 = .ok (.if_icmp .lt 14, 3) := by decide +kernel
theorem dX8_requireWard_15 : decode cX8_requireWard 15 = .ok (.new 170, 3) := by decide +kernel
theorem dX8_requireWard_18 : decode cX8_requireWard 18 = .ok (.dup, 1) := by decide +kernel
theorem dX8_requireWard_19 : decode cX8_requireWard 19 = .ok (.ldc_w 352, 3) := by decide +kernel
theorem dX8_requireWard_22 : decode cX8_requireWard 22 = .ok (.invokespecial 174, 3) := by decide +kernel
theorem dX8_requireWard_25 : decode cX8_requireWard 25 = .ok (.athrow, 1) := by decide +kernel
theorem dX8_requireWard_26 : decode cX8_requireWard 26 = .ok (.return_, 1) := by decide +kernel
theorem dX8_requireWhat_0 : decode cX8_requireWhat 0 = .ok (.iload_n 0, 1) := by decide +kernel
theorem dX8_requireWhat_1 : decode cX8_requireWhat 1 = .ok (.ifCond .lt 8, 3) := by decide +kernel
theorem dX8_requireWhat_4 : decode cX8_requireWhat 4 = .ok (.iload_n 0, 1) := by decide +kernel
theorem dX8_requireWhat_5 : decode cX8_requireWhat 5 = .ok (.iload_n 1, 1) := by decide +kernel
theorem dX8_requireWhat_6 : decode cX8_requireWhat 6 = .ok (.if_icmp .le 13, 3) := by decide +kernel
theorem dX8_requireWhat_9 : decode cX8_requireWhat 9 = .ok (.new 170, 3) := by decide +kernel
theorem dX8_requireWhat_12 : decode cX8_requireWhat 12 = .ok (.dup, 1) := by decide +kernel
theorem dX8_requireWhat_13 : decode cX8_requireWhat 13 = .ok (.ldc 172, 2) := by decide +kernel
theorem dX8_requireWhat_15 : decode cX8_requireWhat 15 = .ok (.invokespecial 174, 3) := by decide +kernel
theorem dX8_requireWhat_18 : decode cX8_requireWhat 18 = .ok (.athrow, 1) := by decide +kernel
theorem dX8_requireWhat_19 : decode cX8_requireWhat 19 = .ok (.return_, 1) := by decide +kernel
theorem dX8_requireFrom0_0 : decode cX8_requireFrom0 0 = .ok (.iload_n 0, 1) := by decide +kernel
theorem dX8_requireFrom0_1 : decode cX8_requireFrom0 1 = .ok (.ifCond .lt 8, 3) := by decide +kernel
theorem dX8_requireFrom0_4 : decode cX8_requireFrom0 4 = .ok (.iload_n 0, 1) := by decide +kernel
theorem dX8_requireFrom0_5 : decode cX8_requireFrom0 5 = .ok (.iload_n 1, 1) := by decide +kernel
theorem dX8_requireFrom0_6 : decode cX8_requireFrom0 6 = .ok (.if_icmp .le 14, 3) := by decide +kernel
theorem dX8_requireFrom0_9 : decode cX8_requireFrom0 9 = .ok (.new 85, 3) := by decide +kernel
theorem dX8_requireFrom0_12 : decode cX8_requireFrom0 12 = .ok (.dup, 1) := by decide +kernel
theorem dX8_requireFrom0_13 : decode cX8_requireFrom0 13 = .ok (.ldc_w 354, 3) := by decide +kernel
theorem dX8_requireFrom0_16 : decode cX8_requireFrom0 16 = .ok (.invokespecial 89, 3) := by decide +kernel
theorem dX8_requireFrom0_19 : decode cX8_requireFrom0 19 = .ok (.athrow, 1) := by decide +kernel
theorem dX8_requireFrom0_20 : decode cX8_requireFrom0 20 = .ok (.return_, 1) := by decide +kernel
theorem dX8_requireFrom1_0 : decode cX8_requireFrom1 0 = .ok (.iload_n 0, 1) := by decide +kernel
theorem dX8_requireFrom1_1 : decode cX8_requireFrom1 1 = .ok (.iconst 1, 1) := by decide +kernel
theorem dX8_requireFrom1_2 : decode cX8_requireFrom1 2 = .ok (.if_icmp .lt 9, 3) := by decide +kernel
theorem dX8_requireFrom1_5 : decode cX8_requireFrom1 5 = .ok (.iload_n 0, 1) := by decide +kernel
theorem dX8_requireFrom1_6 : decode cX8_requireFrom1 6 = .ok (.bipush 60, 2) := by decide +kernel
theorem dX8_requireFrom1_8 : decode cX8_requireFrom1 8 = .ok (.if_icmp .le 14, 3) := by decide +kernel
theorem dX8_requireFrom1_11 : decode cX8_requireFrom1 11 = .ok (.new 85, 3) := by decide +kernel
theorem dX8_requireFrom1_14 : decode cX8_requireFrom1 14 = .ok (.dup, 1) := by decide +kernel
theorem dX8_requireFrom1_15 : decode cX8_requireFrom1 15 = .ok (.ldc_w 322, 3) := by decide +kernel
theorem dX8_requireFrom1_18 : decode cX8_requireFrom1 18 = .ok (.invokespecial 89, 3) := by decide +kernel
theorem dX8_requireFrom1_21 : decode cX8_requireFrom1 21 = .ok (.athrow, 1) := by decide +kernel
theorem dX8_requireFrom1_22 : decode cX8_requireFrom1 22 = .ok (.return_, 1) := by decide +kernel
theorem dX8_startTrial_0 : decode cX8_startTrial 0 = .ok (.aload_n 0, 1) := by decide +kernel
theorem dX8_startTrial_1 : decode cX8_startTrial 1 = .ok (.getfield 20, 3) := by decide +kernel
theorem dX8_startTrial_4 : decode cX8_startTrial 4 = .ok (.aload_n 0, 1) := by decide +kernel
theorem dX8_startTrial_5 : decode cX8_startTrial 5 = .ok (.getfield 16, 3) := by decide +kernel
theorem dX8_startTrial_8 : decode cX8_startTrial 8 = .ok (.invokevirtual 106, 3) := by decide +kernel
theorem dX8_startTrial_11 : decode cX8_startTrial 11 = .ok (.return_, 1) := by decide +kernel
theorem dX8_passTrialDay_0 : decode cX8_passTrialDay 0 = .ok (.aload_n 0, 1) := by decide +kernel
theorem dX8_passTrialDay_1 : decode cX8_passTrialDay 1 = .ok (.getfield 20, 3) := by decide +kernel
theorem dX8_passTrialDay_4 : decode cX8_passTrialDay 4 = .ok (.aload_n 0, 1) := by decide +kernel
theorem dX8_passTrialDay_5 : decode cX8_passTrialDay 5 = .ok (.getfield 66, 3) := by decide +kernel
theorem dX8_passTrialDay_8 : decode cX8_passTrialDay 8 = .ok (.aload_n 0, 1) := by decide +kernel
theorem dX8_passTrialDay_9 : decode cX8_passTrialDay 9 = .ok (.getfield 66, 3) := by decide +kernel
theorem dX8_passTrialDay_12 : decode cX8_passTrialDay 12 = .ok (.aload_n 0, 1) := by decide +kernel
theorem dX8_passTrialDay_13 : decode cX8_passTrialDay 13 = .ok (.getfield 20, 3) := by decide +kernel
theorem dX8_passTrialDay_16 : decode cX8_passTrialDay 16 = .ok (.getfield 123, 3) := by decide +kernel
theorem dX8_passTrialDay_19 : decode cX8_passTrialDay 19 = .ok (.invokevirtual 206, 3) := by decide +kernel
theorem dX8_passTrialDay_22 : decode cX8_passTrialDay 22 = .ok (.invokevirtual 209, 3) := by decide +kernel
theorem dX8_passTrialDay_25 : decode cX8_passTrialDay 25 = .ok (.return_, 1) := by decide +kernel
theorem dX8_go_0 : decode cX8_go 0 = .ok (.iconst 0, 1) := by decide +kernel
theorem dX8_go_1 : decode cX8_go 1 = .ok (.istore_n 2, 1) := by decide +kernel
theorem dX8_go_2 : decode cX8_go 2 = .ok (.iconst 0, 1) := by decide +kernel
theorem dX8_go_3 : decode cX8_go 3 = .ok (.istore_n 3, 1) := by decide +kernel
theorem dX8_go_4 : decode cX8_go 4 = .ok (.iload_n 3, 1) := by decide +kernel
theorem dX8_go_5 : decode cX8_go 5 = .ok (.iload_n 1, 1) := by decide +kernel
theorem dX8_go_6 : decode cX8_go 6 = .ok (.if_icmp .ge 23, 3) := by decide +kernel
theorem dX8_go_9 : decode cX8_go 9 = .ok (.aload_n 0, 1) := by decide +kernel
theorem dX8_go_10 : decode cX8_go 10 = .ok (.invokevirtual 243, 3) := by decide +kernel
theorem dX8_go_13 : decode cX8_go 13 = .ok (.iload_n 2, 1) := by decide +kernel
theorem dX8_go_14 : decode cX8_go 14 = .ok (.aload_n 0, 1) := by decide +kernel
theorem dX8_go_15 : decode cX8_go 15 = .ok (.getfield 20, 3) := by decide +kernel
theorem dX8_go_18 : decode cX8_go 18 = .ok (.getfield 148, 3) := by decide +kernel
theorem dX8_go_21 : decode cX8_go 21 = .ok (.iadd, 1) := by decide +kernel
theorem dX8_go_22 : decode cX8_go 22 = .ok (.istore_n 2, 1) := by decide +kernel
theorem dX8_go_23 : decode cX8_go 23 = .ok (.iinc 3 1, 3) := by decide +kernel
theorem dX8_go_26 : decode cX8_go 26 = .ok (.goto (-22), 3) := by decide +kernel
theorem dX8_go_29 : decode cX8_go 29 = .ok (.iload_n 2, 1) := by decide +kernel
theorem dX8_go_30 : decode cX8_go 30 = .ok (.ireturn, 1) := by decide +kernel
theorem dX8_within_0 : decode cX8_within 0 = .ok (.iload_n 0, 1) := by decide +kernel
theorem dX8_within_1 : decode cX8_within 1 = .ok (.iload_n 1, 1) := by decide +kernel
theorem dX8_within_2 : decode cX8_within 2 = .ok (.if_icmp .ge 7, 3) := by decide +kernel
theorem dX8_within_5 : decode cX8_within 5 = .ok (.iload_n 1, 1) := by decide +kernel
theorem dX8_within_6 : decode cX8_within 6 = .ok (.goto 8, 3) := by decide +kernel
theorem dX8_within_9 : decode cX8_within 9 = .ok (.iload_n 0, 1) := by decide +kernel
theorem dX8_within_10 : decode cX8_within 10 = .ok (.iload_n 2, 1) := by decide +kernel
theorem dX8_within_11 : decode cX8_within 11 = .ok (.invokestatic 280, 3) := by decide +kernel
theorem dX8_within_14 : decode cX8_within 14 = .ok (.ireturn, 1) := by decide +kernel
