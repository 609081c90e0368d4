theorem dX7_four_23 : decode cX7_four 23 = .ok (.aload_n 0, 1) := by decide +kernel
theorem dX7_four_24 : decode cX7_four 24 = .ok (.dup, 1) := by decide +kernel
theorem dX7_four_25 : decode cX7_four 25 = .ok (.getfield 106, 3) := by decide +kernel
theorem dX7_four_28 : decode cX7_four 28 = .ok (.iconst 1, 1) := by decide +kernel
theorem dX7_four_29 : decode cX7_four 29 = .ok (.iadd, 1) := by decide +kernel
theorem dX7_four_30 : decode cX7_four 30 = .ok (.putfield 106, 3) := by decide +kernel
theorem dX7_four_33 : decode cX7_four 33 = .ok (.iinc 2 (-8), 3) := by decide +kernel
theorem dX7_four_36 : decode cX7_four 36 = .ok (.goto (-33), 3) := by decide +kernel
theorem dX7_four_39 : decode cX7_four 39 = .ok (.return_, 1) := by decide +kernel
theorem dX7_feed_0 : decode cX7_feed 0 = .ok (.aload_n 0, 1) := by decide +kernel
theorem dX7_feed_1 : decode cX7_feed 1 = .ok (.getfield 106, 3) := by decide +kernel
theorem dX7_feed_4 : decode cX7_feed 4 = .ok (.bipush 20, 2) := by decide +kernel
theorem dX7_feed_6 : decode cX7_feed 6 = .ok (.iadd, 1) := by decide +kernel
theorem dX7_feed_7 : decode cX7_feed 7 = .ok (.bipush 20, 2) := by decide +kernel
theorem dX7_feed_9 : decode cX7_feed 9 = .ok (.if_icmp .le 5, 3) := by decide +kernel
theorem dX7_feed_12 : decode cX7_feed 12 = .ok (.iconst (-1), 1) := by decide +kernel
theorem dX7_feed_13 : decode cX7_feed 13 = .ok (.ireturn, 1) := by decide +kernel
theorem dX7_feed_14 : decode cX7_feed 14 = .ok (.aload_n 0, 1) := by decide +kernel
theorem dX7_feed_15 : decode cX7_feed 15 = .ok (.iload_n 1, 1) := by decide +kernel
theorem dX7_feed_16 : decode cX7_feed 16 = .ok (.invokevirtual 109, 3) := by decide +kernel
theorem dX7_feed_19 : decode cX7_feed 19 = .ok (.aload_n 0, 1) := by decide +kernel
theorem dX7_feed_20 : decode cX7_feed 20 = .ok (.iload_n 2, 1) := by decide +kernel
theorem dX7_feed_21 : decode cX7_feed 21 = .ok (.invokevirtual 109, 3) := by decide +kernel
theorem dX7_feed_24 : decode cX7_feed 24 = .ok (.aload_n 0, 1) := by decide +kernel
theorem dX7_feed_25 : decode cX7_feed 25 = .ok (.iload_n 3, 1) := by decide +kernel
theorem dX7_feed_26 : decode cX7_feed 26 = .ok (.invokevirtual 109, 3) := by decide +kernel
theorem dX7_feed_29 : decode cX7_feed 29 = .ok (.aload_n 0, 1) := by decide +kernel
theorem dX7_feed_30 : decode cX7_feed 30 = .ok (.iload 4, 2) := by decide +kernel
theorem dX7_feed_32 : decode cX7_feed 32 = .ok (.invokevirtual 109, 3) := by decide +kernel
theorem dX7_feed_35 : decode cX7_feed 35 = .ok (.aload_n 0, 1) := by decide +kernel
theorem dX7_feed_36 : decode cX7_feed 36 = .ok (.iload 5, 2) := by decide +kernel
theorem dX7_feed_38 : decode cX7_feed 38 = .ok (.invokevirtual 109, 3) := by decide +kernel
theorem dX7_feed_41 : decode cX7_feed 41 = .ok (.aload_n 0, 1) := by decide +kernel
theorem dX7_feed_42 : decode cX7_feed 42 = .ok (.getfield 106, 3) := by decide +kernel
theorem dX7_feed_45 : decode cX7_feed 45 = .ok (.ireturn, 1) := by decide +kernel
theorem dX7_end_0 : decode cX7_end 0 = .ok (.iload_n 1, 1) := by decide +kernel
theorem dX7_end_1 : decode cX7_end 1 = .ok (.iconst 0, 1) := by decide +kernel
theorem dX7_end_2 : decode cX7_end 2 = .ok (.aload_n 0, 1) := by decide +kernel
theorem dX7_end_3 : decode cX7_end 3 = .ok (.getfield 106, 3) := by decide +kernel
theorem dX7_end_6 : decode cX7_end 6 = .ok (.invokestatic 102, 3) := by decide +kernel
theorem dX7_end_9 : decode cX7_end 9 = .ok (.ifCond .ne 5, 3) := by decide +kernel
theorem dX7_end_12 : decode cX7_end 12 = .ok (.iconst (-1), 1) := by decide +kernel
theorem dX7_end_13 : decode cX7_end 13 = .ok (.ireturn, 1) := by decide +kernel
theorem dX7_end_14 : decode cX7_end 14 = .ok (.aload_n 0, 1) := by decide +kernel
theorem dX7_end_15 : decode cX7_end 15 = .ok (.iload_n 1, 1) := by decide +kernel
theorem dX7_end_16 : decode cX7_end 16 = .ok (.putfield 106, 3) := by decide +kernel
theorem dX7_end_19 : decode cX7_end 19 = .ok (.iload_n 1, 1) := by decide +kernel
theorem dX7_end_20 : decode cX7_end 20 = .ok (.ireturn, 1) := by decide +kernel
theorem dX7_see_0 : decode cX7_see 0 = .ok (.iload_n 1, 1) := by decide +kernel
theorem dX7_see_1 : decode cX7_see 1 = .ok (.aload_n 0, 1) := by decide +kernel
theorem dX7_see_2 : decode cX7_see 2 = .ok (.getfield 106, 3) := by decide +kernel
theorem dX7_see_5 : decode cX7_see 5 = .ok (.if_icmp .ge 12, 3) := by decide +kernel
theorem dX7_see_8 : decode cX7_see 8 = .ok (.aload_n 0, 1) := by decide +kernel
theorem dX7_see_9 : decode cX7_see 9 = .ok (.getfield 47, 3) := by decide +kernel
theorem dX7_see_12 : decode cX7_see 12 = .ok (.iload_n 1, 1) := by decide +kernel
theorem dX7_see_13 : decode cX7_see 13 = .ok (.iaload, 1) := by decide +kernel
theorem dX7_see_14 : decode cX7_see 14 = .ok (.goto 4, 3) := by decide +kernel
theorem dX7_see_17 : decode cX7_see 17 = .ok (.iconst (-1), 1) := by decide +kernel
theorem dX7_see_18 : decode cX7_see 18 = .ok (.ireturn, 1) := by decide +kernel
theorem dX7_digitsHere_0 : decode cX7_digitsHere 0 = .ok (.iconst 0, 1) := by decide +kernel
theorem dX7_digitsHere_1 : decode cX7_digitsHere 1 = .ok (.istore_n 1, 1) := by decide +kernel
theorem dX7_digitsHere_2 : decode cX7_digitsHere 2 = .ok (.aload_n 0, 1) := by decide +kernel
theorem dX7_digitsHere_3 : decode cX7_digitsHere 3 = .ok (.getfield 113, 3) := by decide +kernel
theorem dX7_digitsHere_6 : decode cX7_digitsHere 6 = .ok (.istore_n 2, 1) := by decide +kernel
theorem dX7_digitsHere_7 : decode cX7_digitsHere 7 = .ok (.aload_n 0, 1) := by decide +kernel
theorem dX7_digitsHere_8 : decode cX7_digitsHere 8 = .ok (.getfield 113, 3) := by decide +kernel
theorem dX7_digitsHere_11 : decode cX7_digitsHere 11 = .ok (.iload_n 2, 1) := by decide +kernel
theorem dX7_digitsHere_12 : decode cX7_digitsHere 12 = .ok (.iconst 4, 1) := by decide +kernel
theorem dX7_digitsHere_13 : decode cX7_digitsHere 13 = .ok (.iadd, 1) := by decide +kernel
theorem dX7_digitsHere_14 : decode cX7_digitsHere 14 = .ok (.if_icmp .ge 51, 3) := by decide +kernel
theorem dX7_digitsHere_17 : decode cX7_digitsHere 17 = .ok (.aload_n 0, 1) := by decide +kernel
theorem dX7_digitsHere_18 : decode cX7_digitsHere 18 = .ok (.aload_n 0, 1) := by decide +kernel
theorem dX7_digitsHere_19 : decode cX7_digitsHere 19 = .ok (.getfield 113, 3) := by decide +kernel
theorem dX7_digitsHere_22 : decode cX7_digitsHere 22 = .ok (.invokevirtual 116, 3) := by decide +kernel
theorem dX7_digitsHere_25 : decode cX7_digitsHere 25 = .ok (.bipush 48, 2) := by decide +kernel
theorem dX7_digitsHere_27 : decode cX7_digitsHere 27 = .ok (.bipush 57, 2) := by decide +kernel
theorem dX7_digitsHere_29 : decode cX7_digitsHere 29 = .ok (.invokestatic 102, 3) := by decide +kernel
theorem dX7_digitsHere_32 : decode cX7_digitsHere 32 = .ok (.ifCond .eq 33, 3) := by decide +kernel
theorem dX7_digitsHere_35 : decode cX7_digitsHere 35 = .ok (.bipush 10, 2) := by decide +kernel
theorem dX7_digitsHere_37 : decode cX7_digitsHere 37 = .ok (.iload_n 1, 1) := by decide +kernel
theorem dX7_digitsHere_38 : decode cX7_digitsHere 38 = .ok (.imul, 1) := by decide +kernel
theorem dX7_digitsHere_39 : decode cX7_digitsHere 39 = .ok (.aload_n 0, 1) := by decide +kernel
theorem dX7_digitsHere_40 : decode cX7_digitsHere 40 = .ok (.aload_n 0, 1) := by decide +kernel
theorem dX7_digitsHere_41 : decode cX7_digitsHere 41 = .ok (.getfield 113, 3) := by decide +kernel
theorem dX7_digitsHere_44 : decode cX7_digitsHere 44 = .ok (.invokevirtual 116, 3) := by decide +kernel
theorem dX7_digitsHere_47 : decode cX7_digitsHere 47 = .ok (.iadd, 1) := by decide +kernel
theorem dX7_digitsHere_48 : decode cX7_digitsHere 48 = .ok (.bipush 48, 2) := by decide +kernel
theorem dX7_digitsHere_50 : decode cX7_digitsHere 50 = .ok (.isub, 1) := by decide +kernel
theorem dX7_digitsHere_51 : decode cX7_digitsHere 51 = .ok (.istore_n 1, 1) := by decide +kernel
theorem dX7_digitsHere_52 : decode cX7_digitsHere 52 = .ok (.aload_n 0, 1) := by decide +kernel
theorem dX7_digitsHere_53 : decode cX7_digitsHere 53 = .ok (.dup, 1) := by decide +kernel
theorem dX7_digitsHere_54 : decode cX7_digitsHere 54 = .ok (.getfield 113, 3) := by decide +kernel
theorem dX7_digitsHere_57 : decode cX7_digitsHere 57 = .ok (.iconst 1, 1) := by decide +kernel
theorem dX7_digitsHere_58 : decode cX7_digitsHere 58 = .ok (.iadd, 1) := by decide +kernel
theorem dX7_digitsHere_59 : decode cX7_digitsHere 59 = .ok (.putfield 113, 3) := by decide +kernel
theorem dX7_digitsHere_62 : decode cX7_digitsHere 62 = .ok (.goto (-55), 3) := by decide +kernel
theorem dX7_digitsHere_65 : decode cX7_digitsHere 65 = .ok (.iload_n 1, 1) := by decide +kernel
theorem dX7_digitsHere_66 : decode cX7_digitsHere 66 = .ok (.ireturn, 1) := by decide +kernel
theorem dX7_isMark_0 : decode cX7_isMark 0 = .ok (.aload_n 0, 1) := by decide +kernel
theorem dX7_isMark_1 : decode cX7_isMark 1 = .ok (.iconst 0, 1) := by decide +kernel
theorem dX7_isMark_2 : decode cX7_isMark 2 = .ok (.putfield 113, 3) := by decide +kernel
theorem dX7_isMark_5 : decode cX7_isMark 5 = .ok (.aload_n 0, 1) := by decide +kernel
theorem dX7_isMark_6 : decode cX7_isMark 6 = .ok (.getfield 16, 3) := by decide +kernel
theorem dX7_isMark_9 : decode cX7_isMark 9 = .ok (.iload_n 1, 1) := by decide +kernel
theorem dX7_isMark_10 : decode cX7_isMark 10 = .ok (.aload_n 0, 1) := by decide +kernel
theorem dX7_isMark_11 : decode cX7_isMark 11 = .ok (.invokevirtual 120, 3) := by decide +kernel
theorem dX7_isMark_14 : decode cX7_isMark 14 = .ok (.iastore, 1) := by decide +kernel
theorem dX7_isMark_15 : decode cX7_isMark 15 = .ok (.aload_n 0, 1) := by decide +kernel
theorem dX7_isMark_16 : decode cX7_isMark 16 = .ok (.getfield 113, 3) := by decide +kernel
theorem dX7_isMark_19 : decode cX7_isMark 19 = .ok (.ifCond .ne 5, 3) := by decide +kernel
theorem dX7_isMark_22 : decode cX7_isMark 22 = .ok (.iconst 0, 1) := by decide +kernel
theorem dX7_isMark_23 : decode cX7_isMark 23 = .ok (.ireturn, 1) := by decide +kernel
theorem dX7_isMark_24 : decode cX7_isMark 24 = .ok (.aload_n 0, 1) := by decide +kernel
theorem dX7_isMark_25 : decode cX7_isMark 25 = .ok (.getfield 20, 3) := by decide +kernel
theorem dX7_isMark_28 : decode cX7_isMark 28 = .ok (.iload_n 1, 1) := by decide +kernel
theorem dX7_isMark_29 : decode cX7_isMark 29 = .ok (.iconst (-1), 1) := by decide +kernel
theorem dX7_isMark_30 : decode cX7_isMark 30 = .ok (.iastore, 1) := by decide +kernel
theorem dX7_isMark_31 : decode cX7_isMark 31 = .ok (.aload_n 0, 1) := by decide +kernel
theorem dX7_isMark_32 : decode cX7_isMark 32 = .ok (.getfield 23, 3) := by decide +kernel
theorem dX7_isMark_35 : decode cX7_isMark 35 = .ok (.iload_n 1, 1) := by decide +kernel
theorem dX7_isMark_36 : decode cX7_isMark 36 = .ok (.iconst 0, 1) := by decide +kernel
theorem dX7_isMark_37 : decode cX7_isMark 37 = .ok (.iastore, 1) := by decide +kernel
theorem dX7_isMark_38 : decode cX7_isMark 38 = .ok (.aload_n 0, 1) := by decide +kernel
theorem dX7_isMark_39 : decode cX7_isMark 39 = .ok (.getfield 26, 3) := by decide +kernel
theorem dX7_isMark_42 : decode cX7_isMark 42 = .ok (.iload_n 1, 1) := by decide +kernel
theorem dX7_isMark_43 : decode cX7_isMark 43 = .ok (.iconst 0, 1) := by decide +kernel
theorem dX7_isMark_44 : decode cX7_isMark 44 = .ok (.iastore, 1) := by decide +kernel
theorem dX7_isMark_45 : decode cX7_isMark 45 = .ok (.aload_n 0, 1) := by decide +kernel
theorem dX7_isMark_46 : decode cX7_isMark 46 = .ok (.aload_n 0, 1) := by decide +kernel
theorem dX7_isMark_47 : decode cX7_isMark 47 = .ok (.getfield 113, 3) := by decide +kernel
theorem dX7_isMark_50 : decode cX7_isMark 50 = .ok (.invokevirtual 116, 3) := by decide +kernel
theorem dX7_isMark_53 : decode cX7_isMark 53 = .ok (.bipush 46, 2) := by decide +kernel
theorem dX7_isMark_55 : decode cX7_isMark 55 = .ok (.if_icmp .ne 50, 3) := by decide +kernel
theorem dX7_isMark_58 : decode cX7_isMark 58 = .ok (.aload_n 0, 1) := by decide +kernel
theorem dX7_isMark_59 : decode cX7_isMark 59 = .ok (.dup, 1) := by decide +kernel
theorem dX7_isMark_60 : decode cX7_isMark 60 = .ok (.getfield 113, 3) := by decide +kernel
theorem dX7_isMark_63 : decode cX7_isMark 63 = .ok (.iconst 1, 1) := by decide +kernel
theorem dX7_isMark_64 : decode cX7_isMark 64 = .ok (.iadd, 1) := by decide +kernel
theorem dX7_isMark_65 : decode cX7_isMark 65 = .ok (.putfield 113, 3) := by decide +kernel
theorem dX7_isMark_68 : decode cX7_isMark 68 = .ok (.aload_n 0, 1) := by decide +kernel
theorem dX7_isMark_69 : decode cX7_isMark 69 = .ok (.getfield 113, 3) := by decide +kernel
theorem dX7_isMark_72 : decode cX7_isMark 72 = .ok (.istore_n 2, 1) := by decide +kernel
theorem dX7_isMark_73 : decode cX7_isMark 73 = .ok (.aload_n 0, 1) := by decide +kernel
theorem dX7_isMark_74 : decode cX7_isMark 74 = .ok (.getfield 20, 3) := by decide +kernel
theorem dX7_isMark_77 : decode cX7_isMark 77 = .ok (.iload_n 1, 1) := by decide +kernel
theorem dX7_isMark_78 : decode cX7_isMark 78 = .ok (.aload_n 0, 1) := by decide +kernel
theorem dX7_isMark_79 : decode cX7_isMark 79 = .ok (.invokevirtual 120, 3) := by decide +kernel
theorem dX7_isMark_82 : decode cX7_isMark 82 = .ok (.iastore, 1) := by decide +kernel
theorem dX7_isMark_83 : decode cX7_isMark 83 = .ok (.aload_n 0, 1) := by decide +kernel
theorem dX7_isMark_84 : decode cX7_isMark 84 = .ok (.getfield 23, 3) := by decide +kernel
theorem dX7_isMark_87 : decode cX7_isMark 87 = .ok (.iload_n 1, 1) := by decide +kernel
theorem dX7_isMark_88 : decode cX7_isMark 88 = .ok (.aload_n 0, 1) := by decide +kernel
theorem dX7_isMark_89 : decode cX7_isMark 89 = .ok (.getfield 113, 3) := by decide +kernel
theorem dX7_isMark_92 : decode cX7_isMark 92 = .ok (.iload_n 2, 1) := by decide +kernel
theorem dX7_isMark_93 : decode cX7_isMark 93 = .ok (.isub, 1) := by decide +kernel
theorem dX7_isMark_94 : decode cX7_isMark 94 = .ok (.iastore, 1) := by decide +kernel
theorem dX7_isMark_95 : decode cX7_isMark 95 = .ok (.aload_n 0, 1) := by decide +kernel
theorem dX7_isMark_96 : decode cX7_isMark 96 = .ok (.getfield 113, 3) := by decide +kernel
theorem dX7_isMark_99 : decode cX7_isMark 99 = .ok (.iload_n 2, 1) := by decide +kernel
theorem dX7_isMark_100 : decode cX7_isMark 100 = .ok (.if_icmp .ne 5, 3) := by decide +kernel
theorem dX7_isMark_103 : decode cX7_isMark 103 = .ok (.iconst 0, 1) := by decide +kernel
theorem dX7_isMark_104 : decode cX7_isMark 104 = .ok (.ireturn, 1) := by decide +kernel
theorem dX7_isMark_105 : decode cX7_isMark 105 = .ok (.aload_n 0, 1) := by decide +kernel
theorem dX7_isMark_106 : decode cX7_isMark 106 = .ok (.getfield 113, 3) := by decide +kernel
theorem dX7_isMark_109 : decode cX7_isMark 109 = .ok (.istore_n 2, 1) := by decide +kernel
theorem dX7_isMark_110 : decode cX7_isMark 110 = .ok (.iconst 0, 1) := by decide +kernel
theorem dX7_isMark_111 : decode cX7_isMark 111 = .ok (.istore_n 3, 1) := by decide +kernel
theorem dX7_isMark_112 : decode cX7_isMark 112 = .ok (.iload_n 3, 1) := by decide +kernel
theorem dX7_isMark_113 : decode cX7_isMark 113 = .ok (.iconst 3, 1) := by decide +kernel
theorem dX7_isMark_114 : decode cX7_isMark 114 = .ok (.if_icmp .ge 97, 3) := by decide +kernel
theorem dX7_isMark_117 : decode cX7_isMark 117 = .ok (.aload_n 0, 1) := by decide +kernel
theorem dX7_isMark_118 : decode cX7_isMark 118 = .ok (.getfield 113, 3) := by decide +kernel
theorem dX7_isMark_121 : decode cX7_isMark 121 = .ok (.iload_n 2, 1) := by decide +kernel
theorem dX7_isMark_122 : decode cX7_isMark 122 = .ok (.iload_n 3, 1) := by decide +kernel
theorem dX7_isMark_123 : decode cX7_isMark 123 = .ok (.iadd, 1) := by decide +kernel
theorem dX7_isMark_124 : decode cX7_isMark 124 = .ok (.if_icmp .ne 25, 3) := by decide +kernel
theorem dX7_isMark_127 : decode cX7_isMark 127 = .ok (.aload_n 0, 1) := by decide +kernel
theorem dX7_isMark_128 : decode cX7_isMark 128 = .ok (.aload_n 0, 1) := by decide +kernel
theorem dX7_isMark_129 : decode cX7_isMark 129 = .ok (.getfield 113, 3) := by decide +kernel
theorem dX7_isMark_132 : decode cX7_isMark 132 = .ok (.invokevirtual 116, 3) := by decide +kernel
theorem dX7_isMark_135 : decode cX7_isMark 135 = .ok (.bipush 97, 2) := by decide +kernel
theorem dX7_isMark_137 : decode cX7_isMark 137 = .ok (.bipush 122, 2) := by decide +kernel
theorem dX7_isMark_139 : decode cX7_isMark 139 = .ok (.invokestatic 102, 3) := by decide +kernel
theorem dX7_isMark_142 : decode cX7_isMark 142 = .ok (.ifCond .eq 7, 3) := by decide +kernel
theorem dX7_isMark_145 : decode cX7_isMark 145 = .ok (.iconst 1, 1) := by decide +kernel
theorem dX7_isMark_146 : decode cX7_isMark 146 = .ok (.goto 4, 3) := by decide +kernel
theorem dX7_isMark_149 : decode cX7_isMark 149 = .ok (.iconst 0, 1) := by decide +kernel
theorem dX7_isMark_150 : decode cX7_isMark 150 = .ok (.istore 4, 2) := by decide +kernel
theorem dX7_isMark_152 : decode cX7_isMark 152 = .ok (.aload_n 0, 1) := by decide +kernel
theorem dX7_isMark_153 : decode cX7_isMark 153 = .ok (.getfield 26, 3) := by decide +kernel
theorem dX7_isMark_156 : decode cX7_isMark 156 = .ok (.iload_n 1, 1) := by decide +kernel
theorem dX7_isMark_157 : decode cX7_isMark 157 = .ok (.bipush 27, 2) := by decide +kernel
theorem dX7_isMark_159 : decode cX7_isMark 159 = .ok (.aload_n 0, 1) := by decide +kernel
theorem dX7_isMark_160 : decode cX7_isMark 160 = .ok (.getfield 26, 3) := by decide +kernel
theorem dX7_isMark_163 : decode cX7_isMark 163 = .ok (.iload_n 1, 1) := by decide +kernel
theorem dX7_isMark_164 : decode cX7_isMark 164 = .ok (.iaload, 1) := by decide +kernel
theorem dX7_isMark_165 : decode cX7_isMark 165 = .ok (.imul, 1) := by decide +kernel
theorem dX7_isMark_166 : decode cX7_isMark 166 = .ok (.iload 4, 2) := by decide +kernel
theorem dX7_isMark_168 : decode cX7_isMark 168 = .ok (.ifCond .eq 19, 3) := by decide +kernel
theorem dX7_isMark_171 : decode cX7_isMark 171 = .ok (.aload_n 0, 1) := by decide +kernel
theorem dX7_isMark_172 : decode cX7_isMark 172 = .ok (.aload_n 0, 1) := by decide +kernel
theorem dX7_isMark_173 : decode cX7_isMark 173 = .ok (.getfield 113, 3) := by decide +kernel
theorem dX7_isMark_176 : decode cX7_isMark 176 = .ok (.invokevirtual 116, 3) := by decide +kernel
theorem dX7_isMark_179 : decode cX7_isMark 179 = .ok (.bipush 97, 2) := by decide +kernel
theorem dX7_isMark_181 : decode cX7_isMark 181 = .ok (.isub, 1) := by decide +kernel
theorem dX7_isMark_182 : decode cX7_isMark 182 = .ok (.iconst 1, 1) := by decide +kernel
theorem dX7_isMark_183 : decode cX7_isMark 183 = .ok (.iadd, 1) := by decide +kernel
theorem dX7_isMark_184 : decode cX7_isMark 184 = .ok (.goto 4, 3) := by decide +kernel
theorem dX7_isMark_187 : decode cX7_isMark 187 = .ok (.iconst 0, 1) := by decide +kernel
theorem dX7_isMark_188 : decode cX7_isMark 188 = .ok (.iadd, 1) := by decide +kernel
theorem dX7_isMark_189 : decode cX7_isMark 189 = .ok (.iastore, 1) := by decide +kernel
theorem dX7_isMark_190 : decode cX7_isMark 190 = .ok (.iload 4, 2) := by decide +kernel
theorem dX7_isMark_192 : decode cX7_isMark 192 = .ok (.ifCond .eq 13, 3) := by decide +kernel
theorem dX7_isMark_195 : decode cX7_isMark 195 = .ok (.aload_n 0, 1) := by decide +kernel
theorem dX7_isMark_196 : decode cX7_isMark 196 = .ok (.dup, 1) := by decide +kernel
theorem dX7_isMark_197 : decode cX7_isMark 197 = .ok (.getfield 113, 3) := by decide +kernel
theorem dX7_isMark_200 : decode cX7_isMark 200 = .ok (.iconst 1, 1) := by decide +kernel
theorem dX7_isMark_201 : decode cX7_isMark 201 = .ok (.iadd, 1) := by decide +kernel
theorem dX7_isMark_202 : decode cX7_isMark 202 = .ok (.putfield 113, 3) := by decide +kernel
theorem dX7_isMark_205 : decode cX7_isMark 205 = .ok (.iinc 3 1, 3) := by decide +kernel
theorem dX7_isMark_208 : decode cX7_isMark 208 = .ok (.goto (-96), 3) := by decide +kernel
theorem dX7_isMark_211 : decode cX7_isMark 211 = .ok (.aload_n 0, 1) := by decide +kernel
theorem dX7_isMark_212 : decode cX7_isMark 212 = .ok (.getfield 113, 3) := by decide +kernel
theorem dX7_isMark_215 : decode cX7_isMark 215 = .ok (.aload_n 0, 1) := by decide +kernel
theorem dX7_isMark_216 : decode cX7_isMark 216 = .ok (.getfield 106, 3) := by decide +kernel
theorem dX7_isMark_219 : decode cX7_isMark 219 = .ok (.if_icmp .ne 7, 3) := by decide +kernel
theorem dX7_isMark_222 : decode cX7_isMark 222 = .ok (.iconst 1, 1) := by decide +kernel
theorem dX7_isMark_223 : decode cX7_isMark 223 = .ok (.goto 4, 3) := by decide +kernel
theorem dX7_isMark_226 : decode cX7_isMark 226 = .ok (.iconst 0, 1) := by decide +kernel
theorem dX7_isMark_227 : decode cX7_isMark 227 = .ok (.ireturn, 1) := by decide +kernel
theorem dX7_book_0 : decode cX7_book 0 = .ok (.iload_n 1, 1) := by decide +kernel
theorem dX7_book_1 : decode cX7_book 1 = .ok (.iconst 0, 1) := by decide +kernel
theorem dX7_book_2 : decode cX7_book 2 = .ok (.iconst 4, 1) := by decide +kernel
theorem dX7_book_3 : decode cX7_book 3 = .ok (.invokestatic 102, 3) := by decide +kernel
theorem dX7_book_6 : decode cX7_book 6 = .ok (.ifCond .eq 33, 3) := by decide +kernel
theorem dX7_book_9 : decode cX7_book 9 = .ok (.iload_n 2, 1) := by decide +kernel
theorem dX7_book_10 : decode cX7_book 10 = .ok (.iconst 1, 1) := by decide +kernel
theorem dX7_book_11 : decode cX7_book 11 = .ok (.sipush 200, 3) := by decide +kernel
theorem dX7_book_14 : decode cX7_book 14 = .ok (.invokestatic 102, 3) := by decide +kernel
theorem dX7_book_17 : decode cX7_book 17 = .ok (.ifCond .eq 22, 3) := by decide +kernel
theorem dX7_book_20 : decode cX7_book 20 = .ok (.iload_n 3, 1) := by decide +kernel
theorem dX7_book_21 : decode cX7_book 21 = .ok (.iconst 1, 1) := by decide +kernel
theorem dX7_book_22 : decode cX7_book 22 = .ok (.bipush 100, 2) := by decide +kernel
theorem dX7_book_24 : decode cX7_book 24 = .ok (.invokestatic 102, 3) := by decide +kernel
theorem dX7_book_27 : decode cX7_book 27 = .ok (.ifCond .eq 12, 3) := by decide +kernel
theorem dX7_book_30 : decode cX7_book 30 = .ok (.aload_n 0, 1) := by decide +kernel
theorem dX7_book_31 : decode cX7_book 31 = .ok (.getfield 99, 3) := by decide +kernel
theorem dX7_book_34 : decode cX7_book 34 = .ok (.bipush 60, 2) := by decide +kernel
theorem dX7_book_36 : decode cX7_book 36 = .ok (.if_icmp .ne 5, 3) := by decide +kernel
theorem dX7_book_39 : decode cX7_book 39 = .ok (.iconst (-1), 1) := by decide +kernel
theorem dX7_book_40 : decode cX7_book 40 = .ok (.ireturn, 1) := by decide +kernel
theorem dX7_book_41 : decode cX7_book 41 = .ok (.aload_n 0, 1) := by decide +kernel
theorem dX7_book_42 : decode cX7_book 42 = .ok (.aload_n 0, 1) := by decide +kernel
theorem dX7_book_43 : decode cX7_book 43 = .ok (.getfield 99, 3) := by decide +kernel
theorem dX7_book_46 : decode cX7_book 46 = .ok (.invokevirtual 124, 3) := by decide +kernel
theorem dX7_book_49 : decode cX7_book 49 = .ok (.istore 4, 2) := by decide +kernel
theorem dX7_book_51 : decode cX7_book 51 = .ok (.aload_n 0, 1) := by decide +kernel
theorem dX7_book_52 : decode cX7_book 52 = .ok (.iload 4, 2) := by decide +kernel
theorem dX7_book_54 : decode cX7_book 54 = .ok (.ifCond .eq 7, 3) := by decide +kernel
theorem dX7_book_57 : decode cX7_book 57 = .ok (.iconst (-1), 1) := by decide +kernel
theorem dX7_book_58 : decode cX7_book 58 = .ok (.goto 7, 3) := by decide +kernel
theorem dX7_book_61 : decode cX7_book 61 = .ok (.aload_n 0, 1) := by decide +kernel
theorem dX7_book_62 : decode cX7_book 62 = .ok (.getfield 113, 3) := by decide +kernel
theorem dX7_book_65 : decode cX7_book 65 = .ok (.putfield 50, 3) := by decide +kernel
theorem dX7_book_68 : decode cX7_book 68 = .ok (.aload_n 0, 1) := by decide +kernel
theorem dX7_book_69 : decode cX7_book 69 = .ok (.iconst 0, 1) := by decide +kernel
theorem dX7_book_70 : decode cX7_book 70 = .ok (.putfield 106, 3) := by decide +kernel
theorem dX7_book_73 : decode cX7_book 73 = .ok (.iload 4, 2) := by decide +kernel
theorem dX7_book_75 : decode cX7_book 75 = .ok (.ifCond .ne 5, 3) := by decide +kernel
theorem dX7_book_78 : decode cX7_book 78 = .ok (.iconst (-1), 1) := by decide +kernel
theorem dX7_book_79 : decode cX7_book 79 = .ok (.ireturn, 1) := by decide +kernel
theorem dX7_book_80 : decode cX7_book 80 = .ok (.aload_n 0, 1) := by decide +kernel
theorem dX7_book_81 : decode cX7_book 81 = .ok (.getfield 29, 3) := by decide +kernel
theorem dX7_book_84 : decode cX7_book 84 = .ok (.aload_n 0, 1) := by decide +kernel
theorem dX7_book_85 : decode cX7_book 85 = .ok (.getfield 99, 3) := by decide +kernel
theorem dX7_book_88 : decode cX7_book 88 = .ok (.iload_n 1, 1) := by decide +kernel
theorem dX7_book_89 : decode cX7_book 89 = .ok (.iastore, 1) := by decide +kernel
theorem dX7_book_90 : decode cX7_book 90 = .ok (.aload_n 0, 1) := by decide +kernel
theorem dX7_book_91 : decode cX7_book 91 = .ok (.getfield 32, 3) := by decide +kernel
theorem dX7_book_94 : decode cX7_book 94 = .ok (.aload_n 0, 1) := by decide +kernel
theorem dX7_book_95 : decode cX7_book 95 = .ok (.getfield 99, 3) := by decide +kernel
theorem dX7_book_98 : decode cX7_book 98 = .ok (.iload_n 2, 1) := by decide +kernel
theorem dX7_book_99 : decode cX7_book 99 = .ok (.iastore, 1) := by decide +kernel
theorem dX7_book_100 : decode cX7_book 100 = .ok (.aload_n 0, 1) := by decide +kernel
theorem dX7_book_101 : decode cX7_book 101 = .ok (.getfield 35, 3) := by decide +kernel
theorem dX7_book_104 : decode cX7_book 104 = .ok (.aload_n 0, 1) := by decide +kernel
theorem dX7_book_105 : decode cX7_book 105 = .ok (.getfield 99, 3) := by decide +kernel
theorem dX7_book_108 : decode cX7_book 108 = .ok (.iload_n 3, 1) := by decide +kernel
theorem dX7_book_109 : decode cX7_book 109 = .ok (.iastore, 1) := by decide +kernel
theorem dX7_book_110 : decode cX7_book 110 = .ok (.aload_n 0, 1) := by decide +kernel
theorem dX7_book_111 : decode cX7_book 111 = .ok (.dup, 1) := by decide +kernel
theorem dX7_book_112 : decode cX7_book 112 = .ok (.getfield 99, 3) := by decide +kernel
theorem dX7_book_115 : decode cX7_book 115 = .ok (.iconst 1, 1) := by decide +kernel
theorem dX7_book_116 : decode cX7_book 116 = .ok (.iadd, 1) := by decide +kernel
theorem dX7_book_117 : decode cX7_book 117 = .ok (.putfield 99, 3) := by decide +kernel
theorem dX7_book_120 : decode cX7_book 120 = .ok (.aload_n 0, 1) := by decide +kernel
theorem dX7_book_121 : decode cX7_book 121 = .ok (.getfield 99, 3) := by decide +kernel
theorem dX7_book_124 : decode cX7_book 124 = .ok (.iconst 1, 1) := by decide +kernel
theorem dX7_book_125 : decode cX7_book 125 = .ok (.isub, 1) := by decide +kernel
theorem dX7_book_126 : decode cX7_book 126 = .ok (.ireturn, 1) := by decide +kernel
theorem dX7_wrong_0 : decode cX7_wrong 0 = .ok (.aload_n 0, 1) := by decide +kernel
theorem dX7_wrong_1 : decode cX7_wrong 1 = .ok (.getfield 50, 3) := by decide +kernel
theorem dX7_wrong_4 : decode cX7_wrong 4 = .ok (.ireturn, 1) := by decide +kernel
theorem dX7_rule_0 : decode cX7_rule 0 = .ok (.iload_n 1, 1) := by decide +kernel
theorem dX7_rule_1 : decode cX7_rule 1 = .ok (.iconst 0, 1) := by decide +kernel
theorem dX7_rule_2 : decode cX7_rule 2 = .ok (.iconst 1, 1) := by decide +kernel
theorem dX7_rule_3 : decode cX7_rule 3 = .ok (.invokestatic 102, 3) := by decide +kernel
theorem dX7_rule_6 : decode cX7_rule 6 = .ok (.ifCond .ne 5, 3) := by decide +kernel
theorem dX7_rule_9 : decode cX7_rule 9 = .ok (.iconst 0, 1) := by decide +kernel
theorem dX7_rule_10 : decode cX7_rule 10 = .ok (.ireturn, 1) := by decide +kernel
theorem dX7_rule_11 : decode cX7_rule 11 = .ok (.aload_n 0, 1) := by decide +kernel
theorem dX7_rule_12 : decode cX7_rule 12 = .ok (.iload_n 1, 1) := by decide +kernel
theorem dX7_rule_13 : decode cX7_rule 13 = .ok (.putfield 128, 3) := by decide +kernel
theorem dX7_rule_16 : decode cX7_rule 16 = .ok (.iconst 1, 1) := by decide +kernel
theorem dX7_rule_17 : decode cX7_rule 17 = .ok (.ireturn, 1) := by decide +kernel
theorem dX7_keyOf_0 : decode cX7_keyOf 0 = .ok (.aload_n 0, 1) := by decide +kernel
theorem dX7_keyOf_1 : decode cX7_keyOf 1 = .ok (.getfield 20, 3) := by decide +kernel
theorem dX7_keyOf_4 : decode cX7_keyOf 4 = .ok (.iload_n 1, 1) := by decide +kernel
theorem dX7_keyOf_5 : decode cX7_keyOf 5 = .ok (.iaload, 1) := by decide +kernel
theorem dX7_keyOf_6 : decode cX7_keyOf 6 = .ok (.ifCond .ge 5, 3) := by decide +kernel
theorem dX7_keyOf_9 : decode cX7_keyOf 9 = .ok (.iconst (-1), 1) := by decide +kernel
theorem dX7_keyOf_10 : decode cX7_keyOf 10 = .ok (.ireturn, 1) := by decide +kernel
theorem dX7_keyOf_11 : decode cX7_keyOf 11 = .ok (.aload_n 0, 1) := by decide +kernel
theorem dX7_keyOf_12 : decode cX7_keyOf 12 = .ok (.getfield 20, 3) := by decide +kernel
theorem dX7_keyOf_15 : decode cX7_keyOf 15 = .ok (.iload_n 1, 1) := by decide +kernel
theorem dX7_keyOf_16 : decode cX7_keyOf 16 = .ok (.iaload, 1) := by decide +kernel
theorem dX7_keyOf_17 : decode cX7_keyOf 17 = .ok (.istore_n 3, 1) := by decide +kernel
theorem dX7_keyOf_18 : decode cX7_keyOf 18 = .ok (.iload_n 2, 1) := by decide +kernel
theorem dX7_keyOf_19 : decode cX7_keyOf 19 = .ok (.ifCond .ne 28, 3) := by decide +kernel
theorem dX7_keyOf_22 : decode cX7_keyOf 22 = .ok (.aload_n 0, 1) := by decide +kernel
theorem dX7_keyOf_23 : decode cX7_keyOf 23 = .ok (.getfield 23, 3) := by decide +kernel
theorem dX7_keyOf_26 : decode cX7_keyOf 26 = .ok (.iload_n 1, 1) := by decide +kernel
theorem dX7_keyOf_27 : decode cX7_keyOf 27 = .ok (.iaload, 1) := by decide +kernel
theorem dX7_keyOf_28 : decode cX7_keyOf 28 = .ok (.istore 4, 2) := by decide +kernel
theorem dX7_keyOf_30 : decode cX7_keyOf 30 = .ok (.iload 4, 2) := by decide +kernel
theorem dX7_keyOf_32 : decode cX7_keyOf 32 = .ok (.iconst 4, 1) := by decide +kernel
theorem dX7_keyOf_33 : decode cX7_keyOf 33 = .ok (.if_icmp .ge 14, 3) := by decide +kernel
theorem dX7_keyOf_36 : decode cX7_keyOf 36 = .ok (.iload_n 3, 1) := by decide +kernel
theorem dX7_keyOf_37 : decode cX7_keyOf 37 = .ok (.bipush 10, 2) := by decide +kernel
theorem dX7_keyOf_39 : decode cX7_keyOf 39 = .ok (.imul, 1) := by decide +kernel
theorem dX7_keyOf_40 : decode cX7_keyOf 40 = .ok (.istore_n 3, 1) := by decide +kernel
theorem dX7_keyOf_41 : decode cX7_keyOf 41 = .ok (.iinc 4 1, 3) := by decide +kernel
theorem dX7_keyOf_44 : decode cX7_keyOf 44 = .ok (.goto (-14), 3) := by decide +kernel
theorem dX7_keyOf_47 : decode cX7_keyOf 47 = .ok (.bipush 10, 2) := by decide +kernel
theorem dX7_keyOf_49 : decode cX7_keyOf 49 = .ok (.iload_n 3, 1) := by decide +kernel
theorem dX7_keyOf_50 : decode cX7_keyOf 50 = .ok (.imul, 1) := by decide +kernel
theorem dX7_keyOf_51 : decode cX7_keyOf 51 = .ok (.aload_n 0, 1) := by decide +kernel
theorem dX7_keyOf_52 : decode cX7_keyOf 52 = .ok (.getfield 23, 3) := by decide +kernel
theorem dX7_keyOf_55 : decode cX7_keyOf 55 = .ok (.iload_n 1, 1) := by decide +kernel
theorem dX7_keyOf_56 : decode cX7_keyOf 56 = .ok (.iaload, 1) := by decide +kernel
theorem dX7_keyOf_57 : decode cX7_keyOf 57 = .ok (.iadd, 1) := by decide +kernel
theorem dX7_keyOf_58 : decode cX7_keyOf 58 = .ok (.ireturn, 1) := by decide +kernel
theorem dX7_sign_0 : decode cX7_sign 0 = .ok (.iload_n 0, 1) := by decide +kernel
theorem dX7_sign_1 : decode cX7_sign 1 = .ok (.iload_n 1, 1) := by decide +kernel
theorem dX7_sign_2 : decode cX7_sign 2 = .ok (.if_icmp .ge 7, 3) := by decide +kernel
theorem dX7_sign_5 : decode cX7_sign 5 = .ok (.iconst (-1), 1) := by decide +kernel
theorem dX7_sign_6 : decode cX7_sign 6 = .ok (.goto 13, 3) := by decide +kernel
theorem dX7_sign_9 : decode cX7_sign 9 = .ok (.iload_n 0, 1) := by decide +kernel
theorem dX7_sign_10 : decode cX7_sign 10 = .ok (.iload_n 1, 1) := by decide +kernel
theorem dX7_sign_11 : decode cX7_sign 11 = .ok (.if_icmp .le 7, 3) := by decide +kernel
theorem dX7_sign_14 : decode cX7_sign 14 = .ok (.iconst 1, 1) := by decide +kernel
theorem dX7_sign_15 : decode cX7_sign 15 = .ok (.goto 4, 3) := by decide +kernel
theorem dX7_sign_18 : decode cX7_sign 18 = .ok (.iconst 0, 1) := by decide +kernel
theorem dX7_sign_19 : decode cX7_sign 19 = .ok (.ireturn, 1) := by decide +kernel
theorem dX7_against_0 : decode cX7_against 0 = .ok (.aload_n 0, 1) := by decide +kernel
theorem dX7_against_1 : decode cX7_against 1 = .ok (.getfield 16, 3) := by decide +kernel
theorem dX7_against_4 : decode cX7_against 4 = .ok (.iload_n 1, 1) := by decide +kernel
theorem dX7_against_5 : decode cX7_against 5 = .ok (.iaload, 1) := by decide +kernel
theorem dX7_against_6 : decode cX7_against 6 = .ok (.aload_n 0, 1) := by decide +kernel
theorem dX7_against_7 : decode cX7_against 7 = .ok (.getfield 16, 3) := by decide +kernel
theorem dX7_against_10 : decode cX7_against 10 = .ok (.iload_n 2, 1) := by decide +kernel
theorem dX7_against_11 : decode cX7_against 11 = .ok (.iaload, 1) := by decide +kernel
theorem dX7_against_12 : decode cX7_against 12 = .ok (.if_icmp .eq 19, 3) := by decide +kernel
theorem dX7_against_15 : decode cX7_against 15 = .ok (.aload_n 0, 1) := by decide +kernel
theorem dX7_against_16 : decode cX7_against 16 = .ok (.getfield 16, 3) := by decide +kernel
theorem dX7_against_19 : decode cX7_against 19 = .ok (.iload_n 1, 1) := by decide +kernel
theorem dX7_against_20 : decode cX7_against 20 = .ok (.iaload, 1) := by decide +kernel
theorem dX7_against_21 : decode cX7_against 21 = .ok (.aload_n 0, 1) := by decide +kernel
theorem dX7_against_22 : decode cX7_against 22 = .ok (.getfield 16, 3) := by decide +kernel
theorem dX7_against_25 : decode cX7_against 25 = .ok (.iload_n 2, 1) := by decide +kernel
theorem dX7_against_26 : decode cX7_against 26 = .ok (.iaload, 1) := by decide +kernel
theorem dX7_against_27 : decode cX7_against 27 = .ok (.invokestatic 131, 3) := by decide +kernel
theorem dX7_against_30 : decode cX7_against 30 = .ok (.ireturn, 1) := by decide +kernel
theorem dX7_against_31 : decode cX7_against 31 = .ok (.aload_n 0, 1) := by decide +kernel
theorem dX7_against_32 : decode cX7_against 32 = .ok (.iload_n 1, 1) := by decide +kernel
theorem dX7_against_33 : decode cX7_against 33 = .ok (.iload_n 3, 1) := by decide +kernel
theorem dX7_against_34 : decode cX7_against 34 = .ok (.invokevirtual 135, 3) := by decide +kernel
theorem dX7_against_37 : decode cX7_against 37 = .ok (.aload_n 0, 1) := by decide +kernel
theorem dX7_against_38 : decode cX7_against 38 = .ok (.iload_n 2, 1) := by decide +kernel
theorem dX7_against_39 : decode cX7_against 39 = .ok (.iload_n 3, 1) := by decide +kernel
theorem dX7_against_40 : decode cX7_against 40 = .ok (.invokevirtual 135, 3) := by decide +kernel
theorem dX7_against_43 : decode cX7_against 43 = .ok (.if_icmp .eq 19, 3) := by decide +kernel
theorem dX7_against_46 : decode cX7_against 46 = .ok (.aload_n 0, 1) := by decide +kernel
theorem dX7_against_47 : decode cX7_against 47 = .ok (.iload_n 1, 1) := by decide +kernel
theorem dX7_against_48 : decode cX7_against 48 = .ok (.iload_n 3, 1) := by decide +kernel
theorem dX7_against_49 : decode cX7_against 49 = .ok (.invokevirtual 135, 3) := by decide +kernel
theorem dX7_against_52 : decode cX7_against 52 = .ok (.aload_n 0, 1) := by decide +kernel
theorem dX7_against_53 : decode cX7_against 53 = .ok (.iload_n 2, 1) := by decide +kernel
theorem dX7_against_54 : decode cX7_against 54 = .ok (.iload_n 3, 1) := by decide +kernel
theorem dX7_against_55 : decode cX7_against 55 = .ok (.invokevirtual 135, 3) := by decide +kernel
theorem dX7_against_58 : decode cX7_against 58 = .ok (.invokestatic 131, 3) := by decide +kernel
theorem dX7_against_61 : decode cX7_against 61 = .ok (.ireturn, 1) := by decide +kernel
theorem dX7_against_62 : decode cX7_against 62 = .ok (.aload_n 0, 1) := by decide +kernel
theorem dX7_against_63 : decode cX7_against 63 = .ok (.getfield 26, 3) := by decide +kernel
theorem dX7_against_66 : decode cX7_against 66 = .ok (.iload_n 1, 1) := by decide +kernel
theorem dX7_against_67 : decode cX7_against 67 = .ok (.iaload, 1) := by decide +kernel
theorem dX7_against_68 : decode cX7_against 68 = .ok (.aload_n 0, 1) := by decide +kernel
theorem dX7_against_69 : decode cX7_against 69 = .ok (.getfield 26, 3) := by decide +kernel
theorem dX7_against_72 : decode cX7_against 72 = .ok (.iload_n 2, 1) := by decide +kernel
theorem dX7_against_73 : decode cX7_against 73 = .ok (.iaload, 1) := by decide +kernel
theorem dX7_against_74 : decode cX7_against 74 = .ok (.if_icmp .eq 21, 3) := by decide +kernel
theorem dX7_against_77 : decode cX7_against 77 = .ok (.aload_n 0, 1) := by decide +kernel
theorem dX7_against_78 : decode cX7_against 78 = .ok (.getfield 26, 3) := by decide +kernel
theorem dX7_against_81 : decode cX7_against 81 = .ok (.iload_n 1, 1) := by decide +kernel
theorem dX7_against_82 : decode cX7_against 82 = .ok (.iaload, 1) := by decide +kernel
theorem dX7_against_83 : decode cX7_against 83 = .ok (.aload_n 0, 1) := by decide +kernel
theorem dX7_against_84 : decode cX7_against 84 = .ok (.getfield 26, 3) := by decide +kernel
theorem dX7_against_87 : decode cX7_against 87 = .ok (.iload_n 2, 1) := by decide +kernel
theorem dX7_against_88 : decode cX7_against 88 = .ok (.iaload, 1) := by decide +kernel
theorem dX7_against_89 : decode cX7_against 89 = .ok (.invokestatic 131, 3) := by decide +kernel
theorem dX7_against_92 : decode cX7_against 92 = .ok (.goto 8, 3) := by decide +kernel
theorem dX7_against_95 : decode cX7_against 95 = .ok (.iload_n 1, 1) := by decide +kernel
theorem dX7_against_96 : decode cX7_against 96 = .ok (.iload_n 2, 1) := by decide +kernel
theorem dX7_against_97 : decode cX7_against 97 = .ok (.invokestatic 131, 3) := by decide +kernel
theorem dX7_against_100 : decode cX7_against 100 = .ok (.ireturn, 1) := by decide +kernel
theorem dX7_compare_0 : decode cX7_compare 0 = .ok (.aload_n 0, 1) := by decide +kernel
theorem dX7_compare_1 : decode cX7_compare 1 = .ok (.iload_n 1, 1) := by decide +kernel
theorem dX7_compare_2 : decode cX7_compare 2 = .ok (.invokevirtual 138, 3) := by decide +kernel
theorem dX7_compare_5 : decode cX7_compare 5 = .ok (.ifCond .eq 30, 3) := by decide +kernel
theorem dX7_compare_8 : decode cX7_compare 8 = .ok (.aload_n 0, 1) := by decide +kernel
theorem dX7_compare_9 : decode cX7_compare 9 = .ok (.iload_n 2, 1) := by decide +kernel
theorem dX7_compare_10 : decode cX7_compare 10 = .ok (.invokevirtual 138, 3) := by decide +kernel
theorem dX7_compare_13 : decode cX7_compare 13 = .ok (.ifCond .eq 22, 3) := by decide +kernel
theorem dX7_compare_16 : decode cX7_compare 16 = .ok (.iload_n 3, 1) := by decide +kernel
theorem dX7_compare_17 : decode cX7_compare 17 = .ok (.iconst 0, 1) := by decide +kernel
theorem dX7_compare_18 : decode cX7_compare 18 = .ok (.iconst 1, 1) := by decide +kernel
theorem dX7_compare_19 : decode cX7_compare 19 = .ok (.invokestatic 102, 3) := by decide +kernel
theorem dX7_compare_22 : decode cX7_compare 22 = .ok (.ifCond .eq 13, 3) := by decide +kernel
theorem dX7_compare_25 : decode cX7_compare 25 = .ok (.aload_n 0, 1) := by decide +kernel
theorem dX7_compare_26 : decode cX7_compare 26 = .ok (.iload_n 1, 1) := by decide +kernel
theorem dX7_compare_27 : decode cX7_compare 27 = .ok (.iload_n 2, 1) := by decide +kernel
theorem dX7_compare_28 : decode cX7_compare 28 = .ok (.iload_n 3, 1) := by decide +kernel
theorem dX7_compare_29 : decode cX7_compare 29 = .ok (.invokevirtual 141, 3) := by decide +kernel
theorem dX7_compare_32 : decode cX7_compare 32 = .ok (.goto 5, 3) := by decide +kernel
theorem dX7_compare_35 : decode cX7_compare 35 = .ok (.bipush (-2), 2) := by decide +kernel
theorem dX7_compare_37 : decode cX7_compare 37 = .ok (.ireturn, 1) := by decide +kernel
theorem dX7_sort_0 : decode cX7_sort 0 = .ok (.iconst 0, 1) := by decide +kernel
theorem dX7_sort_1 : decode cX7_sort 1 = .ok (.istore_n 2, 1) := by decide +kernel
theorem dX7_sort_2 : decode cX7_sort 2 = .ok (.iload_n 2, 1) := by decide +kernel
theorem dX7_sort_3 : decode cX7_sort 3 = .ok (.aload_n 0, 1) := by decide +kernel
theorem dX7_sort_4 : decode cX7_sort 4 = .ok (.getfield 99, 3) := by decide +kernel
theorem dX7_sort_7 : decode cX7_sort 7 = .ok (.if_icmp .ge 59, 3) := by decide +kernel
theorem dX7_sort_10 : decode cX7_sort 10 = .ok (.iload_n 2, 1) := by decide +kernel
theorem dX7_sort_11 : decode cX7_sort 11 = .ok (.istore_n 3, 1) := by decide +kernel
theorem dX7_sort_12 : decode cX7_sort 12 = .ok (.iload_n 3, 1) := by decide +kernel
theorem dX7_sort_13 : decode cX7_sort 13 = .ok (.ifCond .le 40, 3) := by decide +kernel
theorem dX7_sort_16 : decode cX7_sort 16 = .ok (.aload_n 0, 1) := by decide +kernel
theorem dX7_sort_17 : decode cX7_sort 17 = .ok (.aload_n 0, 1) := by decide +kernel
theorem dX7_sort_18 : decode cX7_sort 18 = .ok (.getfield 53, 3) := by decide +kernel
theorem dX7_sort_21 : decode cX7_sort 21 = .ok (.iload_n 3, 1) := by decide +kernel
theorem dX7_sort_22 : decode cX7_sort 22 = .ok (.iconst 1, 1) := by decide +kernel
theorem dX7_sort_23 : decode cX7_sort 23 = .ok (.isub, 1) := by decide +kernel
theorem dX7_sort_24 : decode cX7_sort 24 = .ok (.iaload, 1) := by decide +kernel
theorem dX7_sort_25 : decode cX7_sort 25 = .ok (.iload_n 2, 1) := by decide +kernel
theorem dX7_sort_26 : decode cX7_sort 26 = .ok (.iload_n 1, 1) := by decide +kernel
theorem dX7_sort_27 : decode cX7_sort 27 = .ok (.invokevirtual 141, 3) := by decide +kernel
theorem dX7_sort_30 : decode cX7_sort 30 = .ok (.ifCond .le 23, 3) := by decide +kernel
theorem dX7_sort_33 : decode cX7_sort 33 = .ok (.aload_n 0, 1) := by decide +kernel
theorem dX7_sort_34 : decode cX7_sort 34 = .ok (.getfield 53, 3) := by decide +kernel
theorem dX7_sort_37 : decode cX7_sort 37 = .ok (.iload_n 3, 1) := by decide +kernel
theorem dX7_sort_38 : decode cX7_sort 38 = .ok (.aload_n 0, 1) := by decide +kernel
theorem dX7_sort_39 : decode cX7_sort 39 = .ok (.getfield 53, 3) := by decide +kernel
theorem dX7_sort_42 : decode cX7_sort 42 = .ok (.iload_n 3, 1) := by decide +kernel
theorem dX7_sort_43 : decode cX7_sort 43 = .ok (.iconst 1, 1) := by decide +kernel
theorem dX7_sort_44 : decode cX7_sort 44 = .ok (.isub, 1) := by decide +kernel
theorem dX7_sort_45 : decode cX7_sort 45 = .ok (.iaload, 1) := by decide +kernel
theorem dX7_sort_46 : decode cX7_sort 46 = .ok (.iastore, 1) := by decide +kernel
theorem dX7_sort_47 : decode cX7_sort 47 = .ok (.iinc 3 (-1), 3) := by decide +kernel
theorem dX7_sort_50 : decode cX7_sort 50 = .ok (.goto (-38), 3) := by decide +kernel
theorem dX7_sort_53 : decode cX7_sort 53 = .ok (.aload_n 0, 1) := by decide +kernel
theorem dX7_sort_54 : decode cX7_sort 54 = .ok (.getfield 53, 3) := by decide +kernel
theorem dX7_sort_57 : decode cX7_sort 57 = .ok (.iload_n 3, 1) := by decide +kernel
theorem dX7_sort_58 : decode cX7_sort 58 = .ok (.iload_n 2, 1) := by decide +kernel
theorem dX7_sort_59 : decode cX7_sort 59 = .ok (.iastore, 1) := by decide +kernel
theorem dX7_sort_60 : decode cX7_sort 60 = .ok (.iinc 2 1, 3) := by decide +kernel
theorem dX7_sort_63 : decode cX7_sort 63 = .ok (.goto (-61), 3) := by decide +kernel
theorem dX7_sort_66 : decode cX7_sort 66 = .ok (.return_, 1) := by decide +kernel
theorem dX7_ordered_0 : decode cX7_ordered 0 = .ok (.iload_n 1, 1) := by decide +kernel
theorem dX7_ordered_1 : decode cX7_ordered 1 = .ok (.iconst 0, 1) := by decide +kernel
theorem dX7_ordered_2 : decode cX7_ordered 2 = .ok (.aload_n 0, 1) := by decide +kernel
theorem dX7_ordered_3 : decode cX7_ordered 3 = .ok (.getfield 99, 3) := by decide +kernel
theorem dX7_ordered_6 : decode cX7_ordered 6 = .ok (.iconst 1, 1) := by decide +kernel
theorem dX7_ordered_7 : decode cX7_ordered 7 = .ok (.isub, 1) := by decide +kernel
theorem dX7_ordered_8 : decode cX7_ordered 8 = .ok (.invokestatic 102, 3) := by decide +kernel
theorem dX7_ordered_11 : decode cX7_ordered 11 = .ok (.ifCond .eq 12, 3) := by decide +kernel
theorem dX7_ordered_14 : decode cX7_ordered 14 = .ok (.iload_n 2, 1) := by decide +kernel
theorem dX7_ordered_15 : decode cX7_ordered 15 = .ok (.iconst 0, 1) := by decide +kernel
theorem dX7_ordered_16 : decode cX7_ordered 16 = .ok (.iconst 1, 1) := by decide +kernel
theorem dX7_ordered_17 : decode cX7_ordered 17 = .ok (.invokestatic 102, 3) := by decide +kernel
theorem dX7_ordered_20 : decode cX7_ordered 20 = .ok (.ifCond .ne 5, 3) := by decide +kernel
theorem dX7_ordered_23 : decode cX7_ordered 23 = .ok (.iconst (-1), 1) := by decide +kernel
theorem dX7_ordered_24 : decode cX7_ordered 24 = .ok (.ireturn, 1) := by decide +kernel
theorem dX7_ordered_25 : decode cX7_ordered 25 = .ok (.aload_n 0, 1) := by decide +kernel
theorem dX7_ordered_26 : decode cX7_ordered 26 = .ok (.iload_n 2, 1) := by decide +kernel
theorem dX7_ordered_27 : decode cX7_ordered 27 = .ok (.invokevirtual 145, 3) := by decide +kernel
theorem dX7_ordered_30 : decode cX7_ordered 30 = .ok (.aload_n 0, 1) := by decide +kernel
theorem dX7_ordered_31 : decode cX7_ordered 31 = .ok (.getfield 53, 3) := by decide +kernel
theorem dX7_ordered_34 : decode cX7_ordered 34 = .ok (.iload_n 1, 1) := by decide +kernel
theorem dX7_ordered_35 : decode cX7_ordered 35 = .ok (.iaload, 1) := by decide +kernel
theorem dX7_ordered_36 : decode cX7_ordered 36 = .ok (.ireturn, 1) := by decide +kernel
theorem dX7_quarrels_0 : decode cX7_quarrels 0 = .ok (.iconst 0, 1) := by decide +kernel
theorem dX7_quarrels_1 : decode cX7_quarrels 1 = .ok (.istore_n 1, 1) := by decide +kernel
theorem dX7_quarrels_2 : decode cX7_quarrels 2 = .ok (.iconst 0, 1) := by decide +kernel
theorem dX7_quarrels_3 : decode cX7_quarrels 3 = .ok (.istore_n 2, 1) := by decide +kernel
theorem dX7_quarrels_4 : decode cX7_quarrels 4 = .ok (.iload_n 2, 1) := by decide +kernel
theorem dX7_quarrels_5 : decode cX7_quarrels 5 = .ok (.aload_n 0, 1) := by decide +kernel
theorem dX7_quarrels_6 : decode cX7_quarrels 6 = .ok (.getfield 99, 3) := by decide +kernel
theorem dX7_quarrels_9 : decode cX7_quarrels 9 = .ok (.if_icmp .ge 47, 3) := by decide +kernel
theorem dX7_quarrels_12 : decode cX7_quarrels 12 = .ok (.iconst 0, 1) := by decide +kernel
theorem dX7_quarrels_13 : decode cX7_quarrels 13 = .ok (.istore_n 3, 1) := by decide +kernel
theorem dX7_quarrels_14 : decode cX7_quarrels 14 = .ok (.iload_n 3, 1) := by decide +kernel
theorem dX7_quarrels_15 : decode cX7_quarrels 15 = .ok (.iload_n 2, 1) := by decide +kernel
theorem dX7_quarrels_16 : decode cX7_quarrels 16 = .ok (.if_icmp .ge 34, 3) := by decide +kernel
theorem dX7_quarrels_19 : decode cX7_quarrels 19 = .ok (.iload_n 1, 1) := by decide +kernel
theorem dX7_quarrels_20 : decode cX7_quarrels 20 = .ok (.aload_n 0, 1) := by decide +kernel
theorem dX7_quarrels_21 : decode cX7_quarrels 21 = .ok (.iload_n 2, 1) := by decide +kernel
theorem dX7_quarrels_22 : decode cX7_quarrels 22 = .ok (.iload_n 3, 1) := by decide +kernel
theorem dX7_quarrels_23 : decode cX7_quarrels 23 = .ok (.iconst 0, 1) := by decide +kernel
theorem dX7_quarrels_24 : decode cX7_quarrels 24 = .ok (.invokevirtual 141, 3) := by decide +kernel
theorem dX7_quarrels_27 : decode cX7_quarrels 27 = .ok (.aload_n 0, 1) := by decide +kernel
theorem dX7_quarrels_28 : decode cX7_quarrels 28 = .ok (.iload_n 2, 1) := by decide +kernel
theorem dX7_quarrels_29 : decode cX7_quarrels 29 = .ok (.iload_n 3, 1) := by decide +kernel
theorem dX7_quarrels_30 : decode cX7_quarrels 30 = .ok (.iconst 1, 1) := by decide +kernel
theorem dX7_quarrels_31 : decode cX7_quarrels 31 = .ok (.invokevirtual 141, 3) := by decide +kernel
theorem dX7_quarrels_34 : decode cX7_quarrels 34 = .ok (.if_icmp .eq 7, 3) := by decide +kernel
theorem dX7_quarrels_37 : decode cX7_quarrels 37 = .ok (.iconst 1, 1) := by decide +kernel
theorem dX7_quarrels_38 : decode cX7_quarrels 38 = .ok (.goto 4, 3) := by decide +kernel
theorem dX7_quarrels_41 : decode cX7_quarrels 41 = .ok (.iconst 0, 1) := by decide +kernel
theorem dX7_quarrels_42 : decode cX7_quarrels 42 = .ok (.iadd, 1) := by decide +kernel
theorem dX7_quarrels_43 : decode cX7_quarrels 43 = .ok (.istore_n 1, 1) := by decide +kernel
theorem dX7_quarrels_44 : decode cX7_quarrels 44 = .ok (.iinc 3 1, 3) := by decide +kernel
theorem dX7_quarrels_47 : decode cX7_quarrels 47 = .ok (.goto (-33), 3) := by decide +kernel
theorem dX7_quarrels_50 : decode cX7_quarrels 50 = .ok (.iinc 2 1, 3) := by decide +kernel
theorem dX7_quarrels_53 : decode cX7_quarrels 53 = .ok (.goto (-49), 3) := by decide +kernel
theorem dX7_quarrels_56 : decode cX7_quarrels 56 = .ok (.iload_n 1, 1) := by decide +kernel
theorem dX7_quarrels_57 : decode cX7_quarrels 57 = .ok (.ireturn, 1) := by decide +kernel
theorem dX7_shelf_0 : decode cX7_shelf 0 = .ok (.iload_n 1, 1) := by decide +kernel
theorem dX7_shelf_1 : decode cX7_shelf 1 = .ok (.iconst 1, 1) := by decide +kernel
theorem dX7_shelf_2 : decode cX7_shelf 2 = .ok (.sipush 2000, 3) := by decide +kernel
theorem dX7_shelf_5 : decode cX7_shelf 5 = .ok (.invokestatic 102, 3) := by decide +kernel
theorem dX7_shelf_8 : decode cX7_shelf 8 = .ok (.ifCond .eq 12, 3) := by decide +kernel
theorem dX7_shelf_11 : decode cX7_shelf 11 = .ok (.aload_n 0, 1) := by decide +kernel
theorem dX7_shelf_12 : decode cX7_shelf 12 = .ok (.getfield 148, 3) := by decide +kernel
theorem dX7_shelf_15 : decode cX7_shelf 15 = .ok (.bipush 16, 2) := by decide +kernel
theorem dX7_shelf_17 : decode cX7_shelf 17 = .ok (.if_icmp .ne 5, 3) := by decide +kernel
theorem dX7_shelf_20 : decode cX7_shelf 20 = .ok (.iconst (-1), 1) := by decide +kernel
theorem dX7_shelf_21 : decode cX7_shelf 21 = .ok (.ireturn, 1) := by decide +kernel
theorem dX7_shelf_22 : decode cX7_shelf 22 = .ok (.aload_n 0, 1) := by decide +kernel
theorem dX7_shelf_23 : decode cX7_shelf 23 = .ok (.getfield 38, 3) := by decide +kernel
theorem dX7_shelf_26 : decode cX7_shelf 26 = .ok (.aload_n 0, 1) := by decide +kernel
theorem dX7_shelf_27 : decode cX7_shelf 27 = .ok (.getfield 148, 3) := by decide +kernel
theorem dX7_shelf_30 : decode cX7_shelf 30 = .ok (.iload_n 1, 1) := by decide +kernel
theorem dX7_shelf_31 : decode cX7_shelf 31 = .ok (.iastore, 1) := by decide +kernel
theorem dX7_shelf_32 : decode cX7_shelf 32 = .ok (.aload_n 0, 1) := by decide +kernel
theorem dX7_shelf_33 : decode cX7_shelf 33 = .ok (.dup, 1) := by decide +kernel
theorem dX7_shelf_34 : decode cX7_shelf 34 = .ok (.getfield 148, 3) := by decide +kernel
theorem dX7_shelf_37 : decode cX7_shelf 37 = .ok (.iconst 1, 1) := by decide +kernel
theorem dX7_shelf_38 : decode cX7_shelf 38 = .ok (.iadd, 1) := by decide +kernel
theorem dX7_shelf_39 : decode cX7_shelf 39 = .ok (.putfield 148, 3) := by decide +kernel
theorem dX7_shelf_42 : decode cX7_shelf 42 = .ok (.aload_n 0, 1) := by decide +kernel
theorem dX7_shelf_43 : decode cX7_shelf 43 = .ok (.getfield 148, 3) := by decide +kernel
theorem dX7_shelf_46 : decode cX7_shelf 46 = .ok (.iconst 1, 1) := by decide +kernel
theorem dX7_shelf_47 : decode cX7_shelf 47 = .ok (.isub, 1) := by decide +kernel
theorem dX7_shelf_48 : decode cX7_shelf 48 = .ok (.ireturn, 1) := by decide +kernel
theorem dX7_sizes_0 : decode cX7_sizes 0 = .ok (.iload_n 1, 1) := by decide +kernel
theorem dX7_sizes_1 : decode cX7_sizes 1 = .ok (.iconst 0, 1) := by decide +kernel
theorem dX7_sizes_2 : decode cX7_sizes 2 = .ok (.bipush 9, 2) := by decide +kernel
theorem dX7_sizes_4 : decode cX7_sizes 4 = .ok (.invokestatic 102, 3) := by decide +kernel
theorem dX7_sizes_7 : decode cX7_sizes 7 = .ok (.ifCond .eq 22, 3) := by decide +kernel
theorem dX7_sizes_10 : decode cX7_sizes 10 = .ok (.iload_n 2, 1) := by decide +kernel
theorem dX7_sizes_11 : decode cX7_sizes 11 = .ok (.iconst 0, 1) := by decide +kernel
theorem dX7_sizes_12 : decode cX7_sizes 12 = .ok (.bipush 100, 2) := by decide +kernel
theorem dX7_sizes_14 : decode cX7_sizes 14 = .ok (.invokestatic 102, 3) := by decide +kernel
theorem dX7_sizes_17 : decode cX7_sizes 17 = .ok (.ifCond .eq 12, 3) := by decide +kernel
theorem dX7_sizes_20 : decode cX7_sizes 20 = .ok (.aload_n 0, 1) := by decide +kernel
theorem dX7_sizes_21 : decode cX7_sizes 21 = .ok (.getfield 41, 3) := by decide +kernel
theorem dX7_sizes_24 : decode cX7_sizes 24 = .ok (.iload_n 1, 1) := by decide +kernel
theorem dX7_sizes_25 : decode cX7_sizes 25 = .ok (.iload_n 2, 1) := by decide +kernel
theorem dX7_sizes_26 : decode cX7_sizes 26 = .ok (.iastore, 1) := by decide +kernel
theorem dX7_sizes_27 : decode cX7_sizes 27 = .ok (.iconst 1, 1) := by decide +kernel
theorem dX7_sizes_28 : decode cX7_sizes 28 = .ok (.ireturn, 1) := by decide +kernel
theorem dX7_sizes_29 : decode cX7_sizes 29 = .ok (.iload_n 1, 1) := by decide +kernel
theorem dX7_sizes_30 : decode cX7_sizes 30 = .ok (.iconst (-1), 1) := by decide +kernel
theorem dX7_sizes_31 : decode cX7_sizes 31 = .ok (.if_icmp .ne 20, 3) := by decide +kernel
theorem dX7_sizes_34 : decode cX7_sizes 34 = .ok (.iload_n 2, 1) := by decide +kernel
theorem dX7_sizes_35 : decode cX7_sizes 35 = .ok (.iconst 1, 1) := by decide +kernel
theorem dX7_sizes_36 : decode cX7_sizes 36 = .ok (.bipush 100, 2) := by decide +kernel
theorem dX7_sizes_38 : decode cX7_sizes 38 = .ok (.invokestatic 102, 3) := by decide +kernel
theorem dX7_sizes_41 : decode cX7_sizes 41 = .ok (.ifCond .eq 10, 3) := by decide +kernel
theorem dX7_sizes_44 : decode cX7_sizes 44 = .ok (.aload_n 0, 1) := by decide +kernel
theorem dX7_sizes_45 : decode cX7_sizes 45 = .ok (.iload_n 2, 1) := by decide +kernel
theorem dX7_sizes_46 : decode cX7_sizes 46 = .ok (.putfield 7, 3) := by decide +kernel
theorem dX7_sizes_49 : decode cX7_sizes 49 = .ok (.iconst 1, 1) := by decide +kernel
theorem dX7_sizes_50 : decode cX7_sizes 50 = .ok (.ireturn, 1) := by decide +kernel
theorem dX7_sizes_51 : decode cX7_sizes 51 = .ok (.iload_n 1, 1) := by decide +kernel
theorem dX7_sizes_52 : decode cX7_sizes 52 = .ok (.bipush (-2), 2) := by decide +kernel
theorem dX7_sizes_54 : decode cX7_sizes 54 = .ok (.if_icmp .ne 14, 3) := by decide +kernel
theorem dX7_sizes_57 : decode cX7_sizes 57 = .ok (.iload_n 2, 1) := by decide +kernel
theorem dX7_sizes_58 : decode cX7_sizes 58 = .ok (.iconst 1, 1) := by decide +kernel
theorem dX7_sizes_59 : decode cX7_sizes 59 = .ok (.sipush 1000, 3) := by decide +kernel
theorem dX7_sizes_62 : decode cX7_sizes 62 = .ok (.invokestatic 102, 3) := by decide +kernel
theorem dX7_sizes_65 : decode cX7_sizes 65 = .ok (.ifCond .ne 5, 3) := by decide +kernel
theorem dX7_sizes_68 : decode cX7_sizes 68 = .ok (.iconst 0, 1) := by decide +kernel
theorem dX7_sizes_69 : decode cX7_sizes 69 = .ok (.ireturn, 1) := by decide +kernel
theorem dX7_sizes_70 : decode cX7_sizes 70 = .ok (.aload_n 0, 1) := by decide +kernel
theorem dX7_sizes_71 : decode cX7_sizes 71 = .ok (.iload_n 2, 1) := by decide +kernel
theorem dX7_sizes_72 : decode cX7_sizes 72 = .ok (.putfield 13, 3) := by decide +kernel
theorem dX7_sizes_75 : decode cX7_sizes 75 = .ok (.iconst 1, 1) := by decide +kernel
theorem dX7_sizes_76 : decode cX7_sizes 76 = .ok (.ireturn, 1) := by decide +kernel
theorem dX7_lay_0 : decode cX7_lay 0 = .ok (.aload_n 0, 1) := by decide +kernel
theorem dX7_lay_1 : decode cX7_lay 1 = .ok (.aload_n 0, 1) := by decide +kernel
theorem dX7_lay_2 : decode cX7_lay 2 = .ok (.getfield 128, 3) := by decide +kernel
theorem dX7_lay_5 : decode cX7_lay 5 = .ok (.invokevirtual 145, 3) := by decide +kernel
theorem dX7_lay_8 : decode cX7_lay 8 = .ok (.aload_n 0, 1) := by decide +kernel
theorem dX7_lay_9 : decode cX7_lay 9 = .ok (.iconst 0, 1) := by decide +kernel
theorem dX7_lay_10 : decode cX7_lay 10 = .ok (.putfield 151, 3) := by decide +kernel
theorem dX7_lay_13 : decode cX7_lay 13 = .ok (.aload_n 0, 1) := by decide +kernel
theorem dX7_lay_14 : decode cX7_lay 14 = .ok (.iconst 0, 1) := by decide +kernel
theorem dX7_lay_15 : decode cX7_lay 15 = .ok (.putfield 154, 3) := by decide +kernel
theorem dX7_lay_18 : decode cX7_lay 18 = .ok (.iconst 0, 1) := by decide +kernel
theorem dX7_lay_19 : decode cX7_lay 19 = .ok (.istore_n 1, 1) := by decide +kernel
theorem dX7_lay_20 : decode cX7_lay 20 = .ok (.iload_n 1, 1) := by decide +kernel
theorem dX7_lay_21 : decode cX7_lay 21 = .ok (.aload_n 0, 1) := by decide +kernel
theorem dX7_lay_22 : decode cX7_lay 22 = .ok (.getfield 148, 3) := by decide +kernel
theorem dX7_lay_25 : decode cX7_lay 25 = .ok (.if_icmp .ge 23, 3) := by decide +kernel
theorem dX7_lay_28 : decode cX7_lay 28 = .ok (.aload_n 0, 1) := by decide +kernel
theorem dX7_lay_29 : decode cX7_lay 29 = .ok (.getfield 62, 3) := by decide +kernel
theorem dX7_lay_32 : decode cX7_lay 32 = .ok (.iload_n 1, 1) := by decide +kernel
theorem dX7_lay_33 : decode cX7_lay 33 = .ok (.iconst 0, 1) := by decide +kernel
theorem dX7_lay_34 : decode cX7_lay 34 = .ok (.iastore, 1) := by decide +kernel
theorem dX7_lay_35 : decode cX7_lay 35 = .ok (.aload_n 0, 1) := by decide +kernel
theorem dX7_lay_36 : decode cX7_lay 36 = .ok (.getfield 65, 3) := by decide +kernel
theorem dX7_lay_39 : decode cX7_lay 39 = .ok (.iload_n 1, 1) := by decide +kernel
theorem dX7_lay_40 : decode cX7_lay 40 = .ok (.iconst 0, 1) := by decide +kernel
theorem dX7_lay_41 : decode cX7_lay 41 = .ok (.iastore, 1) := by decide +kernel
theorem dX7_lay_42 : decode cX7_lay 42 = .ok (.iinc 1 1, 3) := by decide +kernel
theorem dX7_lay_45 : decode cX7_lay 45 = .ok (.goto (-25), 3) := by decide +kernel
theorem dX7_lay_48 : decode cX7_lay 48 = .ok (.iconst 0, 1) := by decide +kernel
theorem dX7_lay_49 : decode cX7_lay 49 = .ok (.istore_n 1, 1) := by decide +kernel
theorem dX7_lay_50 : decode cX7_lay 50 = .ok (.iconst 0, 1) := by decide +kernel
theorem dX7_lay_51 : decode cX7_lay 51 = .ok (.istore_n 2, 1) := by decide +kernel
theorem dX7_lay_52 : decode cX7_lay 52 = .ok (.iload_n 2, 1) := by decide +kernel
theorem dX7_lay_53 : decode cX7_lay 53 = .ok (.aload_n 0, 1) := by decide +kernel
theorem dX7_lay_54 : decode cX7_lay 54 = .ok (.getfield 99, 3) := by decide +kernel
theorem dX7_lay_57 : decode cX7_lay 57 = .ok (.if_icmp .ge 172, 3) := by decide +kernel
theorem dX7_lay_60 : decode cX7_lay 60 = .ok (.aload_n 0, 1) := by decide +kernel
theorem dX7_lay_61 : decode cX7_lay 61 = .ok (.getfield 53, 3) := by decide +kernel
theorem dX7_lay_64 : decode cX7_lay 64 = .ok (.iload_n 2, 1) := by decide +kernel
theorem dX7_lay_65 : decode cX7_lay 65 = .ok (.iaload, 1) := by decide +kernel
theorem dX7_lay_66 : decode cX7_lay 66 = .ok (.istore_n 3, 1) := by decide +kernel
theorem dX7_lay_67 : decode cX7_lay 67 = .ok (.aload_n 0, 1) := by decide +kernel
theorem dX7_lay_68 : decode cX7_lay 68 = .ok (.getfield 56, 3) := by decide +kernel
theorem dX7_lay_71 : decode cX7_lay 71 = .ok (.iload_n 3, 1) := by decide +kernel
theorem dX7_lay_72 : decode cX7_lay 72 = .ok (.iconst (-1), 1) := by decide +kernel
theorem dX7_lay_73 : decode cX7_lay 73 = .ok (.iastore, 1) := by decide +kernel
theorem dX7_lay_74 : decode cX7_lay 74 = .ok (.aload_n 0, 1) := by decide +kernel
theorem dX7_lay_75 : decode cX7_lay 75 = .ok (.getfield 35, 3) := by decide +kernel
theorem dX7_lay_78 : decode cX7_lay 78 = .ok (.iload_n 3, 1) := by decide +kernel
theorem dX7_lay_79 : decode cX7_lay 79 = .ok (.iaload, 1) := by decide +kernel
theorem dX7_lay_80 : decode cX7_lay 80 = .ok (.aload_n 0, 1) := by decide +kernel
theorem dX7_lay_81 : decode cX7_lay 81 = .ok (.getfield 7, 3) := by decide +kernel
theorem dX7_lay_84 : decode cX7_lay 84 = .ok (.if_icmp .le 16, 3) := by decide +kernel
theorem dX7_lay_87 : decode cX7_lay 87 = .ok (.aload_n 0, 1) := by decide +kernel
theorem dX7_lay_88 : decode cX7_lay 88 = .ok (.dup, 1) := by decide +kernel
theorem dX7_lay_89 : decode cX7_lay 89 = .ok (.getfield 151, 3) := by decide +kernel
theorem dX7_lay_92 : decode cX7_lay 92 = .ok (.iconst 1, 1) := by decide +kernel
theorem dX7_lay_93 : decode cX7_lay 93 = .ok (.iadd, 1) := by decide +kernel
theorem dX7_lay_94 : decode cX7_lay 94 = .ok (.putfield 151, 3) := by decide +kernel
theorem dX7_lay_97 : decode cX7_lay 97 = .ok (.goto 126, 3) := by decide +kernel
theorem dX7_lay_100 : decode cX7_lay 100 = .ok (.aload_n 0, 1) := by decide +kernel
theorem dX7_lay_101 : decode cX7_lay 101 = .ok (.getfield 32, 3) := by decide +kernel
theorem dX7_lay_104 : decode cX7_lay 104 = .ok (.iload_n 3, 1) := by decide +kernel
theorem dX7_lay_105 : decode cX7_lay 105 = .ok (.iaload, 1) := by decide +kernel
theorem dX7_lay_106 : decode cX7_lay 106 = .ok (.bipush 100, 2) := by decide +kernel
theorem dX7_lay_108 : decode cX7_lay 108 = .ok (.aload_n 0, 1) := by decide +kernel
theorem dX7_lay_109 : decode cX7_lay 109 = .ok (.getfield 41, 3) := by decide +kernel
theorem dX7_lay_112 : decode cX7_lay 112 = .ok (.aload_n 0, 1) := by decide +kernel
theorem dX7_lay_113 : decode cX7_lay 113 = .ok (.getfield 16, 3) := by decide +kernel
theorem dX7_lay_116 : decode cX7_lay 116 = .ok (.iload_n 3, 1) := by decide +kernel
theorem dX7_lay_117 : decode cX7_lay 117 = .ok (.iaload, 1) := by decide +kernel
theorem dX7_lay_118 : decode cX7_lay 118 = .ok (.sipush 1000, 3) := by decide +kernel
theorem dX7_lay_121 : decode cX7_lay 121 = .ok (.idiv, 1) := by decide +kernel
theorem dX7_lay_122 : decode cX7_lay 122 = .ok (.iaload, 1) := by decide +kernel
theorem dX7_lay_123 : decode cX7_lay 123 = .ok (.iadd, 1) := by decide +kernel
theorem dX7_lay_124 : decode cX7_lay 124 = .ok (.imul, 1) := by decide +kernel
theorem dX7_lay_125 : decode cX7_lay 125 = .ok (.istore 4, 2) := by decide +kernel
theorem dX7_lay_127 : decode cX7_lay 127 = .ok (.iload_n 1, 1) := by decide +kernel
theorem dX7_lay_128 : decode cX7_lay 128 = .ok (.aload_n 0, 1) := by decide +kernel
theorem dX7_lay_129 : decode cX7_lay 129 = .ok (.getfield 148, 3) := by decide +kernel
theorem dX7_lay_132 : decode cX7_lay 132 = .ok (.if_icmp .ge 30, 3) := by decide +kernel
theorem dX7_lay_135 : decode cX7_lay 135 = .ok (.aload_n 0, 1) := by decide +kernel
theorem dX7_lay_136 : decode cX7_lay 136 = .ok (.getfield 65, 3) := by decide +kernel
theorem dX7_lay_139 : decode cX7_lay 139 = .ok (.iload_n 1, 1) := by decide +kernel
theorem dX7_lay_140 : decode cX7_lay 140 = .ok (.iaload, 1) := by decide +kernel
theorem dX7_lay_141 : decode cX7_lay 141 = .ok (.iload 4, 2) := by decide +kernel
theorem dX7_lay_143 : decode cX7_lay 143 = .ok (.iadd, 1) := by decide +kernel
theorem dX7_lay_144 : decode cX7_lay 144 = .ok (.bipush 100, 2) := by decide +kernel
theorem dX7_lay_146 : decode cX7_lay 146 = .ok (.aload_n 0, 1) := by decide +kernel
theorem dX7_lay_147 : decode cX7_lay 147 = .ok (.getfield 38, 3) := by decide +kernel
theorem dX7_lay_150 : decode cX7_lay 150 = .ok (.iload_n 1, 1) := by decide +kernel
theorem dX7_lay_151 : decode cX7_lay 151 = .ok (.iaload, 1) := by decide +kernel
theorem dX7_lay_152 : decode cX7_lay 152 = .ok (.imul, 1) := by decide +kernel
theorem dX7_lay_153 : decode cX7_lay 153 = .ok (.if_icmp .le 9, 3) := by decide +kernel
theorem dX7_lay_156 : decode cX7_lay 156 = .ok (.iinc 1 1, 3) := by decide +kernel
theorem dX7_lay_159 : decode cX7_lay 159 = .ok (.goto (-32), 3) := by decide +kernel
theorem dX7_lay_162 : decode cX7_lay 162 = .ok (.iload_n 1, 1) := by decide +kernel
theorem dX7_lay_163 : decode cX7_lay 163 = .ok (.aload_n 0, 1) := by decide +kernel
theorem dX7_lay_164 : decode cX7_lay 164 = .ok (.getfield 148, 3) := by decide +kernel
theorem dX7_lay_167 : decode cX7_lay 167 = .ok (.if_icmp .ne 16, 3) := by decide +kernel
theorem dX7_lay_170 : decode cX7_lay 170 = .ok (.aload_n 0, 1) := by decide +kernel
theorem dX7_lay_171 : decode cX7_lay 171 = .ok (.dup, 1) := by decide +kernel
theorem dX7_lay_172 : decode cX7_lay 172 = .ok (.getfield 154, 3) := by decide +kernel
theorem dX7_lay_175 : decode cX7_lay 175 = .ok (.iconst 1, 1) := by decide +kernel
theorem dX7_lay_176 : decode cX7_lay 176 = .ok (.iadd, 1) := by decide +kernel
theorem dX7_lay_177 : decode cX7_lay 177 = .ok (.putfield 154, 3) := by decide +kernel
theorem dX7_lay_180 : decode cX7_lay 180 = .ok (.goto 43, 3) := by decide +kernel
theorem dX7_lay_183 : decode cX7_lay 183 = .ok (.aload_n 0, 1) := by decide +kernel
theorem dX7_lay_184 : decode cX7_lay 184 = .ok (.getfield 56, 3) := by decide +kernel
theorem dX7_lay_187 : decode cX7_lay 187 = .ok (.iload_n 3, 1) := by decide +kernel
theorem dX7_lay_188 : decode cX7_lay 188 = .ok (.iload_n 1, 1) := by decide +kernel
theorem dX7_lay_189 : decode cX7_lay 189 = .ok (.iastore, 1) := by decide +kernel
theorem dX7_lay_190 : decode cX7_lay 190 = .ok (.aload_n 0, 1) := by decide +kernel
theorem dX7_lay_191 : decode cX7_lay 191 = .ok (.getfield 59, 3) := by decide +kernel
theorem dX7_lay_194 : decode cX7_lay 194 = .ok (.iload_n 3, 1) := by decide +kernel
theorem dX7_lay_195 : decode cX7_lay 195 = .ok (.aload_n 0, 1) := by decide +kernel
theorem dX7_lay_196 : decode cX7_lay 196 = .ok (.getfield 62, 3) := by decide +kernel
theorem dX7_lay_199 : decode cX7_lay 199 = .ok (.iload_n 1, 1) := by decide +kernel
theorem dX7_lay_200 : decode cX7_lay 200 = .ok (.iaload, 1) := by decide +kernel
theorem dX7_lay_201 : decode cX7_lay 201 = .ok (.iastore, 1) := by decide +kernel
theorem dX7_lay_202 : decode cX7_lay 202 = .ok (.aload_n 0, 1) := by decide +kernel
theorem dX7_lay_203 : decode cX7_lay 203 = .ok (.getfield 62, 3) := by decide +kernel
theorem dX7_lay_206 : decode cX7_lay 206 = .ok (.iload_n 1, 1) := by decide +kernel
theorem dX7_lay_207 : decode cX7_lay 207 = .ok (.dup2, 1) := by decide +kernel
theorem dX7_lay_208 : decode cX7_lay 208 = .ok (.iaload, 1) := by decide +kernel
theorem dX7_lay_209 : decode cX7_lay 209 = .ok (.iconst 1, 1) := by decide +kernel
theorem dX7_lay_210 : decode cX7_lay 210 = .ok (.iadd, 1) := by decide +kernel
theorem dX7_lay_211 : decode cX7_lay 211 = .ok (.iastore, 1) := by decide +kernel
theorem dX7_lay_212 : decode cX7_lay 212 = .ok (.aload_n 0, 1) := by decide +kernel
theorem dX7_lay_213 : decode cX7_lay 213 = .ok (.getfield 65, 3) := by decide +kernel
theorem dX7_lay_216 : decode cX7_lay 216 = .ok (.iload_n 1, 1) := by decide +kernel
theorem dX7_lay_217 : decode cX7_lay 217 = .ok (.dup2, 1) := by decide +kernel
theorem dX7_lay_218 : decode cX7_lay 218 = .ok (.iaload, 1) := by decide +kernel
theorem dX7_lay_219 : decode cX7_lay 219 = .ok (.iload 4, 2) := by decide +kernel
theorem dX7_lay_221 : decode cX7_lay 221 = .ok (.iadd, 1) := by decide +kernel
theorem dX7_lay_222 : decode cX7_lay 222 = .ok (.iastore, 1) := by decide +kernel
theorem dX7_lay_223 : decode cX7_lay 223 = .ok (.iinc 2 1, 3) := by decide +kernel
theorem dX7_lay_226 : decode cX7_lay 226 = .ok (.goto (-174), 3) := by decide +kernel
theorem dX7_lay_229 : decode cX7_lay 229 = .ok (.return_, 1) := by decide +kernel
theorem dX7_laid_0 : decode cX7_laid 0 = .ok (.aload_n 0, 1) := by decide +kernel
theorem dX7_laid_1 : decode cX7_laid 1 = .ok (.iload_n 1, 1) := by decide +kernel
theorem dX7_laid_2 : decode cX7_laid 2 = .ok (.invokevirtual 138, 3) := by decide +kernel
theorem dX7_laid_5 : decode cX7_laid 5 = .ok (.ifCond .ne 5, 3) := by decide +kernel
theorem dX7_laid_8 : decode cX7_laid 8 = .ok (.iconst (-1), 1) := by decide +kernel
theorem dX7_laid_9 : decode cX7_laid 9 = .ok (.ireturn, 1) := by decide +kernel
theorem dX7_laid_10 : decode cX7_laid 10 = .ok (.aload_n 0, 1) := by decide +kernel
theorem dX7_laid_11 : decode cX7_laid 11 = .ok (.invokevirtual 157, 3) := by decide +kernel
theorem dX7_laid_14 : decode cX7_laid 14 = .ok (.aload_n 0, 1) := by decide +kernel
theorem dX7_laid_15 : decode cX7_laid 15 = .ok (.getfield 56, 3) := by decide +kernel
theorem dX7_laid_18 : decode cX7_laid 18 = .ok (.iload_n 1, 1) := by decide +kernel
theorem dX7_laid_19 : decode cX7_laid 19 = .ok (.iaload, 1) := by decide +kernel
theorem dX7_laid_20 : decode cX7_laid 20 = .ok (.ifCond .ge 7, 3) := by decide +kernel
theorem dX7_laid_23 : decode cX7_laid 23 = .ok (.iconst (-1), 1) := by decide +kernel
theorem dX7_laid_24 : decode cX7_laid 24 = .ok (.goto 31, 3) := by decide +kernel
theorem dX7_laid_27 : decode cX7_laid 27 = .ok (.iload_n 2, 1) := by decide +kernel
theorem dX7_laid_28 : decode cX7_laid 28 = .ok (.ifCond .ne 12, 3) := by decide +kernel
theorem dX7_laid_31 : decode cX7_laid 31 = .ok (.aload_n 0, 1) := by decide +kernel
theorem dX7_laid_32 : decode cX7_laid 32 = .ok (.getfield 56, 3) := by decide +kernel
theorem dX7_laid_35 : decode cX7_laid 35 = .ok (.iload_n 1, 1) := by decide +kernel
theorem dX7_laid_36 : decode cX7_laid 36 = .ok (.iaload, 1) := by decide +kernel
theorem dX7_laid_37 : decode cX7_laid 37 = .ok (.goto 18, 3) := by decide +kernel
theorem dX7_laid_40 : decode cX7_laid 40 = .ok (.iload_n 2, 1) := by decide +kernel
theorem dX7_laid_41 : decode cX7_laid 41 = .ok (.iconst 1, 1) := by decide +kernel
theorem dX7_laid_42 : decode cX7_laid 42 = .ok (.if_icmp .ne 12, 3) := by decide +kernel
theorem dX7_laid_45 : decode cX7_laid 45 = .ok (.aload_n 0, 1) := by decide +kernel
theorem dX7_laid_46 : decode cX7_laid 46 = .ok (.getfield 59, 3) := by decide +kernel
theorem dX7_laid_49 : decode cX7_laid 49 = .ok (.iload_n 1, 1) := by decide +kernel
theorem dX7_laid_50 : decode cX7_laid 50 = .ok (.iaload, 1) := by decide +kernel
theorem dX7_laid_51 : decode cX7_laid 51 = .ok (.goto 4, 3) := by decide +kernel
theorem dX7_laid_54 : decode cX7_laid 54 = .ok (.iconst (-1), 1) := by decide +kernel
theorem dX7_laid_55 : decode cX7_laid 55 = .ok (.ireturn, 1) := by decide +kernel
theorem dX7_shelfOf_0 : decode cX7_shelfOf 0 = .ok (.iload_n 1, 1) := by decide +kernel
theorem dX7_shelfOf_1 : decode cX7_shelfOf 1 = .ok (.iconst 0, 1) := by decide +kernel
theorem dX7_shelfOf_2 : decode cX7_shelfOf 2 = .ok (.aload_n 0, 1) := by decide +kernel
theorem dX7_shelfOf_3 : decode cX7_shelfOf 3 = .ok (.getfield 148, 3) := by decide +kernel
theorem dX7_shelfOf_6 : decode cX7_shelfOf 6 = .ok (.iconst 1, 1) := by decide +kernel
theorem dX7_shelfOf_7 : decode cX7_shelfOf 7 = .ok (.isub, 1) := by decide +kernel
theorem dX7_shelfOf_8 : decode cX7_shelfOf 8 = .ok (.invokestatic 102, 3) := by decide +kernel
theorem dX7_shelfOf_11 : decode cX7_shelfOf 11 = .ok (.ifCond .ne 5, 3) := by decide +kernel
theorem dX7_shelfOf_14 : decode cX7_shelfOf 14 = .ok (.iconst (-1), 1) := by decide +kernel
theorem dX7_shelfOf_15 : decode cX7_shelfOf 15 = .ok (.ireturn, 1) := by decide +kernel
theorem dX7_shelfOf_16 : decode cX7_shelfOf 16 = .ok (.aload_n 0, 1) := by decide +kernel
theorem dX7_shelfOf_17 : decode cX7_shelfOf 17 = .ok (.invokevirtual 157, 3) := by decide +kernel
theorem dX7_shelfOf_20 : decode cX7_shelfOf 20 = .ok (.iload_n 2, 1) := by decide +kernel
theorem dX7_shelfOf_21 : decode cX7_shelfOf 21 = .ok (.ifCond .ne 12, 3) := by decide +kernel
theorem dX7_shelfOf_24 : decode cX7_shelfOf 24 = .ok (.aload_n 0, 1) := by decide +kernel
theorem dX7_shelfOf_25 : decode cX7_shelfOf 25 = .ok (.getfield 62, 3) := by decide +kernel
theorem dX7_shelfOf_28 : decode cX7_shelfOf 28 = .ok (.iload_n 1, 1) := by decide +kernel
theorem dX7_shelfOf_29 : decode cX7_shelfOf 29 = .ok (.iaload, 1) := by decide +kernel
theorem dX7_shelfOf_30 : decode cX7_shelfOf 30 = .ok (.goto 28, 3) := by decide +kernel
theorem dX7_shelfOf_33 : decode cX7_shelfOf 33 = .ok (.iload_n 2, 1) := by decide +kernel
theorem dX7_shelfOf_34 : decode cX7_shelfOf 34 = .ok (.iconst 1, 1) := by decide +kernel
theorem dX7_shelfOf_35 : decode cX7_shelfOf 35 = .ok (.if_icmp .ne 22, 3) := by decide +kernel
theorem dX7_shelfOf_38 : decode cX7_shelfOf 38 = .ok (.bipush 100, 2) := by decide +kernel
theorem dX7_shelfOf_40 : decode cX7_shelfOf 40 = .ok (.aload_n 0, 1) := by decide +kernel
theorem dX7_shelfOf_41 : decode cX7_shelfOf 41 = .ok (.getfield 38, 3) := by decide +kernel
theorem dX7_shelfOf_44 : decode cX7_shelfOf 44 = .ok (.iload_n 1, 1) := by decide +kernel
theorem dX7_shelfOf_45 : decode cX7_shelfOf 45 = .ok (.iaload, 1) := by decide +kernel
theorem dX7_shelfOf_46 : decode cX7_shelfOf 46 = .ok (.imul, 1) := by decide +kernel
theorem dX7_shelfOf_47 : decode cX7_shelfOf 47 = .ok (.aload_n 0, 1) := by decide +kernel
theorem dX7_shelfOf_48 : decode cX7_shelfOf 48 = .ok (.getfield 65, 3) := by decide +kernel
theorem dX7_shelfOf_51 : decode cX7_shelfOf 51 = .ok (.iload_n 1, 1) := by decide +kernel
theorem dX7_shelfOf_52 : decode cX7_shelfOf 52 = .ok (.iaload, 1) := by decide +kernel
theorem dX7_shelfOf_53 : decode cX7_shelfOf 53 = .ok (.isub, 1) := by decide +kernel
theorem dX7_shelfOf_54 : decode cX7_shelfOf 54 = .ok (.goto 4, 3) := by decide +kernel
theorem dX7_shelfOf_57 : decode cX7_shelfOf 57 = .ok (.iconst (-1), 1) := by decide +kernel
theorem dX7_shelfOf_58 : decode cX7_shelfOf 58 = .ok (.ireturn, 1) := by decide +kernel
theorem dX7_counts_0 : decode cX7_counts 0 = .ok (.iload_n 1, 1) := by decide +kernel
theorem dX7_counts_1 : decode cX7_counts 1 = .ok (.iconst 2, 1) := by decide +kernel
theorem dX7_counts_2 : decode cX7_counts 2 = .ok (.if_icmp .ne 12, 3) := by decide +kernel
theorem dX7_counts_5 : decode cX7_counts 5 = .ok (.aload_n 0, 1) := by decide +kernel
theorem dX7_counts_6 : decode cX7_counts 6 = .ok (.invokevirtual 160, 3) := by decide +kernel
theorem dX7_counts_9 : decode cX7_counts 9 = .ok (.aload_n 0, 1) := by decide +kernel
theorem dX7_counts_10 : decode cX7_counts 10 = .ok (.getfield 163, 3) := by decide +kernel
theorem dX7_counts_13 : decode cX7_counts 13 = .ok (.ireturn, 1) := by decide +kernel
theorem dX7_counts_14 : decode cX7_counts 14 = .ok (.aload_n 0, 1) := by decide +kernel
theorem dX7_counts_15 : decode cX7_counts 15 = .ok (.invokevirtual 157, 3) := by decide +kernel
theorem dX7_counts_18 : decode cX7_counts 18 = .ok (.iload_n 1, 1) := by decide +kernel
theorem dX7_counts_19 : decode cX7_counts 19 = .ok (.ifCond .ne 10, 3) := by decide +kernel
theorem dX7_counts_22 : decode cX7_counts 22 = .ok (.aload_n 0, 1) := by decide +kernel
theorem dX7_counts_23 : decode cX7_counts 23 = .ok (.getfield 151, 3) := by decide +kernel
theorem dX7_counts_26 : decode cX7_counts 26 = .ok (.goto 16, 3) := by decide +kernel
theorem dX7_counts_29 : decode cX7_counts 29 = .ok (.iload_n 1, 1) := by decide +kernel
theorem dX7_counts_30 : decode cX7_counts 30 = .ok (.iconst 1, 1) := by decide +kernel
theorem dX7_counts_31 : decode cX7_counts 31 = .ok (.if_icmp .ne 10, 3) := by decide +kernel
theorem dX7_counts_34 : decode cX7_counts 34 = .ok (.aload_n 0, 1) := by decide +kernel
theorem dX7_counts_35 : decode cX7_counts 35 = .ok (.getfield 154, 3) := by decide +kernel
theorem dX7_counts_38 : decode cX7_counts 38 = .ok (.goto 4, 3) := by decide +kernel
theorem dX7_counts_41 : decode cX7_counts 41 = .ok (.iconst (-1), 1) := by decide +kernel
theorem dX7_counts_42 : decode cX7_counts 42 = .ok (.ireturn, 1) := by decide +kernel
theorem dX7_pack_0 : decode cX7_pack 0 = .ok (.aload_n 0, 1) := by decide +kernel
theorem dX7_pack_1 : decode cX7_pack 1 = .ok (.aload_n 0, 1) := by decide +kernel
theorem dX7_pack_2 : decode cX7_pack 2 = .ok (.getfield 128, 3) := by decide +kernel
theorem dX7_pack_5 : decode cX7_pack 5 = .ok (.invokevirtual 145, 3) := by decide +kernel
theorem dX7_pack_8 : decode cX7_pack 8 = .ok (.aload_n 0, 1) := by decide +kernel
theorem dX7_pack_9 : decode cX7_pack 9 = .ok (.iconst 0, 1) := by decide +kernel
theorem dX7_pack_10 : decode cX7_pack 10 = .ok (.putfield 163, 3) := by decide +kernel
theorem dX7_pack_13 : decode cX7_pack 13 = .ok (.iconst 0, 1) := by decide +kernel
theorem dX7_pack_14 : decode cX7_pack 14 = .ok (.istore_n 1, 1) := by decide +kernel
theorem dX7_pack_15 : decode cX7_pack 15 = .ok (.iconst 0, 1) := by decide +kernel
theorem dX7_pack_16 : decode cX7_pack 16 = .ok (.istore_n 2, 1) := by decide +kernel
theorem dX7_pack_17 : decode cX7_pack 17 = .ok (.iload_n 2, 1) := by decide +kernel
theorem dX7_pack_18 : decode cX7_pack 18 = .ok (.aload_n 0, 1) := by decide +kernel
theorem dX7_pack_19 : decode cX7_pack 19 = .ok (.getfield 99, 3) := by decide +kernel
theorem dX7_pack_22 : decode cX7_pack 22 = .ok (.if_icmp .ge 141, 3) := by decide +kernel
theorem dX7_pack_25 : decode cX7_pack 25 = .ok (.aload_n 0, 1) := by decide +kernel
theorem dX7_pack_26 : decode cX7_pack 26 = .ok (.getfield 53, 3) := by decide +kernel
theorem dX7_pack_29 : decode cX7_pack 29 = .ok (.iload_n 2, 1) := by decide +kernel
theorem dX7_pack_30 : decode cX7_pack 30 = .ok (.iaload, 1) := by decide +kernel
theorem dX7_pack_31 : decode cX7_pack 31 = .ok (.istore_n 3, 1) := by decide +kernel
theorem dX7_pack_32 : decode cX7_pack 32 = .ok (.aload_n 0, 1) := by decide +kernel
theorem dX7_pack_33 : decode cX7_pack 33 = .ok (.getfield 163, 3) := by decide +kernel
theorem dX7_pack_36 : decode cX7_pack 36 = .ok (.ifCond .eq 38, 3) := by decide +kernel
theorem dX7_pack_39 : decode cX7_pack 39 = .ok (.iload_n 1, 1) := by decide +kernel
theorem dX7_pack_40 : decode cX7_pack 40 = .ok (.aload_n 0, 1) := by decide +kernel
theorem dX7_pack_41 : decode cX7_pack 41 = .ok (.getfield 32, 3) := by decide +kernel
theorem dX7_pack_44 : decode cX7_pack 44 = .ok (.iload_n 3, 1) := by decide +kernel
theorem dX7_pack_45 : decode cX7_pack 45 = .ok (.iaload, 1) := by decide +kernel
theorem dX7_pack_46 : decode cX7_pack 46 = .ok (.iadd, 1) := by decide +kernel
theorem dX7_pack_47 : decode cX7_pack 47 = .ok (.aload_n 0, 1) := by decide +kernel
theorem dX7_pack_48 : decode cX7_pack 48 = .ok (.getfield 13, 3) := by decide +kernel
theorem dX7_pack_51 : decode cX7_pack 51 = .ok (.if_icmp .gt 23, 3) := by decide +kernel
theorem dX7_pack_54 : decode cX7_pack 54 = .ok (.aload_n 0, 1) := by decide +kernel
theorem dX7_pack_55 : decode cX7_pack 55 = .ok (.getfield 74, 3) := by decide +kernel
theorem dX7_pack_58 : decode cX7_pack 58 = .ok (.aload_n 0, 1) := by decide +kernel
theorem dX7_pack_59 : decode cX7_pack 59 = .ok (.getfield 163, 3) := by decide +kernel
theorem dX7_pack_62 : decode cX7_pack 62 = .ok (.iconst 1, 1) := by decide +kernel
theorem dX7_pack_63 : decode cX7_pack 63 = .ok (.isub, 1) := by decide +kernel
theorem dX7_pack_64 : decode cX7_pack 64 = .ok (.iaload, 1) := by decide +kernel
theorem dX7_pack_65 : decode cX7_pack 65 = .ok (.aload_n 0, 1) := by decide +kernel
theorem dX7_pack_66 : decode cX7_pack 66 = .ok (.getfield 29, 3) := by decide +kernel
theorem dX7_pack_69 : decode cX7_pack 69 = .ok (.iload_n 3, 1) := by decide +kernel
theorem dX7_pack_70 : decode cX7_pack 70 = .ok (.iaload, 1) := by decide +kernel
theorem dX7_pack_71 : decode cX7_pack 71 = .ok (.if_icmp .eq 50, 3) := by decide +kernel
theorem dX7_pack_74 : decode cX7_pack 74 = .ok (.aload_n 0, 1) := by decide +kernel
theorem dX7_pack_75 : decode cX7_pack 75 = .ok (.getfield 68, 3) := by decide +kernel
theorem dX7_pack_78 : decode cX7_pack 78 = .ok (.aload_n 0, 1) := by decide +kernel
theorem dX7_pack_79 : decode cX7_pack 79 = .ok (.getfield 163, 3) := by decide +kernel
theorem dX7_pack_82 : decode cX7_pack 82 = .ok (.iload_n 3, 1) := by decide +kernel
theorem dX7_pack_83 : decode cX7_pack 83 = .ok (.iastore, 1) := by decide +kernel
theorem dX7_pack_84 : decode cX7_pack 84 = .ok (.aload_n 0, 1) := by decide +kernel
theorem dX7_pack_85 : decode cX7_pack 85 = .ok (.getfield 71, 3) := by decide +kernel
theorem dX7_pack_88 : decode cX7_pack 88 = .ok (.aload_n 0, 1) := by decide +kernel
theorem dX7_pack_89 : decode cX7_pack 89 = .ok (.getfield 163, 3) := by decide +kernel
theorem dX7_pack_92 : decode cX7_pack 92 = .ok (.iconst 0, 1) := by decide +kernel
theorem dX7_pack_93 : decode cX7_pack 93 = .ok (.iastore, 1) := by decide +kernel
theorem dX7_pack_94 : decode cX7_pack 94 = .ok (.aload_n 0, 1) := by decide +kernel
theorem dX7_pack_95 : decode cX7_pack 95 = .ok (.getfield 74, 3) := by decide +kernel
theorem dX7_pack_98 : decode cX7_pack 98 = .ok (.aload_n 0, 1) := by decide +kernel
theorem dX7_pack_99 : decode cX7_pack 99 = .ok (.getfield 163, 3) := by decide +kernel
theorem dX7_pack_102 : decode cX7_pack 102 = .ok (.aload_n 0, 1) := by decide +kernel
theorem dX7_pack_103 : decode cX7_pack 103 = .ok (.getfield 29, 3) := by decide +kernel
theorem dX7_pack_106 : decode cX7_pack 106 = .ok (.iload_n 3, 1) := by decide +kernel
theorem dX7_pack_107 : decode cX7_pack 107 = .ok (.iaload, 1) := by decide +kernel
theorem dX7_pack_108 : decode cX7_pack 108 = .ok (.iastore, 1) := by decide +kernel
theorem dX7_pack_109 : decode cX7_pack 109 = .ok (.aload_n 0, 1) := by decide +kernel
theorem dX7_pack_110 : decode cX7_pack 110 = .ok (.dup, 1) := by decide +kernel
theorem dX7_pack_111 : decode cX7_pack 111 = .ok (.getfield 163, 3) := by decide +kernel
theorem dX7_pack_114 : decode cX7_pack 114 = .ok (.iconst 1, 1) := by decide +kernel
theorem dX7_pack_115 : decode cX7_pack 115 = .ok (.iadd, 1) := by decide +kernel
theorem dX7_pack_116 : decode cX7_pack 116 = .ok (.putfield 163, 3) := by decide +kernel
theorem dX7_pack_119 : decode cX7_pack 119 = .ok (.iconst 0, 1) := by decide +kernel
theorem dX7_pack_120 : decode cX7_pack 120 = .ok (.istore_n 1, 1) := by decide +kernel
theorem dX7_pack_121 : decode cX7_pack 121 = .ok (.aload_n 0, 1) := by decide +kernel
theorem dX7_pack_122 : decode cX7_pack 122 = .ok (.getfield 83, 3) := by decide +kernel
theorem dX7_pack_125 : decode cX7_pack 125 = .ok (.iload_n 3, 1) := by decide +kernel
theorem dX7_pack_126 : decode cX7_pack 126 = .ok (.aload_n 0, 1) := by decide +kernel
theorem dX7_pack_127 : decode cX7_pack 127 = .ok (.getfield 163, 3) := by decide +kernel
theorem dX7_pack_130 : decode cX7_pack 130 = .ok (.iconst 1, 1) := by decide +kernel
theorem dX7_pack_131 : decode cX7_pack 131 = .ok (.isub, 1) := by decide +kernel
theorem dX7_pack_132 : decode cX7_pack 132 = .ok (.iastore, 1) := by decide +kernel
theorem dX7_pack_133 : decode cX7_pack 133 = .ok (.aload_n 0, 1) := by decide +kernel
theorem dX7_pack_134 : decode cX7_pack 134 = .ok (.getfield 71, 3) := by decide +kernel
theorem dX7_pack_137 : decode cX7_pack 137 = .ok (.aload_n 0, 1) := by decide +kernel
theorem dX7_pack_138 : decode cX7_pack 138 = .ok (.getfield 163, 3) := by decide +kernel
theorem dX7_pack_141 : decode cX7_pack 141 = .ok (.iconst 1, 1) := by decide +kernel
theorem dX7_pack_142 : decode cX7_pack 142 = .ok (.isub, 1) := by decide +kernel
theorem dX7_pack_143 : decode cX7_pack 143 = .ok (.dup2, 1) := by decide +kernel
theorem dX7_pack_144 : decode cX7_pack 144 = .ok (.iaload, 1) := by decide +kernel
theorem dX7_pack_145 : decode cX7_pack 145 = .ok (.iconst 1, 1) := by decide +kernel
theorem dX7_pack_146 : decode cX7_pack 146 = .ok (.iadd, 1) := by decide +kernel
theorem dX7_pack_147 : decode cX7_pack 147 = .ok (.iastore, 1) := by decide +kernel
theorem dX7_pack_148 : decode cX7_pack 148 = .ok (.iload_n 1, 1) := by decide +kernel
theorem dX7_pack_149 : decode cX7_pack 149 = .ok (.aload_n 0, 1) := by decide +kernel
theorem dX7_pack_150 : decode cX7_pack 150 = .ok (.getfield 32, 3) := by decide +kernel
theorem dX7_pack_153 : decode cX7_pack 153 = .ok (.iload_n 3, 1) := by decide +kernel
theorem dX7_pack_154 : decode cX7_pack 154 = .ok (.iaload, 1) := by decide +kernel
theorem dX7_pack_155 : decode cX7_pack 155 = .ok (.iadd, 1) := by decide +kernel
theorem dX7_pack_156 : decode cX7_pack 156 = .ok (.istore_n 1, 1) := by decide +kernel
theorem dX7_pack_157 : decode cX7_pack 157 = .ok (.iinc 2 1, 3) := by decide +kernel
theorem dX7_pack_160 : decode cX7_pack 160 = .ok (.goto (-143), 3) := by decide +kernel
theorem dX7_pack_163 : decode cX7_pack 163 = .ok (.aload_n 0, 1) := by decide +kernel
theorem dX7_pack_164 : decode cX7_pack 164 = .ok (.invokevirtual 166, 3) := by decide +kernel
theorem dX7_pack_167 : decode cX7_pack 167 = .ok (.return_, 1) := by decide +kernel
theorem dX7_meet_0 : decode cX7_meet 0 = .ok (.iconst 0, 1) := by decide +kernel
theorem dX7_meet_1 : decode cX7_meet 1 = .ok (.istore_n 1, 1) := by decide +kernel
theorem dX7_meet_2 : decode cX7_meet 2 = .ok (.iconst 0, 1) := by decide +kernel
theorem dX7_meet_3 : decode cX7_meet 3 = .ok (.istore_n 2, 1) := by decide +kernel
theorem dX7_meet_4 : decode cX7_meet 4 = .ok (.iload_n 2, 1) := by decide +kernel
theorem dX7_meet_5 : decode cX7_meet 5 = .ok (.aload_n 0, 1) := by decide +kernel
theorem dX7_meet_6 : decode cX7_meet 6 = .ok (.getfield 163, 3) := by decide +kernel
theorem dX7_meet_9 : decode cX7_meet 9 = .ok (.if_icmp .ge 23, 3) := by decide +kernel
theorem dX7_meet_12 : decode cX7_meet 12 = .ok (.iload_n 1, 1) := by decide +kernel
theorem dX7_meet_13 : decode cX7_meet 13 = .ok (.aload_n 0, 1) := by decide +kernel
theorem dX7_meet_14 : decode cX7_meet 14 = .ok (.getfield 44, 3) := by decide +kernel
theorem dX7_meet_17 : decode cX7_meet 17 = .ok (.aload_n 0, 1) := by decide +kernel
theorem dX7_meet_18 : decode cX7_meet 18 = .ok (.getfield 74, 3) := by decide +kernel
theorem dX7_meet_21 : decode cX7_meet 21 = .ok (.iload_n 2, 1) := by decide +kernel
theorem dX7_meet_22 : decode cX7_meet 22 = .ok (.iaload, 1) := by decide +kernel
theorem dX7_meet_23 : decode cX7_meet 23 = .ok (.iaload, 1) := by decide +kernel
theorem dX7_meet_24 : decode cX7_meet 24 = .ok (.iadd, 1) := by decide +kernel
theorem dX7_meet_25 : decode cX7_meet 25 = .ok (.istore_n 1, 1) := by decide +kernel
theorem dX7_meet_26 : decode cX7_meet 26 = .ok (.iinc 2 1, 3) := by decide +kernel
theorem dX7_meet_29 : decode cX7_meet 29 = .ok (.goto (-25), 3) := by decide +kernel
theorem dX7_meet_32 : decode cX7_meet 32 = .ok (.aload_n 0, 1) := by decide +kernel
theorem dX7_meet_33 : decode cX7_meet 33 = .ok (.iconst 0, 1) := by decide +kernel
theorem dX7_meet_34 : decode cX7_meet 34 = .ok (.putfield 169, 3) := by decide +kernel
theorem dX7_meet_37 : decode cX7_meet 37 = .ok (.aload_n 0, 1) := by decide +kernel
theorem dX7_meet_38 : decode cX7_meet 38 = .ok (.iload_n 1, 1) := by decide +kernel
theorem dX7_meet_39 : decode cX7_meet 39 = .ok (.putfield 172, 3) := by decide +kernel
theorem dX7_meet_42 : decode cX7_meet 42 = .ok (.iconst 0, 1) := by decide +kernel
theorem dX7_meet_43 : decode cX7_meet 43 = .ok (.istore_n 2, 1) := by decide +kernel
theorem dX7_meet_44 : decode cX7_meet 44 = .ok (.iconst 0, 1) := by decide +kernel
theorem dX7_meet_45 : decode cX7_meet 45 = .ok (.istore_n 3, 1) := by decide +kernel
theorem dX7_meet_46 : decode cX7_meet 46 = .ok (.iload_n 3, 1) := by decide +kernel
theorem dX7_meet_47 : decode cX7_meet 47 = .ok (.aload_n 0, 1) := by decide +kernel
theorem dX7_meet_48 : decode cX7_meet 48 = .ok (.getfield 163, 3) := by decide +kernel
theorem dX7_meet_51 : decode cX7_meet 51 = .ok (.if_icmp .ge 64, 3) := by decide +kernel
theorem dX7_meet_54 : decode cX7_meet 54 = .ok (.iload_n 2, 1) := by decide +kernel
theorem dX7_meet_55 : decode cX7_meet 55 = .ok (.aload_n 0, 1) := by decide +kernel
theorem dX7_meet_56 : decode cX7_meet 56 = .ok (.getfield 44, 3) := by decide +kernel
theorem dX7_meet_59 : decode cX7_meet 59 = .ok (.aload_n 0, 1) := by decide +kernel
theorem dX7_meet_60 : decode cX7_meet 60 = .ok (.getfield 74, 3) := by decide +kernel
theorem dX7_meet_63 : decode cX7_meet 63 = .ok (.iload_n 3, 1) := by decide +kernel
theorem dX7_meet_64 : decode cX7_meet 64 = .ok (.iaload, 1) := by decide +kernel
theorem dX7_meet_65 : decode cX7_meet 65 = .ok (.iaload, 1) := by decide +kernel
theorem dX7_meet_66 : decode cX7_meet 66 = .ok (.iadd, 1) := by decide +kernel
theorem dX7_meet_67 : decode cX7_meet 67 = .ok (.istore_n 2, 1) := by decide +kernel
theorem dX7_meet_68 : decode cX7_meet 68 = .ok (.iload_n 2, 1) := by decide +kernel
theorem dX7_meet_69 : decode cX7_meet 69 = .ok (.iload_n 1, 1) := by decide +kernel
theorem dX7_meet_70 : decode cX7_meet 70 = .ok (.iload_n 2, 1) := by decide +kernel
theorem dX7_meet_71 : decode cX7_meet 71 = .ok (.isub, 1) := by decide +kernel
theorem dX7_meet_72 : decode cX7_meet 72 = .ok (.if_icmp .le 7, 3) := by decide +kernel
theorem dX7_meet_75 : decode cX7_meet 75 = .ok (.iload_n 2, 1) := by decide +kernel
theorem dX7_meet_76 : decode cX7_meet 76 = .ok (.goto 6, 3) := by decide +kernel
theorem dX7_meet_79 : decode cX7_meet 79 = .ok (.iload_n 1, 1) := by decide +kernel
theorem dX7_meet_80 : decode cX7_meet 80 = .ok (.iload_n 2, 1) := by decide +kernel
theorem dX7_meet_81 : decode cX7_meet 81 = .ok (.isub, 1) := by decide +kernel
theorem dX7_meet_82 : decode cX7_meet 82 = .ok (.istore 4, 2) := by decide +kernel
theorem dX7_meet_84 : decode cX7_meet 84 = .ok (.iload 4, 2) := by decide +kernel
theorem dX7_meet_86 : decode cX7_meet 86 = .ok (.aload_n 0, 1) := by decide +kernel
theorem dX7_meet_87 : decode cX7_meet 87 = .ok (.getfield 172, 3) := by decide +kernel
theorem dX7_meet_90 : decode cX7_meet 90 = .ok (.if_icmp .lt 6, 3) := by decide +kernel
theorem dX7_meet_93 : decode cX7_meet 93 = .ok (.goto 16, 3) := by decide +kernel
theorem dX7_meet_96 : decode cX7_meet 96 = .ok (.aload_n 0, 1) := by decide +kernel
theorem dX7_meet_97 : decode cX7_meet 97 = .ok (.iload_n 3, 1) := by decide +kernel
theorem dX7_meet_98 : decode cX7_meet 98 = .ok (.iconst 1, 1) := by decide +kernel
theorem dX7_meet_99 : decode cX7_meet 99 = .ok (.iadd, 1) := by decide +kernel
theorem dX7_meet_100 : decode cX7_meet 100 = .ok (.putfield 169, 3) := by decide +kernel
theorem dX7_meet_103 : decode cX7_meet 103 = .ok (.aload_n 0, 1) := by decide +kernel
theorem dX7_meet_104 : decode cX7_meet 104 = .ok (.iload 4, 2) := by decide +kernel
theorem dX7_meet_106 : decode cX7_meet 106 = .ok (.putfield 172, 3) := by decide +kernel
theorem dX7_meet_109 : decode cX7_meet 109 = .ok (.iinc 3 1, 3) := by decide +kernel
theorem dX7_meet_112 : decode cX7_meet 112 = .ok (.goto (-66), 3) := by decide +kernel
theorem dX7_meet_115 : decode cX7_meet 115 = .ok (.iconst 0, 1) := by decide +kernel
theorem dX7_meet_116 : decode cX7_meet 116 = .ok (.istore_n 3, 1) := by decide +kernel
theorem dX7_meet_117 : decode cX7_meet 117 = .ok (.iconst 0, 1) := by decide +kernel
theorem dX7_meet_118 : decode cX7_meet 118 = .ok (.istore 4, 2) := by decide +kernel
theorem dX7_meet_120 : decode cX7_meet 120 = .ok (.iload 4, 2) := by decide +kernel
theorem dX7_meet_122 : decode cX7_meet 122 = .ok (.aload_n 0, 1) := by decide +kernel
theorem dX7_meet_123 : decode cX7_meet 123 = .ok (.getfield 169, 3) := by decide +kernel
theorem dX7_meet_126 : decode cX7_meet 126 = .ok (.if_icmp .ge 40, 3) := by decide +kernel
theorem dX7_meet_129 : decode cX7_meet 129 = .ok (.aload_n 0, 1) := by decide +kernel
theorem dX7_meet_130 : decode cX7_meet 130 = .ok (.getfield 77, 3) := by decide +kernel
theorem dX7_meet_133 : decode cX7_meet 133 = .ok (.iload 4, 2) := by decide +kernel
theorem dX7_meet_135 : decode cX7_meet 135 = .ok (.iload_n 3, 1) := by decide +kernel
theorem dX7_meet_136 : decode cX7_meet 136 = .ok (.iastore, 1) := by decide +kernel
theorem dX7_meet_137 : decode cX7_meet 137 = .ok (.iload_n 3, 1) := by decide +kernel
theorem dX7_meet_138 : decode cX7_meet 138 = .ok (.aload_n 0, 1) := by decide +kernel
theorem dX7_meet_139 : decode cX7_meet 139 = .ok (.getfield 44, 3) := by decide +kernel
theorem dX7_meet_142 : decode cX7_meet 142 = .ok (.aload_n 0, 1) := by decide +kernel
theorem dX7_meet_143 : decode cX7_meet 143 = .ok (.getfield 74, 3) := by decide +kernel
theorem dX7_meet_146 : decode cX7_meet 146 = .ok (.iload 4, 2) := by decide +kernel
theorem dX7_meet_148 : decode cX7_meet 148 = .ok (.iaload, 1) := by decide +kernel
theorem dX7_meet_149 : decode cX7_meet 149 = .ok (.iaload, 1) := by decide +kernel
theorem dX7_meet_150 : decode cX7_meet 150 = .ok (.iadd, 1) := by decide +kernel
theorem dX7_meet_151 : decode cX7_meet 151 = .ok (.istore_n 3, 1) := by decide +kernel
theorem dX7_meet_152 : decode cX7_meet 152 = .ok (.aload_n 0, 1) := by decide +kernel
theorem dX7_meet_153 : decode cX7_meet 153 = .ok (.getfield 80, 3) := by decide +kernel
theorem dX7_meet_156 : decode cX7_meet 156 = .ok (.iload 4, 2) := by decide +kernel
theorem dX7_meet_158 : decode cX7_meet 158 = .ok (.iload_n 3, 1) := by decide +kernel
theorem dX7_meet_159 : decode cX7_meet 159 = .ok (.iastore, 1) := by decide +kernel
theorem dX7_meet_160 : decode cX7_meet 160 = .ok (.iinc 4 1, 3) := by decide +kernel
theorem dX7_meet_163 : decode cX7_meet 163 = .ok (.goto (-43), 3) := by decide +kernel
theorem dX7_meet_166 : decode cX7_meet 166 = .ok (.iconst 0, 1) := by decide +kernel
theorem dX7_meet_167 : decode cX7_meet 167 = .ok (.istore_n 3, 1) := by decide +kernel
theorem dX7_meet_168 : decode cX7_meet 168 = .ok (.aload_n 0, 1) := by decide +kernel
theorem dX7_meet_169 : decode cX7_meet 169 = .ok (.getfield 163, 3) := by decide +kernel
theorem dX7_meet_172 : decode cX7_meet 172 = .ok (.iconst 1, 1) := by decide +kernel
theorem dX7_meet_173 : decode cX7_meet 173 = .ok (.isub, 1) := by decide +kernel
theorem dX7_meet_174 : decode cX7_meet 174 = .ok (.istore 4, 2) := by decide +kernel
theorem dX7_meet_176 : decode cX7_meet 176 = .ok (.iload 4, 2) := by decide +kernel
theorem dX7_meet_178 : decode cX7_meet 178 = .ok (.aload_n 0, 1) := by decide +kernel
theorem dX7_meet_179 : decode cX7_meet 179 = .ok (.getfield 169, 3) := by decide +kernel
theorem dX7_meet_182 : decode cX7_meet 182 = .ok (.if_icmp .lt 40, 3) := by decide +kernel
theorem dX7_meet_185 : decode cX7_meet 185 = .ok (.aload_n 0, 1) := by decide +kernel
theorem dX7_meet_186 : decode cX7_meet 186 = .ok (.getfield 77, 3) := by decide +kernel
theorem dX7_meet_189 : decode cX7_meet 189 = .ok (.iload 4, 2) := by decide +kernel
theorem dX7_meet_191 : decode cX7_meet 191 = .ok (.iload_n 3, 1) := by decide +kernel
theorem dX7_meet_192 : decode cX7_meet 192 = .ok (.iastore, 1) := by decide +kernel
theorem dX7_meet_193 : decode cX7_meet 193 = .ok (.iload_n 3, 1) := by decide +kernel
theorem dX7_meet_194 : decode cX7_meet 194 = .ok (.aload_n 0, 1) := by decide +kernel
theorem dX7_meet_195 : decode cX7_meet 195 = .ok (.getfield 44, 3) := by decide +kernel
theorem dX7_meet_198 : decode cX7_meet 198 = .ok (.aload_n 0, 1) := by decide +kernel
theorem dX7_meet_199 : decode cX7_meet 199 = .ok (.getfield 74, 3) := by decide +kernel
theorem dX7_meet_202 : decode cX7_meet 202 = .ok (.iload 4, 2) := by decide +kernel
theorem dX7_meet_204 : decode cX7_meet 204 = .ok (.iaload, 1) := by decide +kernel
theorem dX7_meet_205 : decode cX7_meet 205 = .ok (.iaload, 1) := by decide +kernel
theorem dX7_meet_206 : decode cX7_meet 206 = .ok (.iadd, 1) := by decide +kernel
theorem dX7_meet_207 : decode cX7_meet 207 = .ok (.istore_n 3, 1) := by decide +kernel
theorem dX7_meet_208 : decode cX7_meet 208 = .ok (.aload_n 0, 1) := by decide +kernel
theorem dX7_meet_209 : decode cX7_meet 209 = .ok (.getfield 80, 3) := by decide +kernel
theorem dX7_meet_212 : decode cX7_meet 212 = .ok (.iload 4, 2) := by decide +kernel
theorem dX7_meet_214 : decode cX7_meet 214 = .ok (.iload_n 3, 1) := by decide +kernel
theorem dX7_meet_215 : decode cX7_meet 215 = .ok (.iastore, 1) := by decide +kernel
theorem dX7_meet_216 : decode cX7_meet 216 = .ok (.iinc 4 (-1), 3) := by decide +kernel
theorem dX7_meet_219 : decode cX7_meet 219 = .ok (.goto (-43), 3) := by decide +kernel
theorem dX7_meet_222 : decode cX7_meet 222 = .ok (.return_, 1) := by decide +kernel
theorem dX7_way_0 : decode cX7_way 0 = .ok (.iload_n 1, 1) := by decide +kernel
theorem dX7_way_1 : decode cX7_way 1 = .ok (.iconst 0, 1) := by decide +kernel
theorem dX7_way_2 : decode cX7_way 2 = .ok (.iconst 4, 1) := by decide +kernel
theorem dX7_way_3 : decode cX7_way 3 = .ok (.invokestatic 102, 3) := by decide +kernel
theorem dX7_way_6 : decode cX7_way 6 = .ok (.ifCond .eq 13, 3) := by decide +kernel
theorem dX7_way_9 : decode cX7_way 9 = .ok (.iload_n 2, 1) := by decide +kernel
theorem dX7_way_10 : decode cX7_way 10 = .ok (.iconst 1, 1) := by decide +kernel
theorem dX7_way_11 : decode cX7_way 11 = .ok (.bipush 100, 2) := by decide +kernel
theorem dX7_way_13 : decode cX7_way 13 = .ok (.invokestatic 102, 3) := by decide +kernel
theorem dX7_way_16 : decode cX7_way 16 = .ok (.ifCond .ne 5, 3) := by decide +kernel
theorem dX7_way_19 : decode cX7_way 19 = .ok (.iconst 0, 1) := by decide +kernel
theorem dX7_way_20 : decode cX7_way 20 = .ok (.ireturn, 1) := by decide +kernel
theorem dX7_way_21 : decode cX7_way 21 = .ok (.aload_n 0, 1) := by decide +kernel
theorem dX7_way_22 : decode cX7_way 22 = .ok (.getfield 44, 3) := by decide +kernel
theorem dX7_way_25 : decode cX7_way 25 = .ok (.iload_n 1, 1) := by decide +kernel
theorem dX7_way_26 : decode cX7_way 26 = .ok (.iload_n 2, 1) := by decide +kernel
theorem dX7_way_27 : decode cX7_way 27 = .ok (.iastore, 1) := by decide +kernel
theorem dX7_way_28 : decode cX7_way 28 = .ok (.iconst 1, 1) := by decide +kernel
theorem dX7_way_29 : decode cX7_way 29 = .ok (.ireturn, 1) := by decide +kernel
theorem dX7_crate_0 : decode cX7_crate 0 = .ok (.aload_n 0, 1) := by decide +kernel
theorem dX7_crate_1 : decode cX7_crate 1 = .ok (.invokevirtual 160, 3) := by decide +kernel
theorem dX7_crate_4 : decode cX7_crate 4 = .ok (.iload_n 1, 1) := by decide +kernel
theorem dX7_crate_5 : decode cX7_crate 5 = .ok (.iconst 0, 1) := by decide +kernel
theorem dX7_crate_6 : decode cX7_crate 6 = .ok (.aload_n 0, 1) := by decide +kernel
theorem dX7_crate_7 : decode cX7_crate 7 = .ok (.getfield 163, 3) := by decide +kernel
theorem dX7_crate_10 : decode cX7_crate 10 = .ok (.iconst 1, 1) := by decide +kernel
theorem dX7_crate_11 : decode cX7_crate 11 = .ok (.isub, 1) := by decide +kernel
theorem dX7_crate_12 : decode cX7_crate 12 = .ok (.invokestatic 102, 3) := by decide +kernel
theorem dX7_crate_15 : decode cX7_crate 15 = .ok (.ifCond .ne 5, 3) := by decide +kernel
theorem dX7_crate_18 : decode cX7_crate 18 = .ok (.iconst (-1), 1) := by decide +kernel
theorem dX7_crate_19 : decode cX7_crate 19 = .ok (.ireturn, 1) := by decide +kernel
theorem dX7_crate_20 : decode cX7_crate 20 = .ok (.iload_n 2, 1) := by decide +kernel
theorem dX7_crate_21 : decode cX7_crate 21 = .ok (.tableswitch 88 0 5 #[39, 46, 53, 60, 67, 74], 39) := by decide +kernel
theorem dX7_crate_60 : decode cX7_crate 60 = .ok (.aload_n 0, 1) := by decide +kernel
theorem dX7_crate_61 : decode cX7_crate 61 = .ok (.getfield 68, 3) := by decide +kernel
theorem dX7_crate_64 : decode cX7_crate 64 = .ok (.iload_n 1, 1) := by decide +kernel
theorem dX7_crate_65 : decode cX7_crate 65 = .ok (.iaload, 1) := by decide +kernel
theorem dX7_crate_66 : decode cX7_crate 66 = .ok (.ireturn, 1) := by decide +kernel
theorem dX7_crate_67 : decode cX7_crate 67 = .ok (.aload_n 0, 1) := by decide +kernel
theorem dX7_crate_68 : decode cX7_crate 68 = .ok (.getfield 71, 3) := by decide +kernel
theorem dX7_crate_71 : decode cX7_crate 71 = .ok (.iload_n 1, 1) := by decide +kernel
theorem dX7_crate_72 : decode cX7_crate 72 = .ok (.iaload, 1) := by decide +kernel
theorem dX7_crate_73 : decode cX7_crate 73 = .ok (.ireturn, 1) := by decide +kernel
theorem dX7_crate_74 : decode cX7_crate 74 = .ok (.aload_n 0, 1) := by decide +kernel
theorem dX7_crate_75 : decode cX7_crate 75 = .ok (.getfield 74, 3) := by decide +kernel
theorem dX7_crate_78 : decode cX7_crate 78 = .ok (.iload_n 1, 1) := by decide +kernel
theorem dX7_crate_79 : decode cX7_crate 79 = .ok (.iaload, 1) := by decide +kernel
theorem dX7_crate_80 : decode cX7_crate 80 = .ok (.ireturn, 1) := by decide +kernel
theorem dX7_crate_81 : decode cX7_crate 81 = .ok (.aload_n 0, 1) := by decide +kernel
theorem dX7_crate_82 : decode cX7_crate 82 = .ok (.getfield 77, 3) := by decide +kernel
theorem dX7_crate_85 : decode cX7_crate 85 = .ok (.iload_n 1, 1) := by decide +kernel
theorem dX7_crate_86 : decode cX7_crate 86 = .ok (.iaload, 1) := by decide +kernel
theorem dX7_crate_87 : decode cX7_crate 87 = .ok (.ireturn, 1) := by decide +kernel
theorem dX7_crate_88 : decode cX7_crate 88 = .ok (.aload_n 0, 1) := by decide +kernel
theorem dX7_crate_89 : decode cX7_crate 89 = .ok (.getfield 80, 3) := by decide +kernel
theorem dX7_crate_92 : decode cX7_crate 92 = .ok (.iload_n 1, 1) := by decide +kernel
theorem dX7_crate_93 : decode cX7_crate 93 = .ok (.iaload, 1) := by decide +kernel
theorem dX7_crate_94 : decode cX7_crate 94 = .ok (.ireturn, 1) := by decide +kernel
theorem dX7_crate_95 : decode cX7_crate 95 = .ok (.iload_n 1, 1) := by decide +kernel
theorem dX7_crate_96 : decode cX7_crate 96 = .ok (.aload_n 0, 1) := by decide +kernel
theorem dX7_crate_97 : decode cX7_crate 97 = .ok (.getfield 169, 3) := by decide +kernel
theorem dX7_crate_100 : decode cX7_crate 100 = .ok (.if_icmp .ge 7, 3) := by decide +kernel
theorem dX7_crate_103 : decode cX7_crate 103 = .ok (.iconst 0, 1) := by decide +kernel
theorem dX7_crate_104 : decode cX7_crate 104 = .ok (.goto 4, 3) := by decide +kernel
theorem dX7_crate_107 : decode cX7_crate 107 = .ok (.iconst 1, 1) := by decide +kernel
theorem dX7_crate_108 : decode cX7_crate 108 = .ok (.ireturn, 1) := by decide +kernel
theorem dX7_crate_109 : decode cX7_crate 109 = .ok (.iconst (-1), 1) := by decide +kernel
theorem dX7_crate_110 : decode cX7_crate 110 = .ok (.ireturn, 1) := by decide +kernel
theorem dX7_meeting_0 : decode cX7_meeting 0 = .ok (.aload_n 0, 1) := by decide +kernel
theorem dX7_meeting_1 : decode cX7_meeting 1 = .ok (.invokevirtual 160, 3) := by decide +kernel
theorem dX7_meeting_4 : decode cX7_meeting 4 = .ok (.iload_n 1, 1) := by decide +kernel
theorem dX7_meeting_5 : decode cX7_meeting 5 = .ok (.ifCond .ne 10, 3) := by decide +kernel
theorem dX7_meeting_8 : decode cX7_meeting 8 = .ok (.aload_n 0, 1) := by decide +kernel
theorem dX7_meeting_9 : decode cX7_meeting 9 = .ok (.getfield 169, 3) := by decide +kernel
theorem dX7_meeting_12 : decode cX7_meeting 12 = .ok (.goto 16, 3) := by decide +kernel
theorem dX7_meeting_15 : decode cX7_meeting 15 = .ok (.iload_n 1, 1) := by decide +kernel
theorem dX7_meeting_16 : decode cX7_meeting 16 = .ok (.iconst 1, 1) := by decide +kernel
theorem dX7_meeting_17 : decode cX7_meeting 17 = .ok (.if_icmp .ne 10, 3) := by decide +kernel
theorem dX7_meeting_20 : decode cX7_meeting 20 = .ok (.aload_n 0, 1) := by decide +kernel
theorem dX7_meeting_21 : decode cX7_meeting 21 = .ok (.getfield 172, 3) := by decide +kernel
theorem dX7_meeting_24 : decode cX7_meeting 24 = .ok (.goto 4, 3) := by decide +kernel
theorem dX7_meeting_27 : decode cX7_meeting 27 = .ok (.iconst (-1), 1) := by decide +kernel
theorem dX7_meeting_28 : decode cX7_meeting 28 = .ok (.ireturn, 1) := by decide +kernel
theorem dX7_where_0 : decode cX7_where 0 = .ok (.aload_n 0, 1) := by decide +kernel
theorem dX7_where_1 : decode cX7_where 1 = .ok (.iload_n 1, 1) := by decide +kernel
theorem dX7_where_2 : decode cX7_where 2 = .ok (.invokevirtual 138, 3) := by decide +kernel
theorem dX7_where_5 : decode cX7_where 5 = .ok (.ifCond .eq 13, 3) := by decide +kernel
theorem dX7_where_8 : decode cX7_where 8 = .ok (.iload_n 2, 1) := by decide +kernel
theorem dX7_where_9 : decode cX7_where 9 = .ok (.iconst 0, 1) := by decide +kernel
theorem dX7_where_10 : decode cX7_where 10 = .ok (.ldc 175, 2) := by decide +kernel
theorem dX7_where_12 : decode cX7_where 12 = .ok (.invokestatic 102, 3) := by decide +kernel
theorem dX7_where_15 : decode cX7_where 15 = .ok (.ifCond .ne 5, 3) := by decide +kernel
theorem dX7_where_18 : decode cX7_where 18 = .ok (.iconst (-1), 1) := by decide +kernel
theorem dX7_where_19 : decode cX7_where 19 = .ok (.ireturn, 1) := by decide +kernel
theorem dX7_where_20 : decode cX7_where 20 = .ok (.aload_n 0, 1) := by decide +kernel
theorem dX7_where_21 : decode cX7_where 21 = .ok (.invokevirtual 160, 3) := by decide +kernel
theorem dX7_where_24 : decode cX7_where 24 = .ok (.aload_n 0, 1) := by decide +kernel
theorem dX7_where_25 : decode cX7_where 25 = .ok (.getfield 83, 3) := by decide +kernel
theorem dX7_where_28 : decode cX7_where 28 = .ok (.iload_n 1, 1) := by decide +kernel
theorem dX7_where_29 : decode cX7_where 29 = .ok (.iaload, 1) := by decide +kernel
theorem dX7_where_30 : decode cX7_where 30 = .ok (.istore 4, 2) := by decide +kernel
theorem dX7_where_32 : decode cX7_where 32 = .ok (.iload_n 2, 1) := by decide +kernel
theorem dX7_where_33 : decode cX7_where 33 = .ok (.aload_n 0, 1) := by decide +kernel
theorem dX7_where_34 : decode cX7_where 34 = .ok (.getfield 80, 3) := by decide +kernel
theorem dX7_where_37 : decode cX7_where 37 = .ok (.iload 4, 2) := by decide +kernel
theorem dX7_where_39 : decode cX7_where 39 = .ok (.iaload, 1) := by decide +kernel
theorem dX7_where_40 : decode cX7_where 40 = .ok (.if_icmp .lt 7, 3) := by decide +kernel
theorem dX7_where_43 : decode cX7_where 43 = .ok (.iconst 2, 1) := by decide +kernel
theorem dX7_where_44 : decode cX7_where 44 = .ok (.goto 19, 3) := by decide +kernel
theorem dX7_where_47 : decode cX7_where 47 = .ok (.iload_n 2, 1) := by decide +kernel
theorem dX7_where_48 : decode cX7_where 48 = .ok (.aload_n 0, 1) := by decide +kernel
theorem dX7_where_49 : decode cX7_where 49 = .ok (.getfield 77, 3) := by decide +kernel
theorem dX7_where_52 : decode cX7_where 52 = .ok (.iload 4, 2) := by decide +kernel
theorem dX7_where_54 : decode cX7_where 54 = .ok (.iaload, 1) := by decide +kernel
theorem dX7_where_55 : decode cX7_where 55 = .ok (.if_icmp .lt 7, 3) := by decide +kernel
theorem dX7_where_58 : decode cX7_where 58 = .ok (.iconst 1, 1) := by decide +kernel
theorem dX7_where_59 : decode cX7_where 59 = .ok (.goto 4, 3) := by decide +kernel
theorem dX7_where_62 : decode cX7_where 62 = .ok (.iconst 0, 1) := by decide +kernel
theorem dX7_where_63 : decode cX7_where 63 = .ok (.istore 5, 2) := by decide +kernel
theorem dX7_where_65 : decode cX7_where 65 = .ok (.iload_n 3, 1) := by decide +kernel
theorem dX7_where_66 : decode cX7_where 66 = .ok (.ifCond .ne 6, 3) := by decide +kernel
theorem dX7_where_69 : decode cX7_where 69 = .ok (.iload 5, 2) := by decide +kernel
theorem dX7_where_71 : decode cX7_where 71 = .ok (.ireturn, 1) := by decide +kernel
theorem dX7_where_72 : decode cX7_where 72 = .ok (.iload_n 3, 1) := by decide +kernel
theorem dX7_where_73 : decode cX7_where 73 = .ok (.iconst 2, 1) := by decide +kernel
theorem dX7_where_74 : decode cX7_where 74 = .ok (.if_icmp .ne 6, 3) := by decide +kernel
theorem dX7_where_77 : decode cX7_where 77 = .ok (.iload 4, 2) := by decide +kernel
theorem dX7_where_79 : decode cX7_where 79 = .ok (.ireturn, 1) := by decide +kernel
theorem dX7_where_80 : decode cX7_where 80 = .ok (.iload_n 3, 1) := by decide +kernel
theorem dX7_where_81 : decode cX7_where 81 = .ok (.iconst 1, 1) := by decide +kernel
theorem dX7_where_82 : decode cX7_where 82 = .ok (.if_icmp .eq 5, 3) := by decide +kernel
theorem dX7_where_85 : decode cX7_where 85 = .ok (.iconst (-1), 1) := by decide +kernel
theorem dX7_where_86 : decode cX7_where 86 = .ok (.ireturn, 1) := by decide +kernel
theorem dX7_where_87 : decode cX7_where 87 = .ok (.iload_n 2, 1) := by decide +kernel
theorem dX7_where_88 : decode cX7_where 88 = .ok (.aload_n 0, 1) := by decide +kernel
theorem dX7_where_89 : decode cX7_where 89 = .ok (.getfield 44, 3) := by decide +kernel
theorem dX7_where_92 : decode cX7_where 92 = .ok (.aload_n 0, 1) := by decide +kernel
theorem dX7_where_93 : decode cX7_where 93 = .ok (.getfield 29, 3) := by decide +kernel
theorem dX7_where_96 : decode cX7_where 96 = .ok (.iload_n 1, 1) := by decide +kernel
theorem dX7_where_97 : decode cX7_where 97 = .ok (.iaload, 1) := by decide +kernel
theorem dX7_where_98 : decode cX7_where 98 = .ok (.iaload, 1) := by decide +kernel
theorem dX7_where_99 : decode cX7_where 99 = .ok (.iadd, 1) := by decide +kernel
theorem dX7_where_100 : decode cX7_where 100 = .ok (.istore 6, 2) := by decide +kernel
theorem dX7_where_102 : decode cX7_where 102 = .ok (.iload 5, 2) := by decide +kernel
theorem dX7_where_104 : decode cX7_where 104 = .ok (.iconst 2, 1) := by decide +kernel
theorem dX7_where_105 : decode cX7_where 105 = .ok (.if_icmp .ne 7, 3) := by decide +kernel
theorem dX7_where_108 : decode cX7_where 108 = .ok (.iload_n 2, 1) := by decide +kernel
theorem dX7_where_109 : decode cX7_where 109 = .ok (.goto 32, 3) := by decide +kernel
theorem dX7_where_112 : decode cX7_where 112 = .ok (.iload 5, 2) := by decide +kernel
theorem dX7_where_114 : decode cX7_where 114 = .ok (.ifCond .ne 20, 3) := by decide +kernel
theorem dX7_where_117 : decode cX7_where 117 = .ok (.iload 6, 2) := by decide +kernel
theorem dX7_where_119 : decode cX7_where 119 = .ok (.aload_n 0, 1) := by decide +kernel
theorem dX7_where_120 : decode cX7_where 120 = .ok (.getfield 77, 3) := by decide +kernel
theorem dX7_where_123 : decode cX7_where 123 = .ok (.iload 4, 2) := by decide +kernel
theorem dX7_where_125 : decode cX7_where 125 = .ok (.iaload, 1) := by decide +kernel
theorem dX7_where_126 : decode cX7_where 126 = .ok (.if_icmp .gt 8, 3) := by decide +kernel
theorem dX7_where_129 : decode cX7_where 129 = .ok (.iload 6, 2) := by decide +kernel
theorem dX7_where_131 : decode cX7_where 131 = .ok (.goto 10, 3) := by decide +kernel
theorem dX7_where_134 : decode cX7_where 134 = .ok (.aload_n 0, 1) := by decide +kernel
theorem dX7_where_135 : decode cX7_where 135 = .ok (.getfield 80, 3) := by decide +kernel
theorem dX7_where_138 : decode cX7_where 138 = .ok (.iload 4, 2) := by decide +kernel
theorem dX7_where_140 : decode cX7_where 140 = .ok (.iaload, 1) := by decide +kernel
theorem dX7_where_141 : decode cX7_where 141 = .ok (.ireturn, 1) := by decide +kernel
theorem dX7_row_0 : decode cX7_row 0 = .ok (.aload_n 0, 1) := by decide +kernel
theorem dX7_row_1 : decode cX7_row 1 = .ok (.invokevirtual 157, 3) := by decide +kernel
theorem dX7_row_4 : decode cX7_row 4 = .ok (.aload_n 0, 1) := by decide +kernel
theorem dX7_row_5 : decode cX7_row 5 = .ok (.iconst 0, 1) := by decide +kernel
theorem dX7_row_6 : decode cX7_row 6 = .ok (.putfield 176, 3) := by decide +kernel
theorem dX7_row_9 : decode cX7_row 9 = .ok (.iconst 0, 1) := by decide +kernel
theorem dX7_row_10 : decode cX7_row 10 = .ok (.istore_n 1, 1) := by decide +kernel
theorem dX7_row_11 : decode cX7_row 11 = .ok (.iload_n 1, 1) := by decide +kernel
theorem dX7_row_12 : decode cX7_row 12 = .ok (.aload_n 0, 1) := by decide +kernel
theorem dX7_row_13 : decode cX7_row 13 = .ok (.getfield 99, 3) := by decide +kernel
theorem dX7_row_16 : decode cX7_row 16 = .ok (.if_icmp .ge 51, 3) := by decide +kernel
theorem dX7_row_19 : decode cX7_row 19 = .ok (.aload_n 0, 1) := by decide +kernel
theorem dX7_row_20 : decode cX7_row 20 = .ok (.getfield 56, 3) := by decide +kernel
theorem dX7_row_23 : decode cX7_row 23 = .ok (.aload_n 0, 1) := by decide +kernel
theorem dX7_row_24 : decode cX7_row 24 = .ok (.getfield 53, 3) := by decide +kernel
theorem dX7_row_27 : decode cX7_row 27 = .ok (.iload_n 1, 1) := by decide +kernel
theorem dX7_row_28 : decode cX7_row 28 = .ok (.iaload, 1) := by decide +kernel
theorem dX7_row_29 : decode cX7_row 29 = .ok (.iaload, 1) := by decide +kernel
theorem dX7_row_30 : decode cX7_row 30 = .ok (.ifCond .ge 6, 3) := by decide +kernel
theorem dX7_row_33 : decode cX7_row 33 = .ok (.goto 28, 3) := by decide +kernel
theorem dX7_row_36 : decode cX7_row 36 = .ok (.aload_n 0, 1) := by decide +kernel
theorem dX7_row_37 : decode cX7_row 37 = .ok (.getfield 86, 3) := by decide +kernel
theorem dX7_row_40 : decode cX7_row 40 = .ok (.aload_n 0, 1) := by decide +kernel
theorem dX7_row_41 : decode cX7_row 41 = .ok (.getfield 176, 3) := by decide +kernel
theorem dX7_row_44 : decode cX7_row 44 = .ok (.aload_n 0, 1) := by decide +kernel
theorem dX7_row_45 : decode cX7_row 45 = .ok (.getfield 53, 3) := by decide +kernel
theorem dX7_row_48 : decode cX7_row 48 = .ok (.iload_n 1, 1) := by decide +kernel
theorem dX7_row_49 : decode cX7_row 49 = .ok (.iaload, 1) := by decide +kernel
theorem dX7_row_50 : decode cX7_row 50 = .ok (.iastore, 1) := by decide +kernel
theorem dX7_row_51 : decode cX7_row 51 = .ok (.aload_n 0, 1) := by decide +kernel
theorem dX7_row_52 : decode cX7_row 52 = .ok (.dup, 1) := by decide +kernel
theorem dX7_row_53 : decode cX7_row 53 = .ok (.getfield 176, 3) := by decide +kernel
theorem dX7_row_56 : decode cX7_row 56 = .ok (.iconst 1, 1) := by decide +kernel
theorem dX7_row_57 : decode cX7_row 57 = .ok (.iadd, 1) := by decide +kernel
theorem dX7_row_58 : decode cX7_row 58 = .ok (.putfield 176, 3) := by decide +kernel
theorem dX7_row_61 : decode cX7_row 61 = .ok (.iinc 1 1, 3) := by decide +kernel
theorem dX7_row_64 : decode cX7_row 64 = .ok (.goto (-53), 3) := by decide +kernel
theorem dX7_row_67 : decode cX7_row 67 = .ok (.aload_n 0, 1) := by decide +kernel
theorem dX7_row_68 : decode cX7_row 68 = .ok (.getfield 176, 3) := by decide +kernel
theorem dX7_row_71 : decode cX7_row 71 = .ok (.ireturn, 1) := by decide +kernel
theorem dX7_at_0 : decode cX7_at 0 = .ok (.iload_n 1, 1) := by decide +kernel
theorem dX7_at_1 : decode cX7_at 1 = .ok (.iconst 0, 1) := by decide +kernel
theorem dX7_at_2 : decode cX7_at 2 = .ok (.aload_n 0, 1) := by decide +kernel
theorem dX7_at_3 : decode cX7_at 3 = .ok (.getfield 176, 3) := by decide +kernel
theorem dX7_at_6 : decode cX7_at 6 = .ok (.iconst 1, 1) := by decide +kernel
theorem dX7_at_7 : decode cX7_at 7 = .ok (.isub, 1) := by decide +kernel
theorem dX7_at_8 : decode cX7_at 8 = .ok (.invokestatic 102, 3) := by decide +kernel
theorem dX7_at_11 : decode cX7_at 11 = .ok (.ifCond .eq 12, 3) := by decide +kernel
theorem dX7_at_14 : decode cX7_at 14 = .ok (.aload_n 0, 1) := by decide +kernel
theorem dX7_at_15 : decode cX7_at 15 = .ok (.getfield 86, 3) := by decide +kernel
theorem dX7_at_18 : decode cX7_at 18 = .ok (.iload_n 1, 1) := by decide +kernel
theorem dX7_at_19 : decode cX7_at 19 = .ok (.iaload, 1) := by decide +kernel
theorem dX7_at_20 : decode cX7_at 20 = .ok (.goto 4, 3) := by decide +kernel
theorem dX7_at_23 : decode cX7_at 23 = .ok (.iconst (-1), 1) := by decide +kernel
theorem dX7_at_24 : decode cX7_at 24 = .ok (.ireturn, 1) := by decide +kernel
theorem dX7_misplace_0 : decode cX7_misplace 0 = .ok (.iload_n 1, 1) := by decide +kernel
theorem dX7_misplace_1 : decode cX7_misplace 1 = .ok (.iconst 0, 1) := by decide +kernel
theorem dX7_misplace_2 : decode cX7_misplace 2 = .ok (.aload_n 0, 1) := by decide +kernel
theorem dX7_misplace_3 : decode cX7_misplace 3 = .ok (.getfield 176, 3) := by decide +kernel
theorem dX7_misplace_6 : decode cX7_misplace 6 = .ok (.iconst 1, 1) := by decide +kernel
theorem dX7_misplace_7 : decode cX7_misplace 7 = .ok (.isub, 1) := by decide +kernel
theorem dX7_misplace_8 : decode cX7_misplace 8 = .ok (.invokestatic 102, 3) := by decide +kernel
theorem dX7_misplace_11 : decode cX7_misplace 11 = .ok (.ifCond .eq 22, 3) := by decide +kernel
theorem dX7_misplace_14 : decode cX7_misplace 14 = .ok (.iload_n 2, 1) := by decide +kernel
theorem dX7_misplace_15 : decode cX7_misplace 15 = .ok (.iconst 0, 1) := by decide +kernel
theorem dX7_misplace_16 : decode cX7_misplace 16 = .ok (.aload_n 0, 1) := by decide +kernel
theorem dX7_misplace_17 : decode cX7_misplace 17 = .ok (.getfield 176, 3) := by decide +kernel
theorem dX7_misplace_20 : decode cX7_misplace 20 = .ok (.iconst 1, 1) := by decide +kernel
theorem dX7_misplace_21 : decode cX7_misplace 21 = .ok (.isub, 1) := by decide +kernel
theorem dX7_misplace_22 : decode cX7_misplace 22 = .ok (.invokestatic 102, 3) := by decide +kernel
theorem dX7_misplace_25 : decode cX7_misplace 25 = .ok (.ifCond .eq 8, 3) := by decide +kernel
theorem dX7_misplace_28 : decode cX7_misplace 28 = .ok (.iload_n 1, 1) := by decide +kernel
theorem dX7_misplace_29 : decode cX7_misplace 29 = .ok (.iload_n 2, 1) := by decide +kernel
theorem dX7_misplace_30 : decode cX7_misplace 30 = .ok (.if_icmp .ne 5, 3) := by decide +kernel
theorem dX7_misplace_33 : decode cX7_misplace 33 = .ok (.iconst 0, 1) := by decide +kernel
theorem dX7_misplace_34 : decode cX7_misplace 34 = .ok (.ireturn, 1) := by decide +kernel
theorem dX7_misplace_35 : decode cX7_misplace 35 = .ok (.aload_n 0, 1) := by decide +kernel
theorem dX7_misplace_36 : decode cX7_misplace 36 = .ok (.getfield 86, 3) := by decide +kernel
theorem dX7_misplace_39 : decode cX7_misplace 39 = .ok (.iload_n 1, 1) := by decide +kernel
theorem dX7_misplace_40 : decode cX7_misplace 40 = .ok (.iaload, 1) := by decide +kernel
theorem dX7_misplace_41 : decode cX7_misplace 41 = .ok (.istore_n 3, 1) := by decide +kernel
theorem dX7_misplace_42 : decode cX7_misplace 42 = .ok (.iload_n 1, 1) := by decide +kernel
theorem dX7_misplace_43 : decode cX7_misplace 43 = .ok (.istore 4, 2) := by decide +kernel
theorem dX7_misplace_45 : decode cX7_misplace 45 = .ok (.iload 4, 2) := by decide +kernel
theorem dX7_misplace_47 : decode cX7_misplace 47 = .ok (.iload_n 2, 1) := by decide +kernel
theorem dX7_misplace_48 : decode cX7_misplace 48 = .ok (.if_icmp .ge 25, 3) := by decide +kernel
theorem dX7_misplace_51 : decode cX7_misplace 51 = .ok (.aload_n 0, 1) := by decide +kernel
theorem dX7_misplace_52 : decode cX7_misplace 52 = .ok (.getfield 86, 3) := by decide +kernel
theorem dX7_misplace_55 : decode cX7_misplace 55 = .ok (.iload 4, 2) := by decide +kernel
theorem dX7_misplace_57 : decode cX7_misplace 57 = .ok (.aload_n 0, 1) := by decide +kernel
theorem dX7_misplace_58 : decode cX7_misplace 58 = .ok (.getfield 86, 3) := by decide +kernel
theorem dX7_misplace_61 : decode cX7_misplace 61 = .ok (.iload 4, 2) := by decide +kernel
theorem dX7_misplace_63 : decode cX7_misplace 63 = .ok (.iconst 1, 1) := by decide +kernel
theorem dX7_misplace_64 : decode cX7_misplace 64 = .ok (.iadd, 1) := by decide +kernel
theorem dX7_misplace_65 : decode cX7_misplace 65 = .ok (.iaload, 1) := by decide +kernel
theorem dX7_misplace_66 : decode cX7_misplace 66 = .ok (.iastore, 1) := by decide +kernel
theorem dX7_misplace_67 : decode cX7_misplace 67 = .ok (.iinc 4 1, 3) := by decide +kernel
theorem dX7_misplace_70 : decode cX7_misplace 70 = .ok (.goto (-25), 3) := by decide +kernel
theorem dX7_misplace_73 : decode cX7_misplace 73 = .ok (.iload_n 1, 1) := by decide +kernel
theorem dX7_misplace_74 : decode cX7_misplace 74 = .ok (.istore 4, 2) := by decide +kernel
theorem dX7_misplace_76 : decode cX7_misplace 76 = .ok (.iload 4, 2) := by decide +kernel
theorem dX7_misplace_78 : decode cX7_misplace 78 = .ok (.iload_n 2, 1) := by decide +kernel
theorem dX7_misplace_79 : decode cX7_misplace 79 = .ok (.if_icmp .le 25, 3) := by decide +kernel
theorem dX7_misplace_82 : decode cX7_misplace 82 = .ok (.aload_n 0, 1) := by decide +kernel
theorem dX7_misplace_83 : decode cX7_misplace 83 = .ok (.getfield 86, 3) := by decide +kernel
theorem dX7_misplace_86 : decode cX7_misplace 86 = .ok (.iload 4, 2) := by decide +kernel
theorem dX7_misplace_88 : decode cX7_misplace 88 = .ok (.aload_n 0, 1) := by decide +kernel
theorem dX7_misplace_89 : decode cX7_misplace 89 = .ok (.getfield 86, 3) := by decide +kernel
theorem dX7_misplace_92 : decode cX7_misplace 92 = .ok (.iload 4, 2) := by decide +kernel
theorem dX7_misplace_94 : decode cX7_misplace 94 = .ok (.iconst 1, 1) := by decide +kernel
theorem dX7_misplace_95 : decode cX7_misplace 95 = .ok (.isub, 1) := by decide +kernel
theorem dX7_misplace_96 : decode cX7_misplace 96 = .ok (.iaload, 1) := by decide +kernel
theorem dX7_misplace_97 : decode cX7_misplace 97 = .ok (.iastore, 1) := by decide +kernel
theorem dX7_misplace_98 : decode cX7_misplace 98 = .ok (.iinc 4 (-1), 3) := by decide +kernel
theorem dX7_misplace_101 : decode cX7_misplace 101 = .ok (.goto (-25), 3) := by decide +kernel
theorem dX7_misplace_104 : decode cX7_misplace 104 = .ok (.aload_n 0, 1) := by decide +kernel
theorem dX7_misplace_105 : decode cX7_misplace 105 = .ok (.getfield 86, 3) := by decide +kernel
theorem dX7_misplace_108 : decode cX7_misplace 108 = .ok (.iload_n 2, 1) := by decide +kernel
theorem dX7_misplace_109 : decode cX7_misplace 109 = .ok (.iload_n 3, 1) := by decide +kernel
theorem dX7_misplace_110 : decode cX7_misplace 110 = .ok (.iastore, 1) := by decide +kernel
theorem dX7_misplace_111 : decode cX7_misplace 111 = .ok (.iconst 1, 1) := by decide +kernel
theorem dX7_misplace_112 : decode cX7_misplace 112 = .ok (.ireturn, 1) := by decide +kernel
theorem dX7_takeOut_0 : decode cX7_takeOut 0 = .ok (.iconst 0, 1) := by decide +kernel
theorem dX7_takeOut_1 : decode cX7_takeOut 1 = .ok (.istore_n 1, 1) := by decide +kernel
theorem dX7_takeOut_2 : decode cX7_takeOut 2 = .ok (.aload_n 0, 1) := by decide +kernel
theorem dX7_takeOut_3 : decode cX7_takeOut 3 = .ok (.getfield 176, 3) := by decide +kernel
theorem dX7_takeOut_6 : decode cX7_takeOut 6 = .ok (.iconst 1, 1) := by decide +kernel
theorem dX7_takeOut_7 : decode cX7_takeOut 7 = .ok (.isub, 1) := by decide +kernel
theorem dX7_takeOut_8 : decode cX7_takeOut 8 = .ok (.istore_n 2, 1) := by decide +kernel
theorem dX7_takeOut_9 : decode cX7_takeOut 9 = .ok (.iload_n 2, 1) := by decide +kernel
theorem dX7_takeOut_10 : decode cX7_takeOut 10 = .ok (.ifCond .lt 105, 3) := by decide +kernel
theorem dX7_takeOut_13 : decode cX7_takeOut 13 = .ok (.aload_n 0, 1) := by decide +kernel
theorem dX7_takeOut_14 : decode cX7_takeOut 14 = .ok (.getfield 89, 3) := by decide +kernel
theorem dX7_takeOut_17 : decode cX7_takeOut 17 = .ok (.iload_n 2, 1) := by decide +kernel
theorem dX7_takeOut_18 : decode cX7_takeOut 18 = .ok (.iconst 1, 1) := by decide +kernel
theorem dX7_takeOut_19 : decode cX7_takeOut 19 = .ok (.iastore, 1) := by decide +kernel
theorem dX7_takeOut_20 : decode cX7_takeOut 20 = .ok (.iload_n 2, 1) := by decide +kernel
theorem dX7_takeOut_21 : decode cX7_takeOut 21 = .ok (.iconst 1, 1) := by decide +kernel
theorem dX7_takeOut_22 : decode cX7_takeOut 22 = .ok (.iadd, 1) := by decide +kernel
theorem dX7_takeOut_23 : decode cX7_takeOut 23 = .ok (.istore_n 3, 1) := by decide +kernel
theorem dX7_takeOut_24 : decode cX7_takeOut 24 = .ok (.iload_n 3, 1) := by decide +kernel
theorem dX7_takeOut_25 : decode cX7_takeOut 25 = .ok (.aload_n 0, 1) := by decide +kernel
theorem dX7_takeOut_26 : decode cX7_takeOut 26 = .ok (.getfield 176, 3) := by decide +kernel
theorem dX7_takeOut_29 : decode cX7_takeOut 29 = .ok (.if_icmp .ge 63, 3) := by decide +kernel
theorem dX7_takeOut_32 : decode cX7_takeOut 32 = .ok (.aload_n 0, 1) := by decide +kernel
theorem dX7_takeOut_33 : decode cX7_takeOut 33 = .ok (.aload_n 0, 1) := by decide +kernel
theorem dX7_takeOut_34 : decode cX7_takeOut 34 = .ok (.getfield 86, 3) := by decide +kernel
theorem dX7_takeOut_37 : decode cX7_takeOut 37 = .ok (.iload_n 2, 1) := by decide +kernel
theorem dX7_takeOut_38 : decode cX7_takeOut 38 = .ok (.iaload, 1) := by decide +kernel
theorem dX7_takeOut_39 : decode cX7_takeOut 39 = .ok (.aload_n 0, 1) := by decide +kernel
theorem dX7_takeOut_40 : decode cX7_takeOut 40 = .ok (.getfield 86, 3) := by decide +kernel
theorem dX7_takeOut_43 : decode cX7_takeOut 43 = .ok (.iload_n 3, 1) := by decide +kernel
theorem dX7_takeOut_44 : decode cX7_takeOut 44 = .ok (.iaload, 1) := by decide +kernel
theorem dX7_takeOut_45 : decode cX7_takeOut 45 = .ok (.aload_n 0, 1) := by decide +kernel
theorem dX7_takeOut_46 : decode cX7_takeOut 46 = .ok (.getfield 128, 3) := by decide +kernel
theorem dX7_takeOut_49 : decode cX7_takeOut 49 = .ok (.invokevirtual 141, 3) := by decide +kernel
theorem dX7_takeOut_52 : decode cX7_takeOut 52 = .ok (.ifCond .ge 34, 3) := by decide +kernel
theorem dX7_takeOut_55 : decode cX7_takeOut 55 = .ok (.aload_n 0, 1) := by decide +kernel
theorem dX7_takeOut_56 : decode cX7_takeOut 56 = .ok (.getfield 89, 3) := by decide +kernel
theorem dX7_takeOut_59 : decode cX7_takeOut 59 = .ok (.iload_n 3, 1) := by decide +kernel
theorem dX7_takeOut_60 : decode cX7_takeOut 60 = .ok (.iaload, 1) := by decide +kernel
theorem dX7_takeOut_61 : decode cX7_takeOut 61 = .ok (.iconst 1, 1) := by decide +kernel
theorem dX7_takeOut_62 : decode cX7_takeOut 62 = .ok (.iadd, 1) := by decide +kernel
theorem dX7_takeOut_63 : decode cX7_takeOut 63 = .ok (.aload_n 0, 1) := by decide +kernel
theorem dX7_takeOut_64 : decode cX7_takeOut 64 = .ok (.getfield 89, 3) := by decide +kernel
theorem dX7_takeOut_67 : decode cX7_takeOut 67 = .ok (.iload_n 2, 1) := by decide +kernel
theorem dX7_takeOut_68 : decode cX7_takeOut 68 = .ok (.iaload, 1) := by decide +kernel
theorem dX7_takeOut_69 : decode cX7_takeOut 69 = .ok (.if_icmp .le 17, 3) := by decide +kernel
theorem dX7_takeOut_72 : decode cX7_takeOut 72 = .ok (.aload_n 0, 1) := by decide +kernel
theorem dX7_takeOut_73 : decode cX7_takeOut 73 = .ok (.getfield 89, 3) := by decide +kernel
theorem dX7_takeOut_76 : decode cX7_takeOut 76 = .ok (.iload_n 2, 1) := by decide +kernel
theorem dX7_takeOut_77 : decode cX7_takeOut 77 = .ok (.aload_n 0, 1) := by decide +kernel
theorem dX7_takeOut_78 : decode cX7_takeOut 78 = .ok (.getfield 89, 3) := by decide +kernel
theorem dX7_takeOut_81 : decode cX7_takeOut 81 = .ok (.iload_n 3, 1) := by decide +kernel
theorem dX7_takeOut_82 : decode cX7_takeOut 82 = .ok (.iaload, 1) := by decide +kernel
theorem dX7_takeOut_83 : decode cX7_takeOut 83 = .ok (.iconst 1, 1) := by decide +kernel
theorem dX7_takeOut_84 : decode cX7_takeOut 84 = .ok (.iadd, 1) := by decide +kernel
theorem dX7_takeOut_85 : decode cX7_takeOut 85 = .ok (.iastore, 1) := by decide +kernel
theorem dX7_takeOut_86 : decode cX7_takeOut 86 = .ok (.iinc 3 1, 3) := by decide +kernel
theorem dX7_takeOut_89 : decode cX7_takeOut 89 = .ok (.goto (-65), 3) := by decide +kernel
theorem dX7_takeOut_92 : decode cX7_takeOut 92 = .ok (.aload_n 0, 1) := by decide +kernel
theorem dX7_takeOut_93 : decode cX7_takeOut 93 = .ok (.getfield 89, 3) := by decide +kernel
theorem dX7_takeOut_96 : decode cX7_takeOut 96 = .ok (.iload_n 2, 1) := by decide +kernel
theorem dX7_takeOut_97 : decode cX7_takeOut 97 = .ok (.iaload, 1) := by decide +kernel
theorem dX7_takeOut_98 : decode cX7_takeOut 98 = .ok (.iload_n 1, 1) := by decide +kernel
theorem dX7_takeOut_99 : decode cX7_takeOut 99 = .ok (.if_icmp .le 10, 3) := by decide +kernel
theorem dX7_takeOut_102 : decode cX7_takeOut 102 = .ok (.aload_n 0, 1) := by decide +kernel
theorem dX7_takeOut_103 : decode cX7_takeOut 103 = .ok (.getfield 89, 3) := by decide +kernel
theorem dX7_takeOut_106 : decode cX7_takeOut 106 = .ok (.iload_n 2, 1) := by decide +kernel
theorem dX7_takeOut_107 : decode cX7_takeOut 107 = .ok (.iaload, 1) := by decide +kernel
theorem dX7_takeOut_108 : decode cX7_takeOut 108 = .ok (.istore_n 1, 1) := by decide +kernel
theorem dX7_takeOut_109 : decode cX7_takeOut 109 = .ok (.iinc 2 (-1), 3) := by decide +kernel
theorem dX7_takeOut_112 : decode cX7_takeOut 112 = .ok (.goto (-103), 3) := by decide +kernel
theorem dX7_takeOut_115 : decode cX7_takeOut 115 = .ok (.iload_n 1, 1) := by decide +kernel
theorem dX7_takeOut_116 : decode cX7_takeOut 116 = .ok (.istore_n 2, 1) := by decide +kernel
theorem dX7_takeOut_117 : decode cX7_takeOut 117 = .ok (.iconst (-1), 1) := by decide +kernel
theorem dX7_takeOut_118 : decode cX7_takeOut 118 = .ok (.istore_n 3, 1) := by decide +kernel
theorem dX7_takeOut_119 : decode cX7_takeOut 119 = .ok (.iconst 0, 1) := by decide +kernel
theorem dX7_takeOut_120 : decode cX7_takeOut 120 = .ok (.istore 4, 2) := by decide +kernel
theorem dX7_takeOut_122 : decode cX7_takeOut 122 = .ok (.iload 4, 2) := by decide +kernel
theorem dX7_takeOut_124 : decode cX7_takeOut 124 = .ok (.aload_n 0, 1) := by decide +kernel
theorem dX7_takeOut_125 : decode cX7_takeOut 125 = .ok (.getfield 176, 3) := by decide +kernel
theorem dX7_takeOut_128 : decode cX7_takeOut 128 = .ok (.if_icmp .ge 83, 3) := by decide +kernel
theorem dX7_takeOut_131 : decode cX7_takeOut 131 = .ok (.aload_n 0, 1) := by decide +kernel
theorem dX7_takeOut_132 : decode cX7_takeOut 132 = .ok (.getfield 92, 3) := by decide +kernel
theorem dX7_takeOut_135 : decode cX7_takeOut 135 = .ok (.iload 4, 2) := by decide +kernel
theorem dX7_takeOut_137 : decode cX7_takeOut 137 = .ok (.iload_n 2, 1) := by decide +kernel
theorem dX7_takeOut_138 : decode cX7_takeOut 138 = .ok (.ifCond .eq 37, 3) := by decide +kernel
theorem dX7_takeOut_141 : decode cX7_takeOut 141 = .ok (.aload_n 0, 1) := by decide +kernel
theorem dX7_takeOut_142 : decode cX7_takeOut 142 = .ok (.getfield 89, 3) := by decide +kernel
theorem dX7_takeOut_145 : decode cX7_takeOut 145 = .ok (.iload 4, 2) := by decide +kernel
theorem dX7_takeOut_147 : decode cX7_takeOut 147 = .ok (.iaload, 1) := by decide +kernel
theorem dX7_takeOut_148 : decode cX7_takeOut 148 = .ok (.iload_n 2, 1) := by decide +kernel
theorem dX7_takeOut_149 : decode cX7_takeOut 149 = .ok (.if_icmp .ne 26, 3) := by decide +kernel
theorem dX7_takeOut_152 : decode cX7_takeOut 152 = .ok (.iload_n 3, 1) := by decide +kernel
theorem dX7_takeOut_153 : decode cX7_takeOut 153 = .ok (.ifCond .lt 26, 3) := by decide +kernel
theorem dX7_takeOut_156 : decode cX7_takeOut 156 = .ok (.aload_n 0, 1) := by decide +kernel
theorem dX7_takeOut_157 : decode cX7_takeOut 157 = .ok (.iload_n 3, 1) := by decide +kernel
theorem dX7_takeOut_158 : decode cX7_takeOut 158 = .ok (.aload_n 0, 1) := by decide +kernel
theorem dX7_takeOut_159 : decode cX7_takeOut 159 = .ok (.getfield 86, 3) := by decide +kernel
theorem dX7_takeOut_162 : decode cX7_takeOut 162 = .ok (.iload 4, 2) := by decide +kernel
theorem dX7_takeOut_164 : decode cX7_takeOut 164 = .ok (.iaload, 1) := by decide +kernel
theorem dX7_takeOut_165 : decode cX7_takeOut 165 = .ok (.aload_n 0, 1) := by decide +kernel
theorem dX7_takeOut_166 : decode cX7_takeOut 166 = .ok (.getfield 128, 3) := by decide +kernel
theorem dX7_takeOut_169 : decode cX7_takeOut 169 = .ok (.invokevirtual 141, 3) := by decide +kernel
theorem dX7_takeOut_172 : decode cX7_takeOut 172 = .ok (.ifCond .le 7, 3) := by decide +kernel
theorem dX7_takeOut_175 : decode cX7_takeOut 175 = .ok (.iconst 1, 1) := by decide +kernel
theorem dX7_takeOut_176 : decode cX7_takeOut 176 = .ok (.goto 4, 3) := by decide +kernel
theorem dX7_takeOut_179 : decode cX7_takeOut 179 = .ok (.iconst 0, 1) := by decide +kernel
theorem dX7_takeOut_180 : decode cX7_takeOut 180 = .ok (.bastore, 1) := by decide +kernel
theorem dX7_takeOut_181 : decode cX7_takeOut 181 = .ok (.aload_n 0, 1) := by decide +kernel
theorem dX7_takeOut_182 : decode cX7_takeOut 182 = .ok (.getfield 92, 3) := by decide +kernel
theorem dX7_takeOut_185 : decode cX7_takeOut 185 = .ok (.iload 4, 2) := by decide +kernel
theorem dX7_takeOut_187 : decode cX7_takeOut 187 = .ok (.baload, 1) := by decide +kernel
theorem dX7_takeOut_188 : decode cX7_takeOut 188 = .ok (.ifCond .eq 6, 3) := by decide +kernel
theorem dX7_takeOut_191 : decode cX7_takeOut 191 = .ok (.goto 14, 3) := by decide +kernel
theorem dX7_takeOut_194 : decode cX7_takeOut 194 = .ok (.aload_n 0, 1) := by decide +kernel
theorem dX7_takeOut_195 : decode cX7_takeOut 195 = .ok (.getfield 86, 3) := by decide +kernel
theorem dX7_takeOut_198 : decode cX7_takeOut 198 = .ok (.iload 4, 2) := by decide +kernel
theorem dX7_takeOut_200 : decode cX7_takeOut 200 = .ok (.iaload, 1) := by decide +kernel
theorem dX7_takeOut_201 : decode cX7_takeOut 201 = .ok (.istore_n 3, 1) := by decide +kernel
theorem dX7_takeOut_202 : decode cX7_takeOut 202 = .ok (.iinc 2 (-1), 3) := by decide +kernel
theorem dX7_takeOut_205 : decode cX7_takeOut 205 = .ok (.iinc 4 1, 3) := by decide +kernel
theorem dX7_takeOut_208 : decode cX7_takeOut 208 = .ok (.goto (-86), 3) := by decide +kernel
theorem dX7_takeOut_211 : decode cX7_takeOut 211 = .ok (.aload_n 0, 1) := by decide +kernel
theorem dX7_takeOut_212 : decode cX7_takeOut 212 = .ok (.getfield 176, 3) := by decide +kernel
theorem dX7_takeOut_215 : decode cX7_takeOut 215 = .ok (.iload_n 1, 1) := by decide +kernel
theorem dX7_takeOut_216 : decode cX7_takeOut 216 = .ok (.isub, 1) := by decide +kernel
theorem dX7_takeOut_217 : decode cX7_takeOut 217 = .ok (.ireturn, 1) := by decide +kernel
theorem dX7_takenOut_0 : decode cX7_takenOut 0 = .ok (.aload_n 0, 1) := by decide +kernel
theorem dX7_takenOut_1 : decode cX7_takenOut 1 = .ok (.invokevirtual 179, 3) := by decide +kernel
theorem dX7_takenOut_4 : decode cX7_takenOut 4 = .ok (.ireturn, 1) := by decide +kernel
theorem dX7_isOut_0 : decode cX7_isOut 0 = .ok (.iload_n 1, 1) := by decide +kernel
theorem dX7_isOut_1 : decode cX7_isOut 1 = .ok (.iconst 0, 1) := by decide +kernel
theorem dX7_isOut_2 : decode cX7_isOut 2 = .ok (.aload_n 0, 1) := by decide +kernel
theorem dX7_isOut_3 : decode cX7_isOut 3 = .ok (.getfield 176, 3) := by decide +kernel
theorem dX7_isOut_6 : decode cX7_isOut 6 = .ok (.iconst 1, 1) := by decide +kernel
theorem dX7_isOut_7 : decode cX7_isOut 7 = .ok (.isub, 1) := by decide +kernel
theorem dX7_isOut_8 : decode cX7_isOut 8 = .ok (.invokestatic 102, 3) := by decide +kernel
theorem dX7_isOut_11 : decode cX7_isOut 11 = .ok (.ifCond .ne 5, 3) := by decide +kernel
theorem dX7_isOut_14 : decode cX7_isOut 14 = .ok (.iconst (-1), 1) := by decide +kernel
theorem dX7_isOut_15 : decode cX7_isOut 15 = .ok (.ireturn, 1) := by decide +kernel
theorem dX7_isOut_16 : decode cX7_isOut 16 = .ok (.aload_n 0, 1) := by decide +kernel
theorem dX7_isOut_17 : decode cX7_isOut 17 = .ok (.invokevirtual 179, 3) := by decide +kernel
theorem dX7_isOut_20 : decode cX7_isOut 20 = .ok (.pop, 1) := by decide +kernel
theorem dX7_isOut_21 : decode cX7_isOut 21 = .ok (.aload_n 0, 1) := by decide +kernel
theorem dX7_isOut_22 : decode cX7_isOut 22 = .ok (.getfield 92, 3) := by decide +kernel
theorem dX7_isOut_25 : decode cX7_isOut 25 = .ok (.iload_n 1, 1) := by decide +kernel
theorem dX7_isOut_26 : decode cX7_isOut 26 = .ok (.baload, 1) := by decide +kernel
theorem dX7_isOut_27 : decode cX7_isOut 27 = .ok (.ifCond .eq 7, 3) := by decide +kernel
theorem dX7_isOut_30 : decode cX7_isOut 30 = .ok (.iconst 1, 1) := by decide +kernel
theorem dX7_isOut_31 : decode cX7_isOut 31 = .ok (.goto 4, 3) := by decide +kernel
theorem dX7_isOut_34 : decode cX7_isOut 34 = .ok (.iconst 0, 1) := by decide +kernel
theorem dX7_isOut_35 : decode cX7_isOut 35 = .ok (.ireturn, 1) := by decide +kernel
theorem dX7_drawn_0 : decode cX7_drawn 0 = .ok (.aload_n 0, 1) := by decide +kernel
theorem dX7_drawn_1 : decode cX7_drawn 1 = .ok (.getfield 176, 3) := by decide +kernel
theorem dX7_drawn_4 : decode cX7_drawn 4 = .ok (.iconst 1, 1) := by decide +kernel
theorem dX7_drawn_5 : decode cX7_drawn 5 = .ok (.isub, 1) := by decide +kernel
theorem dX7_drawn_6 : decode cX7_drawn 6 = .ok (.istore 4, 2) := by decide +kernel
theorem dX7_drawn_8 : decode cX7_drawn 8 = .ok (.iload_n 1, 1) := by decide +kernel
theorem dX7_drawn_9 : decode cX7_drawn 9 = .ok (.iconst 1, 1) := by decide +kernel
theorem dX7_drawn_10 : decode cX7_drawn 10 = .ok (.iload 4, 2) := by decide +kernel
theorem dX7_drawn_12 : decode cX7_drawn 12 = .ok (.invokestatic 102, 3) := by decide +kernel
theorem dX7_drawn_15 : decode cX7_drawn 15 = .ok (.ifCond .eq 12, 3) := by decide +kernel
theorem dX7_drawn_18 : decode cX7_drawn 18 = .ok (.iload_n 3, 1) := by decide +kernel
theorem dX7_drawn_19 : decode cX7_drawn 19 = .ok (.iconst 0, 1) := by decide +kernel
theorem dX7_drawn_20 : decode cX7_drawn 20 = .ok (.iconst 2, 1) := by decide +kernel
theorem dX7_drawn_21 : decode cX7_drawn 21 = .ok (.invokestatic 102, 3) := by decide +kernel
theorem dX7_drawn_24 : decode cX7_drawn 24 = .ok (.ifCond .ne 5, 3) := by decide +kernel
theorem dX7_drawn_27 : decode cX7_drawn 27 = .ok (.iconst (-1), 1) := by decide +kernel
theorem dX7_drawn_28 : decode cX7_drawn 28 = .ok (.ireturn, 1) := by decide +kernel
theorem dX7_drawn_29 : decode cX7_drawn 29 = .ok (.iload_n 2, 1) := by decide +kernel
theorem dX7_drawn_30 : decode cX7_drawn 30 = .ok (.istore 5, 2) := by decide +kernel
theorem dX7_drawn_32 : decode cX7_drawn 32 = .ok (.iconst 0, 1) := by decide +kernel
theorem dX7_drawn_33 : decode cX7_drawn 33 = .ok (.istore 6, 2) := by decide +kernel
theorem dX7_drawn_35 : decode cX7_drawn 35 = .ok (.iload 6, 2) := by decide +kernel
theorem dX7_drawn_37 : decode cX7_drawn 37 = .ok (.iload 4, 2) := by decide +kernel
theorem dX7_drawn_39 : decode cX7_drawn 39 = .ok (.if_icmp .ge 18, 3) := by decide +kernel
theorem dX7_drawn_42 : decode cX7_drawn 42 = .ok (.aload_n 0, 1) := by decide +kernel
theorem dX7_drawn_43 : decode cX7_drawn 43 = .ok (.getfield 96, 3) := by decide +kernel
theorem dX7_drawn_46 : decode cX7_drawn 46 = .ok (.iload 6, 2) := by decide +kernel
theorem dX7_drawn_48 : decode cX7_drawn 48 = .ok (.iload 6, 2) := by decide +kernel
theorem dX7_drawn_50 : decode cX7_drawn 50 = .ok (.iastore, 1) := by decide +kernel
theorem dX7_drawn_51 : decode cX7_drawn 51 = .ok (.iinc 6 1, 3) := by decide +kernel
theorem dX7_drawn_54 : decode cX7_drawn 54 = .ok (.goto (-19), 3) := by decide +kernel
theorem dX7_drawn_57 : decode cX7_drawn 57 = .ok (.iconst 0, 1) := by decide +kernel
theorem dX7_drawn_58 : decode cX7_drawn 58 = .ok (.istore 6, 2) := by decide +kernel
theorem dX7_drawn_60 : decode cX7_drawn 60 = .ok (.iconst 0, 1) := by decide +kernel
theorem dX7_drawn_61 : decode cX7_drawn 61 = .ok (.istore 7, 2) := by decide +kernel
theorem dX7_drawn_63 : decode cX7_drawn 63 = .ok (.iload 7, 2) := by decide +kernel
theorem dX7_drawn_65 : decode cX7_drawn 65 = .ok (.iload_n 1, 1) := by decide +kernel
theorem dX7_drawn_66 : decode cX7_drawn 66 = .ok (.if_icmp .ge 115, 3) := by decide +kernel
theorem dX7_drawn_69 : decode cX7_drawn 69 = .ok (.iload 5, 2) := by decide +kernel
theorem dX7_drawn_71 : decode cX7_drawn 71 = .ok (.ldc 182, 2) := by decide +kernel
theorem dX7_drawn_73 : decode cX7_drawn 73 = .ok (.imul, 1) := by decide +kernel
theorem dX7_drawn_74 : decode cX7_drawn 74 = .ok (.sipush 12345, 3) := by decide +kernel
theorem dX7_drawn_77 : decode cX7_drawn 77 = .ok (.iadd, 1) := by decide +kernel
theorem dX7_drawn_78 : decode cX7_drawn 78 = .ok (.istore 5, 2) := by decide +kernel
theorem dX7_drawn_80 : decode cX7_drawn 80 = .ok (.iload 7, 2) := by decide +kernel
theorem dX7_drawn_82 : decode cX7_drawn 82 = .ok (.iload 5, 2) := by decide +kernel
theorem dX7_drawn_84 : decode cX7_drawn 84 = .ok (.bipush 16, 2) := by decide +kernel
theorem dX7_drawn_86 : decode cX7_drawn 86 = .ok (.iushr, 1) := by decide +kernel
theorem dX7_drawn_87 : decode cX7_drawn 87 = .ok (.iload 4, 2) := by decide +kernel
theorem dX7_drawn_89 : decode cX7_drawn 89 = .ok (.iload 7, 2) := by decide +kernel
theorem dX7_drawn_91 : decode cX7_drawn 91 = .ok (.isub, 1) := by decide +kernel
theorem dX7_drawn_92 : decode cX7_drawn 92 = .ok (.irem, 1) := by decide +kernel
theorem dX7_drawn_93 : decode cX7_drawn 93 = .ok (.iadd, 1) := by decide +kernel
theorem dX7_drawn_94 : decode cX7_drawn 94 = .ok (.istore 8, 2) := by decide +kernel
theorem dX7_drawn_96 : decode cX7_drawn 96 = .ok (.aload_n 0, 1) := by decide +kernel
theorem dX7_drawn_97 : decode cX7_drawn 97 = .ok (.getfield 96, 3) := by decide +kernel
theorem dX7_drawn_100 : decode cX7_drawn 100 = .ok (.iload 7, 2) := by decide +kernel
theorem dX7_drawn_102 : decode cX7_drawn 102 = .ok (.iaload, 1) := by decide +kernel
theorem dX7_drawn_103 : decode cX7_drawn 103 = .ok (.istore 9, 2) := by decide +kernel
theorem dX7_drawn_105 : decode cX7_drawn 105 = .ok (.aload_n 0, 1) := by decide +kernel
theorem dX7_drawn_106 : decode cX7_drawn 106 = .ok (.getfield 96, 3) := by decide +kernel
theorem dX7_drawn_109 : decode cX7_drawn 109 = .ok (.iload 7, 2) := by decide +kernel
theorem dX7_drawn_111 : decode cX7_drawn 111 = .ok (.aload_n 0, 1) := by decide +kernel
theorem dX7_drawn_112 : decode cX7_drawn 112 = .ok (.getfield 96, 3) := by decide +kernel
theorem dX7_drawn_115 : decode cX7_drawn 115 = .ok (.iload 8, 2) := by decide +kernel
theorem dX7_drawn_117 : decode cX7_drawn 117 = .ok (.iaload, 1) := by decide +kernel
theorem dX7_drawn_118 : decode cX7_drawn 118 = .ok (.iastore, 1) := by decide +kernel
theorem dX7_drawn_119 : decode cX7_drawn 119 = .ok (.aload_n 0, 1) := by decide +kernel
theorem dX7_drawn_120 : decode cX7_drawn 120 = .ok (.getfield 96, 3) := by decide +kernel
theorem dX7_drawn_123 : decode cX7_drawn 123 = .ok (.iload 8, 2) := by decide +kernel
theorem dX7_drawn_125 : decode cX7_drawn 125 = .ok (.iload 9, 2) := by decide +kernel
theorem dX7_drawn_127 : decode cX7_drawn 127 = .ok (.iastore, 1) := by decide +kernel
theorem dX7_drawn_128 : decode cX7_drawn 128 = .ok (.iload 6, 2) := by decide +kernel
theorem dX7_drawn_130 : decode cX7_drawn 130 = .ok (.aload_n 0, 1) := by decide +kernel
theorem dX7_drawn_131 : decode cX7_drawn 131 = .ok (.aload_n 0, 1) := by decide +kernel
theorem dX7_drawn_132 : decode cX7_drawn 132 = .ok (.getfield 86, 3) := by decide +kernel
theorem dX7_drawn_135 : decode cX7_drawn 135 = .ok (.aload_n 0, 1) := by decide +kernel
theorem dX7_drawn_136 : decode cX7_drawn 136 = .ok (.getfield 96, 3) := by decide +kernel
theorem dX7_drawn_139 : decode cX7_drawn 139 = .ok (.iload 7, 2) := by decide +kernel
theorem dX7_drawn_141 : decode cX7_drawn 141 = .ok (.iaload, 1) := by decide +kernel
theorem dX7_drawn_142 : decode cX7_drawn 142 = .ok (.iaload, 1) := by decide +kernel
theorem dX7_drawn_143 : decode cX7_drawn 143 = .ok (.aload_n 0, 1) := by decide +kernel
theorem dX7_drawn_144 : decode cX7_drawn 144 = .ok (.getfield 86, 3) := by decide +kernel
theorem dX7_drawn_147 : decode cX7_drawn 147 = .ok (.aload_n 0, 1) := by decide +kernel
theorem dX7_drawn_148 : decode cX7_drawn 148 = .ok (.getfield 96, 3) := by decide +kernel
theorem dX7_drawn_151 : decode cX7_drawn 151 = .ok (.iload 7, 2) := by decide +kernel
theorem dX7_drawn_153 : decode cX7_drawn 153 = .ok (.iaload, 1) := by decide +kernel
theorem dX7_drawn_154 : decode cX7_drawn 154 = .ok (.iconst 1, 1) := by decide +kernel
theorem dX7_drawn_155 : decode cX7_drawn 155 = .ok (.iadd, 1) := by decide +kernel
theorem dX7_drawn_156 : decode cX7_drawn 156 = .ok (.iaload, 1) := by decide +kernel
theorem dX7_drawn_157 : decode cX7_drawn 157 = .ok (.aload_n 0, 1) := by decide +kernel
theorem dX7_drawn_158 : decode cX7_drawn 158 = .ok (.getfield 128, 3) := by decide +kernel
theorem dX7_drawn_161 : decode cX7_drawn 161 = .ok (.invokevirtual 141, 3) := by decide +kernel
theorem dX7_drawn_164 : decode cX7_drawn 164 = .ok (.ifCond .le 7, 3) := by decide +kernel
theorem dX7_drawn_167 : decode cX7_drawn 167 = .ok (.iconst 1, 1) := by decide +kernel
theorem dX7_drawn_168 : decode cX7_drawn 168 = .ok (.goto 4, 3) := by decide +kernel
theorem dX7_drawn_171 : decode cX7_drawn 171 = .ok (.iconst 0, 1) := by decide +kernel
theorem dX7_drawn_172 : decode cX7_drawn 172 = .ok (.iadd, 1) := by decide +kernel
theorem dX7_drawn_173 : decode cX7_drawn 173 = .ok (.istore 6, 2) := by decide +kernel
theorem dX7_drawn_175 : decode cX7_drawn 175 = .ok (.iinc 7 1, 3) := by decide +kernel
theorem dX7_drawn_178 : decode cX7_drawn 178 = .ok (.goto (-115), 3) := by decide +kernel
theorem dX7_drawn_181 : decode cX7_drawn 181 = .ok (.iload_n 3, 1) := by decide +kernel
theorem dX7_drawn_182 : decode cX7_drawn 182 = .ok (.iconst 2, 1) := by decide +kernel
theorem dX7_drawn_183 : decode cX7_drawn 183 = .ok (.if_icmp .ne 13, 3) := by decide +kernel
theorem dX7_drawn_186 : decode cX7_drawn 186 = .ok (.iload 6, 2) := by decide +kernel
theorem dX7_drawn_188 : decode cX7_drawn 188 = .ok (.iload 4, 2) := by decide +kernel
theorem dX7_drawn_190 : decode cX7_drawn 190 = .ok (.iadd, 1) := by decide +kernel
theorem dX7_drawn_191 : decode cX7_drawn 191 = .ok (.iload_n 1, 1) := by decide +kernel
theorem dX7_drawn_192 : decode cX7_drawn 192 = .ok (.isub, 1) := by decide +kernel
theorem dX7_drawn_193 : decode cX7_drawn 193 = .ok (.goto 5, 3) := by decide +kernel
theorem dX7_drawn_196 : decode cX7_drawn 196 = .ok (.iload 6, 2) := by decide +kernel
theorem dX7_drawn_198 : decode cX7_drawn 198 = .ok (.ireturn, 1) := by decide +kernel
theorem dX7_about_0 : decode cX7_about 0 = .ok (.iload_n 1, 1) := by decide +kernel
theorem dX7_about_1 : decode cX7_about 1 = .ok (.bipush 10, 2) := by decide +kernel
theorem dX7_about_3 : decode cX7_about 3 = .ok (.bipush 19, 2) := by decide +kernel
theorem dX7_about_5 : decode cX7_about 5 = .ok (.invokestatic 102, 3) := by decide +kernel
theorem dX7_about_8 : decode cX7_about 8 = .ok (.ifCond .eq 13, 3) := by decide +kernel
theorem dX7_about_11 : decode cX7_about 11 = .ok (.aload_n 0, 1) := by decide +kernel
theorem dX7_about_12 : decode cX7_about 12 = .ok (.getfield 41, 3) := by decide +kernel
theorem dX7_about_15 : decode cX7_about 15 = .ok (.iload_n 1, 1) := by decide +kernel
theorem dX7_about_16 : decode cX7_about 16 = .ok (.bipush 10, 2) := by decide +kernel
theorem dX7_about_18 : decode cX7_about 18 = .ok (.isub, 1) := by decide +kernel
theorem dX7_about_19 : decode cX7_about 19 = .ok (.iaload, 1) := by decide +kernel
theorem dX7_about_20 : decode cX7_about 20 = .ok (.ireturn, 1) := by decide +kernel
theorem dX7_about_21 : decode cX7_about 21 = .ok (.iload_n 1, 1) := by decide +kernel
theorem dX7_about_22 : decode cX7_about 22 = .ok (.bipush 20, 2) := by decide +kernel
theorem dX7_about_24 : decode cX7_about 24 = .ok (.bipush 24, 2) := by decide +kernel
theorem dX7_about_26 : decode cX7_about 26 = .ok (.invokestatic 102, 3) := by decide +kernel
theorem dX7_about_29 : decode cX7_about 29 = .ok (.ifCond .eq 13, 3) := by decide +kernel
theorem dX7_about_32 : decode cX7_about 32 = .ok (.aload_n 0, 1) := by decide +kernel
theorem dX7_about_33 : decode cX7_about 33 = .ok (.getfield 44, 3) := by decide +kernel
theorem dX7_about_36 : decode cX7_about 36 = .ok (.iload_n 1, 1) := by decide +kernel
theorem dX7_about_37 : decode cX7_about 37 = .ok (.bipush 20, 2) := by decide +kernel
theorem dX7_about_39 : decode cX7_about 39 = .ok (.isub, 1) := by decide +kernel
theorem dX7_about_40 : decode cX7_about 40 = .ok (.iaload, 1) := by decide +kernel
theorem dX7_about_41 : decode cX7_about 41 = .ok (.ireturn, 1) := by decide +kernel
theorem dX7_about_42 : decode cX7_about 42 = .ok (.iload_n 1, 1) := by decide +kernel
theorem dX7_about_43 : decode cX7_about 43 = .ok (.tableswitch 76 0 6 #[41, 46, 51, 56, 61, 66, 71], 41) := by decide +kernel
theorem dX7_about_84 : decode cX7_about 84 = .ok (.aload_n 0, 1) := by decide +kernel
theorem dX7_about_85 : decode cX7_about 85 = .ok (.getfield 99, 3) := by decide +kernel
theorem dX7_about_88 : decode cX7_about 88 = .ok (.ireturn, 1) := by decide +kernel
theorem dX7_about_89 : decode cX7_about 89 = .ok (.aload_n 0, 1) := by decide +kernel
theorem dX7_about_90 : decode cX7_about 90 = .ok (.getfield 148, 3) := by decide +kernel
theorem dX7_about_93 : decode cX7_about 93 = .ok (.ireturn, 1) := by decide +kernel
theorem dX7_about_94 : decode cX7_about 94 = .ok (.aload_n 0, 1) := by decide +kernel
theorem dX7_about_95 : decode cX7_about 95 = .ok (.getfield 128, 3) := by decide +kernel
theorem dX7_about_98 : decode cX7_about 98 = .ok (.ireturn, 1) := by decide +kernel
theorem dX7_about_99 : decode cX7_about 99 = .ok (.aload_n 0, 1) := by decide +kernel
theorem dX7_about_100 : decode cX7_about 100 = .ok (.getfield 7, 3) := by decide +kernel
theorem dX7_about_103 : decode cX7_about 103 = .ok (.ireturn, 1) := by decide +kernel
theorem dX7_about_104 : decode cX7_about 104 = .ok (.aload_n 0, 1) := by decide +kernel
theorem dX7_about_105 : decode cX7_about 105 = .ok (.getfield 13, 3) := by decide +kernel
theorem dX7_about_108 : decode cX7_about 108 = .ok (.ireturn, 1) := by decide +kernel
theorem dX7_about_109 : decode cX7_about 109 = .ok (.aload_n 0, 1) := by decide +kernel
theorem dX7_about_110 : decode cX7_about 110 = .ok (.getfield 176, 3) := by decide +kernel
theorem dX7_about_113 : decode cX7_about 113 = .ok (.ireturn, 1) := by decide +kernel
theorem dX7_about_114 : decode cX7_about 114 = .ok (.aload_n 0, 1) := by decide +kernel
theorem dX7_about_115 : decode cX7_about 115 = .ok (.getfield 106, 3) := by decide +kernel
theorem dX7_about_118 : decode cX7_about 118 = .ok (.ireturn, 1) := by decide +kernel
theorem dX7_about_119 : decode cX7_about 119 = .ok (.iconst (-1), 1) := by decide +kernel
theorem dX7_about_120 : decode cX7_about 120 = .ok (.ireturn, 1) := by decide +kernel
theorem dL_law_0 : decode cL_law 0 = .ok (.new 7, 3) := by decide +kernel
theorem dL_law_3 : decode cL_law 3 = .ok (.dup, 1) := by decide +kernel
theorem dL_law_4 : decode cL_law 4 = .ok (.invokespecial 9, 3) := by decide +kernel
theorem dL_law_7 : decode cL_law 7 = .ok (.astore_n 1, 1) := by decide +kernel
theorem dL_law_8 : decode cL_law 8 = .ok (.new 10, 3) := by decide +kernel
theorem dL_law_11 : decode cL_law 11 = .ok (.dup, 1) := by decide +kernel
theorem dL_law_12 : decode cL_law 12 = .ok (.invokespecial 12, 3) := by decide +kernel
theorem dL_law_15 : decode cL_law 15 = .ok (.astore_n 2, 1) := by decide +kernel
theorem dL_law_16 : decode cL_law 16 = .ok (.iconst 0, 1) := by decide +kernel
theorem dL_law_17 : decode cL_law 17 = .ok (.istore_n 3, 1) := by decide +kernel
theorem dL_law_18 : decode cL_law 18 = .ok (.iload_n 3, 1) := by decide +kernel
theorem dL_law_19 : decode cL_law 19 = .ok (.aload_n 0, 1) := by decide +kernel
theorem dL_law_20 : decode cL_law 20 = .ok (.arraylength, 1) := by decide +kernel
theorem dL_law_21 : decode cL_law 21 = .ok (.bipush 6, 2) := by decide +kernel
theorem dL_law_23 : decode cL_law 23 = .ok (.isub, 1) := by decide +kernel
theorem dL_law_24 : decode cL_law 24 = .ok (.if_icmp .gt 828, 3) := by decide +kernel
theorem dL_law_27 : decode cL_law 27 = .ok (.aload_n 0, 1) := by decide +kernel
theorem dL_law_28 : decode cL_law 28 = .ok (.iload_n 3, 1) := by decide +kernel
theorem dL_law_29 : decode cL_law 29 = .ok (.iaload, 1) := by decide +kernel
theorem dL_law_30 : decode cL_law 30 = .ok (.bipush 31, 2) := by decide +kernel
theorem dL_law_32 : decode cL_law 32 = .ok (.iand, 1) := by decide +kernel
theorem dL_law_33 : decode cL_law 33 = .ok (.tableswitch 813 0 23 #[111, 174, 197, 240, 253, 276, 319, 352, 365, 388, 421, 454, 487, 510, 543, 576, 599, 642, 655, 678, 711, 724, 747, 790], 111) := by decide +kernel
theorem dL_law_144 : decode cL_law 144 = .ok (.aload_n 1, 1) := by decide +kernel
theorem dL_law_145 : decode cL_law 145 = .ok (.aload_n 0, 1) := by decide +kernel
theorem dL_law_146 : decode cL_law 146 = .ok (.iload_n 3, 1) := by decide +kernel
theorem dL_law_147 : decode cL_law 147 = .ok (.iconst 1, 1) := by decide +kernel
theorem dL_law_148 : decode cL_law 148 = .ok (.iadd, 1) := by decide +kernel
theorem dL_law_149 : decode cL_law 149 = .ok (.iaload, 1) := by decide +kernel
theorem dL_law_150 : decode cL_law 150 = .ok (.aload_n 0, 1) := by decide +kernel
theorem dL_law_151 : decode cL_law 151 = .ok (.iload_n 3, 1) := by decide +kernel
theorem dL_law_152 : decode cL_law 152 = .ok (.iconst 2, 1) := by decide +kernel
theorem dL_law_153 : decode cL_law 153 = .ok (.iadd, 1) := by decide +kernel
theorem dL_law_154 : decode cL_law 154 = .ok (.iaload, 1) := by decide +kernel
theorem dL_law_155 : decode cL_law 155 = .ok (.aload_n 0, 1) := by decide +kernel
theorem dL_law_156 : decode cL_law 156 = .ok (.iload_n 3, 1) := by decide +kernel
theorem dL_law_157 : decode cL_law 157 = .ok (.iconst 3, 1) := by decide +kernel
theorem dL_law_158 : decode cL_law 158 = .ok (.iadd, 1) := by decide +kernel
theorem dL_law_159 : decode cL_law 159 = .ok (.iaload, 1) := by decide +kernel
theorem dL_law_160 : decode cL_law 160 = .ok (.aload_n 0, 1) := by decide +kernel
theorem dL_law_161 : decode cL_law 161 = .ok (.iload_n 3, 1) := by decide +kernel
theorem dL_law_162 : decode cL_law 162 = .ok (.iconst 4, 1) := by decide +kernel
theorem dL_law_163 : decode cL_law 163 = .ok (.iadd, 1) := by decide +kernel
theorem dL_law_164 : decode cL_law 164 = .ok (.iaload, 1) := by decide +kernel
theorem dL_law_165 : decode cL_law 165 = .ok (.aload_n 0, 1) := by decide +kernel
theorem dL_law_166 : decode cL_law 166 = .ok (.iload_n 3, 1) := by decide +kernel
theorem dL_law_167 : decode cL_law 167 = .ok (.iconst 5, 1) := by decide +kernel
theorem dL_law_168 : decode cL_law 168 = .ok (.iadd, 1) := by decide +kernel
theorem dL_law_169 : decode cL_law 169 = .ok (.iaload, 1) := by decide +kernel
theorem dL_law_170 : decode cL_law 170 = .ok (.invokevirtual 13, 3) := by decide +kernel
theorem dL_law_173 : decode cL_law 173 = .ok (.aload_n 2, 1) := by decide +kernel
theorem dL_law_174 : decode cL_law 174 = .ok (.aload_n 0, 1) := by decide +kernel
theorem dL_law_175 : decode cL_law 175 = .ok (.iload_n 3, 1) := by decide +kernel
theorem dL_law_176 : decode cL_law 176 = .ok (.iconst 1, 1) := by decide +kernel
theorem dL_law_177 : decode cL_law 177 = .ok (.iadd, 1) := by decide +kernel
theorem dL_law_178 : decode cL_law 178 = .ok (.iaload, 1) := by decide +kernel
theorem dL_law_179 : decode cL_law 179 = .ok (.aload_n 0, 1) := by decide +kernel
theorem dL_law_180 : decode cL_law 180 = .ok (.iload_n 3, 1) := by decide +kernel
theorem dL_law_181 : decode cL_law 181 = .ok (.iconst 2, 1) := by decide +kernel
theorem dL_law_182 : decode cL_law 182 = .ok (.iadd, 1) := by decide +kernel
theorem dL_law_183 : decode cL_law 183 = .ok (.iaload, 1) := by decide +kernel
theorem dL_law_184 : decode cL_law 184 = .ok (.aload_n 0, 1) := by decide +kernel
theorem dL_law_185 : decode cL_law 185 = .ok (.iload_n 3, 1) := by decide +kernel
theorem dL_law_186 : decode cL_law 186 = .ok (.iconst 3, 1) := by decide +kernel
theorem dL_law_187 : decode cL_law 187 = .ok (.iadd, 1) := by decide +kernel
theorem dL_law_188 : decode cL_law 188 = .ok (.iaload, 1) := by decide +kernel
theorem dL_law_189 : decode cL_law 189 = .ok (.aload_n 0, 1) := by decide +kernel
theorem dL_law_190 : decode cL_law 190 = .ok (.iload_n 3, 1) := by decide +kernel
theorem dL_law_191 : decode cL_law 191 = .ok (.iconst 4, 1) := by decide +kernel
theorem dL_law_192 : decode cL_law 192 = .ok (.iadd, 1) := by decide +kernel
theorem dL_law_193 : decode cL_law 193 = .ok (.iaload, 1) := by decide +kernel
theorem dL_law_194 : decode cL_law 194 = .ok (.aload_n 0, 1) := by decide +kernel
theorem dL_law_195 : decode cL_law 195 = .ok (.iload_n 3, 1) := by decide +kernel
theorem dL_law_196 : decode cL_law 196 = .ok (.iconst 5, 1) := by decide +kernel
theorem dL_law_197 : decode cL_law 197 = .ok (.iadd, 1) := by decide +kernel
theorem dL_law_198 : decode cL_law 198 = .ok (.iaload, 1) := by decide +kernel
theorem dL_law_199 : decode cL_law 199 = .ok (.invokevirtual 17, 3) := by decide +kernel
theorem dL_law_202 : decode cL_law 202 = .ok (.if_icmp .eq 644, 3) := by decide +kernel
theorem dL_law_205 : decode cL_law 205 = .ok (.iconst 0, 1) := by decide +kernel
theorem dL_law_206 : decode cL_law 206 = .ok (.ireturn, 1) := by decide +kernel
theorem dL_law_207 : decode cL_law 207 = .ok (.aload_n 1, 1) := by decide +kernel
theorem dL_law_208 : decode cL_law 208 = .ok (.aload_n 0, 1) := by decide +kernel
theorem dL_law_209 : decode cL_law 209 = .ok (.iload_n 3, 1) := by decide +kernel
theorem dL_law_210 : decode cL_law 210 = .ok (.iconst 1, 1) := by decide +kernel
theorem dL_law_211 : decode cL_law 211 = .ok (.iadd, 1) := by decide +kernel
theorem dL_law_212 : decode cL_law 212 = .ok (.iaload, 1) := by decide +kernel
theorem dL_law_213 : decode cL_law 213 = .ok (.invokevirtual 18, 3) := by decide +kernel
theorem dL_law_216 : decode cL_law 216 = .ok (.aload_n 2, 1) := by decide +kernel
theorem dL_law_217 : decode cL_law 217 = .ok (.aload_n 0, 1) := by decide +kernel
theorem dL_law_218 : decode cL_law 218 = .ok (.iload_n 3, 1) := by decide +kernel
theorem dL_law_219 : decode cL_law 219 = .ok (.iconst 1, 1) := by decide +kernel
theorem dL_law_220 : decode cL_law 220 = .ok (.iadd, 1) := by decide +kernel
theorem dL_law_221 : decode cL_law 221 = .ok (.iaload, 1) := by decide +kernel
theorem dL_law_222 : decode cL_law 222 = .ok (.invokevirtual 22, 3) := by decide +kernel
theorem dL_law_225 : decode cL_law 225 = .ok (.if_icmp .eq 621, 3) := by decide +kernel
theorem dL_law_228 : decode cL_law 228 = .ok (.iconst 0, 1) := by decide +kernel
theorem dL_law_229 : decode cL_law 229 = .ok (.ireturn, 1) := by decide +kernel
theorem dL_law_230 : decode cL_law 230 = .ok (.aload_n 1, 1) := by decide +kernel
theorem dL_law_231 : decode cL_law 231 = .ok (.aload_n 0, 1) := by decide +kernel
theorem dL_law_232 : decode cL_law 232 = .ok (.iload_n 3, 1) := by decide +kernel
theorem dL_law_233 : decode cL_law 233 = .ok (.iconst 1, 1) := by decide +kernel
theorem dL_law_234 : decode cL_law 234 = .ok (.iadd, 1) := by decide +kernel
theorem dL_law_235 : decode cL_law 235 = .ok (.iaload, 1) := by decide +kernel
theorem dL_law_236 : decode cL_law 236 = .ok (.aload_n 0, 1) := by decide +kernel
theorem dL_law_237 : decode cL_law 237 = .ok (.iload_n 3, 1) := by decide +kernel
theorem dL_law_238 : decode cL_law 238 = .ok (.iconst 2, 1) := by decide +kernel
theorem dL_law_239 : decode cL_law 239 = .ok (.iadd, 1) := by decide +kernel
theorem dL_law_240 : decode cL_law 240 = .ok (.iaload, 1) := by decide +kernel
theorem dL_law_241 : decode cL_law 241 = .ok (.aload_n 0, 1) := by decide +kernel
theorem dL_law_242 : decode cL_law 242 = .ok (.iload_n 3, 1) := by decide +kernel
theorem dL_law_243 : decode cL_law 243 = .ok (.iconst 3, 1) := by decide +kernel
theorem dL_law_244 : decode cL_law 244 = .ok (.iadd, 1) := by decide +kernel
theorem dL_law_245 : decode cL_law 245 = .ok (.iaload, 1) := by decide +kernel
theorem dL_law_246 : decode cL_law 246 = .ok (.invokevirtual 23, 3) := by decide +kernel
theorem dL_law_249 : decode cL_law 249 = .ok (.aload_n 2, 1) := by decide +kernel
theorem dL_law_250 : decode cL_law 250 = .ok (.aload_n 0, 1) := by decide +kernel
theorem dL_law_251 : decode cL_law 251 = .ok (.iload_n 3, 1) := by decide +kernel
theorem dL_law_252 : decode cL_law 252 = .ok (.iconst 1, 1) := by decide +kernel
theorem dL_law_253 : decode cL_law 253 = .ok (.iadd, 1) := by decide +kernel
theorem dL_law_254 : decode cL_law 254 = .ok (.iaload, 1) := by decide +kernel
theorem dL_law_255 : decode cL_law 255 = .ok (.aload_n 0, 1) := by decide +kernel
theorem dL_law_256 : decode cL_law 256 = .ok (.iload_n 3, 1) := by decide +kernel
theorem dL_law_257 : decode cL_law 257 = .ok (.iconst 2, 1) := by decide +kernel
theorem dL_law_258 : decode cL_law 258 = .ok (.iadd, 1) := by decide +kernel
theorem dL_law_259 : decode cL_law 259 = .ok (.iaload, 1) := by decide +kernel
theorem dL_law_260 : decode cL_law 260 = .ok (.aload_n 0, 1) := by decide +kernel
theorem dL_law_261 : decode cL_law 261 = .ok (.iload_n 3, 1) := by decide +kernel
theorem dL_law_262 : decode cL_law 262 = .ok (.iconst 3, 1) := by decide +kernel
theorem dL_law_263 : decode cL_law 263 = .ok (.iadd, 1) := by decide +kernel
theorem dL_law_264 : decode cL_law 264 = .ok (.iaload, 1) := by decide +kernel
theorem dL_law_265 : decode cL_law 265 = .ok (.invokevirtual 27, 3) := by decide +kernel
theorem dL_law_268 : decode cL_law 268 = .ok (.if_icmp .eq 578, 3) := by decide +kernel
theorem dL_law_271 : decode cL_law 271 = .ok (.iconst 0, 1) := by decide +kernel
theorem dL_law_272 : decode cL_law 272 = .ok (.ireturn, 1) := by decide +kernel
theorem dL_law_273 : decode cL_law 273 = .ok (.aload_n 1, 1) := by decide +kernel
theorem dL_law_274 : decode cL_law 274 = .ok (.invokevirtual 28, 3) := by decide +kernel
theorem dL_law_277 : decode cL_law 277 = .ok (.aload_n 2, 1) := by decide +kernel
theorem dL_law_278 : decode cL_law 278 = .ok (.invokevirtual 32, 3) := by decide +kernel
theorem dL_law_281 : decode cL_law 281 = .ok (.if_icmp .eq 565, 3) := by decide +kernel
theorem dL_law_284 : decode cL_law 284 = .ok (.iconst 0, 1) := by decide +kernel
theorem dL_law_285 : decode cL_law 285 = .ok (.ireturn, 1) := by decide +kernel
theorem dL_law_286 : decode cL_law 286 = .ok (.aload_n 1, 1) := by decide +kernel
theorem dL_law_287 : decode cL_law 287 = .ok (.aload_n 0, 1) := by decide +kernel
theorem dL_law_288 : decode cL_law 288 = .ok (.iload_n 3, 1) := by decide +kernel
theorem dL_law_289 : decode cL_law 289 = .ok (.iconst 1, 1) := by decide +kernel
theorem dL_law_290 : decode cL_law 290 = .ok (.iadd, 1) := by decide +kernel
theorem dL_law_291 : decode cL_law 291 = .ok (.iaload, 1) := by decide +kernel
theorem dL_law_292 : decode cL_law 292 = .ok (.invokevirtual 33, 3) := by decide +kernel
theorem dL_law_295 : decode cL_law 295 = .ok (.aload_n 2, 1) := by decide +kernel
theorem dL_law_296 : decode cL_law 296 = .ok (.aload_n 0, 1) := by decide +kernel
theorem dL_law_297 : decode cL_law 297 = .ok (.iload_n 3, 1) := by decide +kernel
theorem dL_law_298 : decode cL_law 298 = .ok (.iconst 1, 1) := by decide +kernel
theorem dL_law_299 : decode cL_law 299 = .ok (.iadd, 1) := by decide +kernel
theorem dL_law_300 : decode cL_law 300 = .ok (.iaload, 1) := by decide +kernel
theorem dL_law_301 : decode cL_law 301 = .ok (.invokevirtual 37, 3) := by decide +kernel
theorem dL_law_304 : decode cL_law 304 = .ok (.if_icmp .eq 542, 3) := by decide +kernel
theorem dL_law_307 : decode cL_law 307 = .ok (.iconst 0, 1) := by decide +kernel
theorem dL_law_308 : decode cL_law 308 = .ok (.ireturn, 1) := by decide +kernel
theorem dL_law_309 : decode cL_law 309 = .ok (.aload_n 1, 1) := by decide +kernel
theorem dL_law_310 : decode cL_law 310 = .ok (.aload_n 0, 1) := by decide +kernel
theorem dL_law_311 : decode cL_law 311 = .ok (.iload_n 3, 1) := by decide +kernel
theorem dL_law_312 : decode cL_law 312 = .ok (.iconst 1, 1) := by decide +kernel
theorem dL_law_313 : decode cL_law 313 = .ok (.iadd, 1) := by decide +kernel
theorem dL_law_314 : decode cL_law 314 = .ok (.iaload, 1) := by decide +kernel
theorem dL_law_315 : decode cL_law 315 = .ok (.aload_n 0, 1) := by decide +kernel
theorem dL_law_316 : decode cL_law 316 = .ok (.iload_n 3, 1) := by decide +kernel
theorem dL_law_317 : decode cL_law 317 = .ok (.iconst 2, 1) := by decide +kernel
theorem dL_law_318 : decode cL_law 318 = .ok (.iadd, 1) := by decide +kernel
theorem dL_law_319 : decode cL_law 319 = .ok (.iaload, 1) := by decide +kernel
theorem dL_law_320 : decode cL_law 320 = .ok (.aload_n 0, 1) := by decide +kernel
theorem dL_law_321 : decode cL_law 321 = .ok (.iload_n 3, 1) := by decide +kernel
theorem dL_law_322 : decode cL_law 322 = .ok (.iconst 3, 1) := by decide +kernel
theorem dL_law_323 : decode cL_law 323 = .ok (.iadd, 1) := by decide +kernel
theorem dL_law_324 : decode cL_law 324 = .ok (.iaload, 1) := by decide +kernel
theorem dL_law_325 : decode cL_law 325 = .ok (.invokevirtual 38, 3) := by decide +kernel
theorem dL_law_328 : decode cL_law 328 = .ok (.aload_n 2, 1) := by decide +kernel
theorem dL_law_329 : decode cL_law 329 = .ok (.aload_n 0, 1) := by decide +kernel
theorem dL_law_330 : decode cL_law 330 = .ok (.iload_n 3, 1) := by decide +kernel
theorem dL_law_331 : decode cL_law 331 = .ok (.iconst 1, 1) := by decide +kernel
theorem dL_law_332 : decode cL_law 332 = .ok (.iadd, 1) := by decide +kernel
theorem dL_law_333 : decode cL_law 333 = .ok (.iaload, 1) := by decide +kernel
theorem dL_law_334 : decode cL_law 334 = .ok (.aload_n 0, 1) := by decide +kernel
theorem dL_law_335 : decode cL_law 335 = .ok (.iload_n 3, 1) := by decide +kernel
theorem dL_law_336 : decode cL_law 336 = .ok (.iconst 2, 1) := by decide +kernel
theorem dL_law_337 : decode cL_law 337 = .ok (.iadd, 1) := by decide +kernel
theorem dL_law_338 : decode cL_law 338 = .ok (.iaload, 1) := by decide +kernel
theorem dL_law_339 : decode cL_law 339 = .ok (.aload_n 0, 1) := by decide +kernel
theorem dL_law_340 : decode cL_law 340 = .ok (.iload_n 3, 1) := by decide +kernel
theorem dL_law_341 : decode cL_law 341 = .ok (.iconst 3, 1) := by decide +kernel
theorem dL_law_342 : decode cL_law 342 = .ok (.iadd, 1) := by decide +kernel
theorem dL_law_343 : decode cL_law 343 = .ok (.iaload, 1) := by decide +kernel
theorem dL_law_344 : decode cL_law 344 = .ok (.invokevirtual 41, 3) := by decide +kernel
theorem dL_law_347 : decode cL_law 347 = .ok (.if_icmp .eq 499, 3) := by decide +kernel
theorem dL_law_350 : decode cL_law 350 = .ok (.iconst 0, 1) := by decide +kernel
theorem dL_law_351 : decode cL_law 351 = .ok (.ireturn, 1) := by decide +kernel
theorem dL_law_352 : decode cL_law 352 = .ok (.aload_n 1, 1) := by decide +kernel
theorem dL_law_353 : decode cL_law 353 = .ok (.aload_n 0, 1) := by decide +kernel
theorem dL_law_354 : decode cL_law 354 = .ok (.iload_n 3, 1) := by decide +kernel
theorem dL_law_355 : decode cL_law 355 = .ok (.iconst 1, 1) := by decide +kernel
theorem dL_law_356 : decode cL_law 356 = .ok (.iadd, 1) := by decide +kernel
theorem dL_law_357 : decode cL_law 357 = .ok (.iaload, 1) := by decide +kernel
theorem dL_law_358 : decode cL_law 358 = .ok (.aload_n 0, 1) := by decide +kernel
theorem dL_law_359 : decode cL_law 359 = .ok (.iload_n 3, 1) := by decide +kernel
theorem dL_law_360 : decode cL_law 360 = .ok (.iconst 2, 1) := by decide +kernel
theorem dL_law_361 : decode cL_law 361 = .ok (.iadd, 1) := by decide +kernel
theorem dL_law_362 : decode cL_law 362 = .ok (.iaload, 1) := by decide +kernel
theorem dL_law_363 : decode cL_law 363 = .ok (.invokevirtual 42, 3) := by decide +kernel
theorem dL_law_366 : decode cL_law 366 = .ok (.aload_n 2, 1) := by decide +kernel
theorem dL_law_367 : decode cL_law 367 = .ok (.aload_n 0, 1) := by decide +kernel
theorem dL_law_368 : decode cL_law 368 = .ok (.iload_n 3, 1) := by decide +kernel
theorem dL_law_369 : decode cL_law 369 = .ok (.iconst 1, 1) := by decide +kernel
theorem dL_law_370 : decode cL_law 370 = .ok (.iadd, 1) := by decide +kernel
theorem dL_law_371 : decode cL_law 371 = .ok (.iaload, 1) := by decide +kernel
theorem dL_law_372 : decode cL_law 372 = .ok (.aload_n 0, 1) := by decide +kernel
theorem dL_law_373 : decode cL_law 373 = .ok (.iload_n 3, 1) := by decide +kernel
theorem dL_law_374 : decode cL_law 374 = .ok (.iconst 2, 1) := by decide +kernel
theorem dL_law_375 : decode cL_law 375 = .ok (.iadd, 1) := by decide +kernel
theorem dL_law_376 : decode cL_law 376 = .ok (.iaload, 1) := by decide +kernel
theorem dL_law_377 : decode cL_law 377 = .ok (.invokevirtual 46, 3) := by decide +kernel
theorem dL_law_380 : decode cL_law 380 = .ok (.if_icmp .eq 466, 3) := by decide +kernel
theorem dL_law_383 : decode cL_law 383 = .ok (.iconst 0, 1) := by decide +kernel
theorem dL_law_384 : decode cL_law 384 = .ok (.ireturn, 1) := by decide +kernel
theorem dL_law_385 : decode cL_law 385 = .ok (.aload_n 1, 1) := by decide +kernel
theorem dL_law_386 : decode cL_law 386 = .ok (.invokevirtual 47, 3) := by decide +kernel
theorem dL_law_389 : decode cL_law 389 = .ok (.aload_n 2, 1) := by decide +kernel
theorem dL_law_390 : decode cL_law 390 = .ok (.invokevirtual 50, 3) := by decide +kernel
theorem dL_law_393 : decode cL_law 393 = .ok (.if_icmp .eq 453, 3) := by decide +kernel
theorem dL_law_396 : decode cL_law 396 = .ok (.iconst 0, 1) := by decide +kernel
theorem dL_law_397 : decode cL_law 397 = .ok (.ireturn, 1) := by decide +kernel
theorem dL_law_398 : decode cL_law 398 = .ok (.aload_n 1, 1) := by decide +kernel
theorem dL_law_399 : decode cL_law 399 = .ok (.aload_n 0, 1) := by decide +kernel
theorem dL_law_400 : decode cL_law 400 = .ok (.iload_n 3, 1) := by decide +kernel
theorem dL_law_401 : decode cL_law 401 = .ok (.iconst 1, 1) := by decide +kernel
theorem dL_law_402 : decode cL_law 402 = .ok (.iadd, 1) := by decide +kernel
theorem dL_law_403 : decode cL_law 403 = .ok (.iaload, 1) := by decide +kernel
theorem dL_law_404 : decode cL_law 404 = .ok (.invokevirtual 51, 3) := by decide +kernel
theorem dL_law_407 : decode cL_law 407 = .ok (.aload_n 2, 1) := by decide +kernel
theorem dL_law_408 : decode cL_law 408 = .ok (.aload_n 0, 1) := by decide +kernel
theorem dL_law_409 : decode cL_law 409 = .ok (.iload_n 3, 1) := by decide +kernel
theorem dL_law_410 : decode cL_law 410 = .ok (.iconst 1, 1) := by decide +kernel
theorem dL_law_411 : decode cL_law 411 = .ok (.iadd, 1) := by decide +kernel
theorem dL_law_412 : decode cL_law 412 = .ok (.iaload, 1) := by decide +kernel
theorem dL_law_413 : decode cL_law 413 = .ok (.invokevirtual 54, 3) := by decide +kernel
theorem dL_law_416 : decode cL_law 416 = .ok (.if_icmp .eq 430, 3) := by decide +kernel
theorem dL_law_419 : decode cL_law 419 = .ok (.iconst 0, 1) := by decide +kernel
theorem dL_law_420 : decode cL_law 420 = .ok (.ireturn, 1) := by decide +kernel
theorem dL_law_421 : decode cL_law 421 = .ok (.aload_n 1, 1) := by decide +kernel
theorem dL_law_422 : decode cL_law 422 = .ok (.aload_n 0, 1) := by decide +kernel
theorem dL_law_423 : decode cL_law 423 = .ok (.iload_n 3, 1) := by decide +kernel
theorem dL_law_424 : decode cL_law 424 = .ok (.iconst 1, 1) := by decide +kernel
theorem dL_law_425 : decode cL_law 425 = .ok (.iadd, 1) := by decide +kernel
theorem dL_law_426 : decode cL_law 426 = .ok (.iaload, 1) := by decide +kernel
theorem dL_law_427 : decode cL_law 427 = .ok (.aload_n 0, 1) := by decide +kernel
theorem dL_law_428 : decode cL_law 428 = .ok (.iload_n 3, 1) := by decide +kernel
theorem dL_law_429 : decode cL_law 429 = .ok (.iconst 2, 1) := by decide +kernel
theorem dL_law_430 : decode cL_law 430 = .ok (.iadd, 1) := by decide +kernel
theorem dL_law_431 : decode cL_law 431 = .ok (.iaload, 1) := by decide +kernel
theorem dL_law_432 : decode cL_law 432 = .ok (.invokevirtual 55, 3) := by decide +kernel
theorem dL_law_435 : decode cL_law 435 = .ok (.aload_n 2, 1) := by decide +kernel
theorem dL_law_436 : decode cL_law 436 = .ok (.aload_n 0, 1) := by decide +kernel
theorem dL_law_437 : decode cL_law 437 = .ok (.iload_n 3, 1) := by decide +kernel
theorem dL_law_438 : decode cL_law 438 = .ok (.iconst 1, 1) := by decide +kernel
theorem dL_law_439 : decode cL_law 439 = .ok (.iadd, 1) := by decide +kernel
theorem dL_law_440 : decode cL_law 440 = .ok (.iaload, 1) := by decide +kernel
theorem dL_law_441 : decode cL_law 441 = .ok (.aload_n 0, 1) := by decide +kernel
theorem dL_law_442 : decode cL_law 442 = .ok (.iload_n 3, 1) := by decide +kernel
theorem dL_law_443 : decode cL_law 443 = .ok (.iconst 2, 1) := by decide +kernel
theorem dL_law_444 : decode cL_law 444 = .ok (.iadd, 1) := by decide +kernel
theorem dL_law_445 : decode cL_law 445 = .ok (.iaload, 1) := by decide +kernel
theorem dL_law_446 : decode cL_law 446 = .ok (.invokevirtual 59, 3) := by decide +kernel
theorem dL_law_449 : decode cL_law 449 = .ok (.if_icmp .eq 397, 3) := by decide +kernel
theorem dL_law_452 : decode cL_law 452 = .ok (.iconst 0, 1) := by decide +kernel
theorem dL_law_453 : decode cL_law 453 = .ok (.ireturn, 1) := by decide +kernel
theorem dL_law_454 : decode cL_law 454 = .ok (.aload_n 1, 1) := by decide +kernel
theorem dL_law_455 : decode cL_law 455 = .ok (.aload_n 0, 1) := by decide +kernel
theorem dL_law_456 : decode cL_law 456 = .ok (.iload_n 3, 1) := by decide +kernel
theorem dL_law_457 : decode cL_law 457 = .ok (.iconst 1, 1) := by decide +kernel
theorem dL_law_458 : decode cL_law 458 = .ok (.iadd, 1) := by decide +kernel
theorem dL_law_459 : decode cL_law 459 = .ok (.iaload, 1) := by decide +kernel
theorem dL_law_460 : decode cL_law 460 = .ok (.aload_n 0, 1) := by decide +kernel
theorem dL_law_461 : decode cL_law 461 = .ok (.iload_n 3, 1) := by decide +kernel
theorem dL_law_462 : decode cL_law 462 = .ok (.iconst 2, 1) := by decide +kernel
theorem dL_law_463 : decode cL_law 463 = .ok (.iadd, 1) := by decide +kernel
theorem dL_law_464 : decode cL_law 464 = .ok (.iaload, 1) := by decide +kernel
theorem dL_law_465 : decode cL_law 465 = .ok (.invokevirtual 60, 3) := by decide +kernel
theorem dL_law_468 : decode cL_law 468 = .ok (.aload_n 2, 1) := by decide +kernel
theorem dL_law_469 : decode cL_law 469 = .ok (.aload_n 0, 1) := by decide +kernel
theorem dL_law_470 : decode cL_law 470 = .ok (.iload_n 3, 1) := by decide +kernel
theorem dL_law_471 : decode cL_law 471 = .ok (.iconst 1, 1) := by decide +kernel
theorem dL_law_472 : decode cL_law 472 = .ok (.iadd, 1) := by decide +kernel
theorem dL_law_473 : decode cL_law 473 = .ok (.iaload, 1) := by decide +kernel
theorem dL_law_474 : decode cL_law 474 = .ok (.aload_n 0, 1) := by decide +kernel
theorem dL_law_475 : decode cL_law 475 = .ok (.iload_n 3, 1) := by decide +kernel
theorem dL_law_476 : decode cL_law 476 = .ok (.iconst 2, 1) := by decide +kernel
theorem dL_law_477 : decode cL_law 477 = .ok (.iadd, 1) := by decide +kernel
theorem dL_law_478 : decode cL_law 478 = .ok (.iaload, 1) := by decide +kernel
theorem dL_law_479 : decode cL_law 479 = .ok (.invokevirtual 63, 3) := by decide +kernel
theorem dL_law_482 : decode cL_law 482 = .ok (.if_icmp .eq 364, 3) := by decide +kernel
theorem dL_law_485 : decode cL_law 485 = .ok (.iconst 0, 1) := by decide +kernel
theorem dL_law_486 : decode cL_law 486 = .ok (.ireturn, 1) := by decide +kernel
theorem dL_law_487 : decode cL_law 487 = .ok (.aload_n 1, 1) := by decide +kernel
theorem dL_law_488 : decode cL_law 488 = .ok (.aload_n 0, 1) := by decide +kernel
theorem dL_law_489 : decode cL_law 489 = .ok (.iload_n 3, 1) := by decide +kernel
theorem dL_law_490 : decode cL_law 490 = .ok (.iconst 1, 1) := by decide +kernel
theorem dL_law_491 : decode cL_law 491 = .ok (.iadd, 1) := by decide +kernel
theorem dL_law_492 : decode cL_law 492 = .ok (.iaload, 1) := by decide +kernel
theorem dL_law_493 : decode cL_law 493 = .ok (.aload_n 0, 1) := by decide +kernel
theorem dL_law_494 : decode cL_law 494 = .ok (.iload_n 3, 1) := by decide +kernel
theorem dL_law_495 : decode cL_law 495 = .ok (.iconst 2, 1) := by decide +kernel
theorem dL_law_496 : decode cL_law 496 = .ok (.iadd, 1) := by decide +kernel
theorem dL_law_497 : decode cL_law 497 = .ok (.iaload, 1) := by decide +kernel
theorem dL_law_498 : decode cL_law 498 = .ok (.invokevirtual 64, 3) := by decide +kernel
theorem dL_law_501 : decode cL_law 501 = .ok (.aload_n 2, 1) := by decide +kernel
theorem dL_law_502 : decode cL_law 502 = .ok (.aload_n 0, 1) := by decide +kernel
theorem dL_law_503 : decode cL_law 503 = .ok (.iload_n 3, 1) := by decide +kernel
theorem dL_law_504 : decode cL_law 504 = .ok (.iconst 1, 1) := by decide +kernel
theorem dL_law_505 : decode cL_law 505 = .ok (.iadd, 1) := by decide +kernel
theorem dL_law_506 : decode cL_law 506 = .ok (.iaload, 1) := by decide +kernel
theorem dL_law_507 : decode cL_law 507 = .ok (.aload_n 0, 1) := by decide +kernel
theorem dL_law_508 : decode cL_law 508 = .ok (.iload_n 3, 1) := by decide +kernel
theorem dL_law_509 : decode cL_law 509 = .ok (.iconst 2, 1) := by decide +kernel
theorem dL_law_510 : decode cL_law 510 = .ok (.iadd, 1) := by decide +kernel
theorem dL_law_511 : decode cL_law 511 = .ok (.iaload, 1) := by decide +kernel
theorem dL_law_512 : decode cL_law 512 = .ok (.invokevirtual 67, 3) := by decide +kernel
theorem dL_law_515 : decode cL_law 515 = .ok (.if_icmp .eq 331, 3) := by decide +kernel
theorem dL_law_518 : decode cL_law 518 = .ok (.iconst 0, 1) := by decide +kernel
theorem dL_law_519 : decode cL_law 519 = .ok (.ireturn, 1) := by decide +kernel
theorem dL_law_520 : decode cL_law 520 = .ok (.aload_n 1, 1) := by decide +kernel
theorem dL_law_521 : decode cL_law 521 = .ok (.aload_n 0, 1) := by decide +kernel
theorem dL_law_522 : decode cL_law 522 = .ok (.iload_n 3, 1) := by decide +kernel
theorem dL_law_523 : decode cL_law 523 = .ok (.iconst 1, 1) := by decide +kernel
theorem dL_law_524 : decode cL_law 524 = .ok (.iadd, 1) := by decide +kernel
theorem dL_law_525 : decode cL_law 525 = .ok (.iaload, 1) := by decide +kernel
theorem dL_law_526 : decode cL_law 526 = .ok (.invokevirtual 68, 3) := by decide +kernel
theorem dL_law_529 : decode cL_law 529 = .ok (.aload_n 2, 1) := by decide +kernel
theorem dL_law_530 : decode cL_law 530 = .ok (.aload_n 0, 1) := by decide +kernel
theorem dL_law_531 : decode cL_law 531 = .ok (.iload_n 3, 1) := by decide +kernel
theorem dL_law_532 : decode cL_law 532 = .ok (.iconst 1, 1) := by decide +kernel
theorem dL_law_533 : decode cL_law 533 = .ok (.iadd, 1) := by decide +kernel
theorem dL_law_534 : decode cL_law 534 = .ok (.iaload, 1) := by decide +kernel
theorem dL_law_535 : decode cL_law 535 = .ok (.invokevirtual 71, 3) := by decide +kernel
theorem dL_law_538 : decode cL_law 538 = .ok (.if_icmp .eq 308, 3) := by decide +kernel
theorem dL_law_541 : decode cL_law 541 = .ok (.iconst 0, 1) := by decide +kernel
theorem dL_law_542 : decode cL_law 542 = .ok (.ireturn, 1) := by decide +kernel
theorem dL_law_543 : decode cL_law 543 = .ok (.aload_n 1, 1) := by decide +kernel
theorem dL_law_544 : decode cL_law 544 = .ok (.aload_n 0, 1) := by decide +kernel
theorem dL_law_545 : decode cL_law 545 = .ok (.iload_n 3, 1) := by decide +kernel
theorem dL_law_546 : decode cL_law 546 = .ok (.iconst 1, 1) := by decide +kernel
theorem dL_law_547 : decode cL_law 547 = .ok (.iadd, 1) := by decide +kernel
theorem dL_law_548 : decode cL_law 548 = .ok (.iaload, 1) := by decide +kernel
theorem dL_law_549 : decode cL_law 549 = .ok (.aload_n 0, 1) := by decide +kernel
theorem dL_law_550 : decode cL_law 550 = .ok (.iload_n 3, 1) := by decide +kernel
theorem dL_law_551 : decode cL_law 551 = .ok (.iconst 2, 1) := by decide +kernel
theorem dL_law_552 : decode cL_law 552 = .ok (.iadd, 1) := by decide +kernel
theorem dL_law_553 : decode cL_law 553 = .ok (.iaload, 1) := by decide +kernel
theorem dL_law_554 : decode cL_law 554 = .ok (.invokevirtual 72, 3) := by decide +kernel
theorem dL_law_557 : decode cL_law 557 = .ok (.aload_n 2, 1) := by decide +kernel
theorem dL_law_558 : decode cL_law 558 = .ok (.aload_n 0, 1) := by decide +kernel
theorem dL_law_559 : decode cL_law 559 = .ok (.iload_n 3, 1) := by decide +kernel
theorem dL_law_560 : decode cL_law 560 = .ok (.iconst 1, 1) := by decide +kernel
theorem dL_law_561 : decode cL_law 561 = .ok (.iadd, 1) := by decide +kernel
theorem dL_law_562 : decode cL_law 562 = .ok (.iaload, 1) := by decide +kernel
theorem dL_law_563 : decode cL_law 563 = .ok (.aload_n 0, 1) := by decide +kernel
theorem dL_law_564 : decode cL_law 564 = .ok (.iload_n 3, 1) := by decide +kernel
theorem dL_law_565 : decode cL_law 565 = .ok (.iconst 2, 1) := by decide +kernel
theorem dL_law_566 : decode cL_law 566 = .ok (.iadd, 1) := by decide +kernel
theorem dL_law_567 : decode cL_law 567 = .ok (.iaload, 1) := by decide +kernel
theorem dL_law_568 : decode cL_law 568 = .ok (.invokevirtual 75, 3) := by decide +kernel
theorem dL_law_571 : decode cL_law 571 = .ok (.if_icmp .eq 275, 3) := by decide +kernel
theorem dL_law_574 : decode cL_law 574 = .ok (.iconst 0, 1) := by decide +kernel
theorem dL_law_575 : decode cL_law 575 = .ok (.ireturn, 1) := by decide +kernel
theorem dL_law_576 : decode cL_law 576 = .ok (.aload_n 1, 1) := by decide +kernel
theorem dL_law_577 : decode cL_law 577 = .ok (.aload_n 0, 1) := by decide +kernel
theorem dL_law_578 : decode cL_law 578 = .ok (.iload_n 3, 1) := by decide +kernel
theorem dL_law_579 : decode cL_law 579 = .ok (.iconst 1, 1) := by decide +kernel
theorem dL_law_580 : decode cL_law 580 = .ok (.iadd, 1) := by decide +kernel
theorem dL_law_581 : decode cL_law 581 = .ok (.iaload, 1) := by decide +kernel
theorem dL_law_582 : decode cL_law 582 = .ok (.aload_n 0, 1) := by decide +kernel
theorem dL_law_583 : decode cL_law 583 = .ok (.iload_n 3, 1) := by decide +kernel
theorem dL_law_584 : decode cL_law 584 = .ok (.iconst 2, 1) := by decide +kernel
theorem dL_law_585 : decode cL_law 585 = .ok (.iadd, 1) := by decide +kernel
theorem dL_law_586 : decode cL_law 586 = .ok (.iaload, 1) := by decide +kernel
theorem dL_law_587 : decode cL_law 587 = .ok (.invokevirtual 76, 3) := by decide +kernel
theorem dL_law_590 : decode cL_law 590 = .ok (.aload_n 2, 1) := by decide +kernel
theorem dL_law_591 : decode cL_law 591 = .ok (.aload_n 0, 1) := by decide +kernel
theorem dL_law_592 : decode cL_law 592 = .ok (.iload_n 3, 1) := by decide +kernel
theorem dL_law_593 : decode cL_law 593 = .ok (.iconst 1, 1) := by decide +kernel
theorem dL_law_594 : decode cL_law 594 = .ok (.iadd, 1) := by decide +kernel
theorem dL_law_595 : decode cL_law 595 = .ok (.iaload, 1) := by decide +kernel
theorem dL_law_596 : decode cL_law 596 = .ok (.aload_n 0, 1) := by decide +kernel
theorem dL_law_597 : decode cL_law 597 = .ok (.iload_n 3, 1) := by decide +kernel
theorem dL_law_598 : decode cL_law 598 = .ok (.iconst 2, 1) := by decide +kernel
theorem dL_law_599 : decode cL_law 599 = .ok (.iadd, 1) := by decide +kernel
theorem dL_law_600 : decode cL_law 600 = .ok (.iaload, 1) := by decide +kernel
theorem dL_law_601 : decode cL_law 601 = .ok (.invokevirtual 79, 3) := by decide +kernel
theorem dL_law_604 : decode cL_law 604 = .ok (.if_icmp .eq 242, 3) := by decide +kernel
theorem dL_law_607 : decode cL_law 607 = .ok (.iconst 0, 1) := by decide +kernel
theorem dL_law_608 : decode cL_law 608 = .ok (.ireturn, 1) := by decide +kernel
theorem dL_law_609 : decode cL_law 609 = .ok (.aload_n 1, 1) := by decide +kernel
theorem dL_law_610 : decode cL_law 610 = .ok (.aload_n 0, 1) := by decide +kernel
theorem dL_law_611 : decode cL_law 611 = .ok (.iload_n 3, 1) := by decide +kernel
theorem dL_law_612 : decode cL_law 612 = .ok (.iconst 1, 1) := by decide +kernel
theorem dL_law_613 : decode cL_law 613 = .ok (.iadd, 1) := by decide +kernel
theorem dL_law_614 : decode cL_law 614 = .ok (.iaload, 1) := by decide +kernel
theorem dL_law_615 : decode cL_law 615 = .ok (.invokevirtual 80, 3) := by decide +kernel
theorem dL_law_618 : decode cL_law 618 = .ok (.aload_n 2, 1) := by decide +kernel
theorem dL_law_619 : decode cL_law 619 = .ok (.aload_n 0, 1) := by decide +kernel
theorem dL_law_620 : decode cL_law 620 = .ok (.iload_n 3, 1) := by decide +kernel
theorem dL_law_621 : decode cL_law 621 = .ok (.iconst 1, 1) := by decide +kernel
theorem dL_law_622 : decode cL_law 622 = .ok (.iadd, 1) := by decide +kernel
theorem dL_law_623 : decode cL_law 623 = .ok (.iaload, 1) := by decide +kernel
theorem dL_law_624 : decode cL_law 624 = .ok (.invokevirtual 83, 3) := by decide +kernel
theorem dL_law_627 : decode cL_law 627 = .ok (.if_icmp .eq 219, 3) := by decide +kernel
theorem dL_law_630 : decode cL_law 630 = .ok (.iconst 0, 1) := by decide +kernel
theorem dL_law_631 : decode cL_law 631 = .ok (.ireturn, 1) := by decide +kernel
theorem dL_law_632 : decode cL_law 632 = .ok (.aload_n 1, 1) := by decide +kernel
theorem dL_law_633 : decode cL_law 633 = .ok (.aload_n 0, 1) := by decide +kernel
theorem dL_law_634 : decode cL_law 634 = .ok (.iload_n 3, 1) := by decide +kernel
theorem dL_law_635 : decode cL_law 635 = .ok (.iconst 1, 1) := by decide +kernel
theorem dL_law_636 : decode cL_law 636 = .ok (.iadd, 1) := by decide +kernel
theorem dL_law_637 : decode cL_law 637 = .ok (.iaload, 1) := by decide +kernel
theorem dL_law_638 : decode cL_law 638 = .ok (.aload_n 0, 1) := by decide +kernel
theorem dL_law_639 : decode cL_law 639 = .ok (.iload_n 3, 1) := by decide +kernel
theorem dL_law_640 : decode cL_law 640 = .ok (.iconst 2, 1) := by decide +kernel
theorem dL_law_641 : decode cL_law 641 = .ok (.iadd, 1) := by decide +kernel
theorem dL_law_642 : decode cL_law 642 = .ok (.iaload, 1) := by decide +kernel
theorem dL_law_643 : decode cL_law 643 = .ok (.aload_n 0, 1) := by decide +kernel
theorem dL_law_644 : decode cL_law 644 = .ok (.iload_n 3, 1) := by decide +kernel
theorem dL_law_645 : decode cL_law 645 = .ok (.iconst 3, 1) := by decide +kernel
theorem dL_law_646 : decode cL_law 646 = .ok (.iadd, 1) := by decide +kernel
theorem dL_law_647 : decode cL_law 647 = .ok (.iaload, 1) := by decide +kernel
theorem dL_law_648 : decode cL_law 648 = .ok (.invokevirtual 84, 3) := by decide +kernel
theorem dL_law_651 : decode cL_law 651 = .ok (.aload_n 2, 1) := by decide +kernel
theorem dL_law_652 : decode cL_law 652 = .ok (.aload_n 0, 1) := by decide +kernel
theorem dL_law_653 : decode cL_law 653 = .ok (.iload_n 3, 1) := by decide +kernel
theorem dL_law_654 : decode cL_law 654 = .ok (.iconst 1, 1) := by decide +kernel
theorem dL_law_655 : decode cL_law 655 = .ok (.iadd, 1) := by decide +kernel
theorem dL_law_656 : decode cL_law 656 = .ok (.iaload, 1) := by decide +kernel
theorem dL_law_657 : decode cL_law 657 = .ok (.aload_n 0, 1) := by decide +kernel
theorem dL_law_658 : decode cL_law 658 = .ok (.iload_n 3, 1) := by decide +kernel
theorem dL_law_659 : decode cL_law 659 = .ok (.iconst 2, 1) := by decide +kernel
theorem dL_law_660 : decode cL_law 660 = .ok (.iadd, 1) := by decide +kernel
theorem dL_law_661 : decode cL_law 661 = .ok (.iaload, 1) := by decide +kernel
theorem dL_law_662 : decode cL_law 662 = .ok (.aload_n 0, 1) := by decide +kernel
theorem dL_law_663 : decode cL_law 663 = .ok (.iload_n 3, 1) := by decide +kernel
theorem dL_law_664 : decode cL_law 664 = .ok (.iconst 3, 1) := by decide +kernel
theorem dL_law_665 : decode cL_law 665 = .ok (.iadd, 1) := by decide +kernel
theorem dL_law_666 : decode cL_law 666 = .ok (.iaload, 1) := by decide +kernel
theorem dL_law_667 : decode cL_law 667 = .ok (.invokevirtual 87, 3) := by decide +kernel
theorem dL_law_670 : decode cL_law 670 = .ok (.if_icmp .eq 176, 3) := by decide +kernel
theorem dL_law_673 : decode cL_law 673 = .ok (.iconst 0, 1) := by decide +kernel
theorem dL_law_674 : decode cL_law 674 = .ok (.ireturn, 1) := by decide +kernel
theorem dL_law_675 : decode cL_law 675 = .ok (.aload_n 1, 1) := by decide +kernel
theorem dL_law_676 : decode cL_law 676 = .ok (.invokevirtual 88, 3) := by decide +kernel
theorem dL_law_679 : decode cL_law 679 = .ok (.aload_n 2, 1) := by decide +kernel
theorem dL_law_680 : decode cL_law 680 = .ok (.invokevirtual 91, 3) := by decide +kernel
theorem dL_law_683 : decode cL_law 683 = .ok (.if_icmp .eq 163, 3) := by decide +kernel
theorem dL_law_686 : decode cL_law 686 = .ok (.iconst 0, 1) := by decide +kernel
theorem dL_law_687 : decode cL_law 687 = .ok (.ireturn, 1) := by decide +kernel
theorem dL_law_688 : decode cL_law 688 = .ok (.aload_n 1, 1) := by decide +kernel
theorem dL_law_689 : decode cL_law 689 = .ok (.aload_n 0, 1) := by decide +kernel
theorem dL_law_690 : decode cL_law 690 = .ok (.iload_n 3, 1) := by decide +kernel
theorem dL_law_691 : decode cL_law 691 = .ok (.iconst 1, 1) := by decide +kernel
theorem dL_law_692 : decode cL_law 692 = .ok (.iadd, 1) := by decide +kernel
theorem dL_law_693 : decode cL_law 693 = .ok (.iaload, 1) := by decide +kernel
theorem dL_law_694 : decode cL_law 694 = .ok (.invokevirtual 92, 3) := by decide +kernel
theorem dL_law_697 : decode cL_law 697 = .ok (.aload_n 2, 1) := by decide +kernel
theorem dL_law_698 : decode cL_law 698 = .ok (.aload_n 0, 1) := by decide +kernel
theorem dL_law_699 : decode cL_law 699 = .ok (.iload_n 3, 1) := by decide +kernel
theorem dL_law_700 : decode cL_law 700 = .ok (.iconst 1, 1) := by decide +kernel
theorem dL_law_701 : decode cL_law 701 = .ok (.iadd, 1) := by decide +kernel
theorem dL_law_702 : decode cL_law 702 = .ok (.iaload, 1) := by decide +kernel
theorem dL_law_703 : decode cL_law 703 = .ok (.invokevirtual 95, 3) := by decide +kernel
theorem dL_law_706 : decode cL_law 706 = .ok (.if_icmp .eq 140, 3) := by decide +kernel
theorem dL_law_709 : decode cL_law 709 = .ok (.iconst 0, 1) := by decide +kernel
theorem dL_law_710 : decode cL_law 710 = .ok (.ireturn, 1) := by decide +kernel
theorem dL_law_711 : decode cL_law 711 = .ok (.aload_n 1, 1) := by decide +kernel
theorem dL_law_712 : decode cL_law 712 = .ok (.aload_n 0, 1) := by decide +kernel
theorem dL_law_713 : decode cL_law 713 = .ok (.iload_n 3, 1) := by decide +kernel
theorem dL_law_714 : decode cL_law 714 = .ok (.iconst 1, 1) := by decide +kernel
theorem dL_law_715 : decode cL_law 715 = .ok (.iadd, 1) := by decide +kernel
theorem dL_law_716 : decode cL_law 716 = .ok (.iaload, 1) := by decide +kernel
theorem dL_law_717 : decode cL_law 717 = .ok (.aload_n 0, 1) := by decide +kernel
theorem dL_law_718 : decode cL_law 718 = .ok (.iload_n 3, 1) := by decide +kernel
theorem dL_law_719 : decode cL_law 719 = .ok (.iconst 2, 1) := by decide +kernel
theorem dL_law_720 : decode cL_law 720 = .ok (.iadd, 1) := by decide +kernel
theorem dL_law_721 : decode cL_law 721 = .ok (.iaload, 1) := by decide +kernel
theorem dL_law_722 : decode cL_law 722 = .ok (.invokevirtual 96, 3) := by decide +kernel
theorem dL_law_725 : decode cL_law 725 = .ok (.aload_n 2, 1) := by decide +kernel
theorem dL_law_726 : decode cL_law 726 = .ok (.aload_n 0, 1) := by decide +kernel
theorem dL_law_727 : decode cL_law 727 = .ok (.iload_n 3, 1) := by decide +kernel
theorem dL_law_728 : decode cL_law 728 = .ok (.iconst 1, 1) := by decide +kernel
theorem dL_law_729 : decode cL_law 729 = .ok (.iadd, 1) := by decide +kernel
theorem dL_law_730 : decode cL_law 730 = .ok (.iaload, 1) := by decide +kernel
theorem dL_law_731 : decode cL_law 731 = .ok (.aload_n 0, 1) := by decide +kernel
theorem dL_law_732 : decode cL_law 732 = .ok (.iload_n 3, 1) := by decide +kernel
theorem dL_law_733 : decode cL_law 733 = .ok (.iconst 2, 1) := by decide +kernel
theorem dL_law_734 : decode cL_law 734 = .ok (.iadd, 1) := by decide +kernel
theorem dL_law_735 : decode cL_law 735 = .ok (.iaload, 1) := by decide +kernel
theorem dL_law_736 : decode cL_law 736 = .ok (.invokevirtual 99, 3) := by decide +kernel
theorem dL_law_739 : decode cL_law 739 = .ok (.if_icmp .eq 107, 3) := by decide +kernel
theorem dL_law_742 : decode cL_law 742 = .ok (.iconst 0, 1) := by decide +kernel
theorem dL_law_743 : decode cL_law 743 = .ok (.ireturn, 1) := by decide +kernel
theorem dL_law_744 : decode cL_law 744 = .ok (.aload_n 1, 1) := by decide +kernel
theorem dL_law_745 : decode cL_law 745 = .ok (.invokevirtual 100, 3) := by decide +kernel
theorem dL_law_748 : decode cL_law 748 = .ok (.aload_n 2, 1) := by decide +kernel
theorem dL_law_749 : decode cL_law 749 = .ok (.invokevirtual 103, 3) := by decide +kernel
theorem dL_law_752 : decode cL_law 752 = .ok (.if_icmp .eq 94, 3) := by decide +kernel
theorem dL_law_755 : decode cL_law 755 = .ok (.iconst 0, 1) := by decide +kernel
theorem dL_law_756 : decode cL_law 756 = .ok (.ireturn, 1) := by decide +kernel
theorem dL_law_757 : decode cL_law 757 = .ok (.aload_n 1, 1) := by decide +kernel
theorem dL_law_758 : decode cL_law 758 = .ok (.aload_n 0, 1) := by decide +kernel
theorem dL_law_759 : decode cL_law 759 = .ok (.iload_n 3, 1) := by decide +kernel
theorem dL_law_760 : decode cL_law 760 = .ok (.iconst 1, 1) := by decide +kernel
theorem dL_law_761 : decode cL_law 761 = .ok (.iadd, 1) := by decide +kernel
theorem dL_law_762 : decode cL_law 762 = .ok (.iaload, 1) := by decide +kernel
theorem dL_law_763 : decode cL_law 763 = .ok (.invokevirtual 104, 3) := by decide +kernel
theorem dL_law_766 : decode cL_law 766 = .ok (.aload_n 2, 1) := by decide +kernel
theorem dL_law_767 : decode cL_law 767 = .ok (.aload_n 0, 1) := by decide +kernel
theorem dL_law_768 : decode cL_law 768 = .ok (.iload_n 3, 1) := by decide +kernel
theorem dL_law_769 : decode cL_law 769 = .ok (.iconst 1, 1) := by decide +kernel
theorem dL_law_770 : decode cL_law 770 = .ok (.iadd, 1) := by decide +kernel
theorem dL_law_771 : decode cL_law 771 = .ok (.iaload, 1) := by decide +kernel
theorem dL_law_772 : decode cL_law 772 = .ok (.invokevirtual 107, 3) := by decide +kernel
theorem dL_law_775 : decode cL_law 775 = .ok (.if_icmp .eq 71, 3) := by decide +kernel
theorem dL_law_778 : decode cL_law 778 = .ok (.iconst 0, 1) := by decide +kernel
theorem dL_law_779 : decode cL_law 779 = .ok (.ireturn, 1) := by decide +kernel
theorem dL_law_780 : decode cL_law 780 = .ok (.aload_n 1, 1) := by decide +kernel
theorem dL_law_781 : decode cL_law 781 = .ok (.aload_n 0, 1) := by decide +kernel
theorem dL_law_782 : decode cL_law 782 = .ok (.iload_n 3, 1) := by decide +kernel
theorem dL_law_783 : decode cL_law 783 = .ok (.iconst 1, 1) := by decide +kernel
theorem dL_law_784 : decode cL_law 784 = .ok (.iadd, 1) := by decide +kernel
theorem dL_law_785 : decode cL_law 785 = .ok (.iaload, 1) := by decide +kernel
theorem dL_law_786 : decode cL_law 786 = .ok (.aload_n 0, 1) := by decide +kernel
theorem dL_law_787 : decode cL_law 787 = .ok (.iload_n 3, 1) := by decide +kernel
theorem dL_law_788 : decode cL_law 788 = .ok (.iconst 2, 1) := by decide +kernel
theorem dL_law_789 : decode cL_law 789 = .ok (.iadd, 1) := by decide +kernel
theorem dL_law_790 : decode cL_law 790 = .ok (.iaload, 1) := by decide +kernel
theorem dL_law_791 : decode cL_law 791 = .ok (.aload_n 0, 1) := by decide +kernel
theorem dL_law_792 : decode cL_law 792 = .ok (.iload_n 3, 1) := by decide +kernel
theorem dL_law_793 : decode cL_law 793 = .ok (.iconst 3, 1) := by decide +kernel
theorem dL_law_794 : decode cL_law 794 = .ok (.iadd, 1) := by decide +kernel
theorem dL_law_795 : decode cL_law 795 = .ok (.iaload, 1) := by decide +kernel
theorem dL_law_796 : decode cL_law 796 = .ok (.invokevirtual 108, 3) := by decide +kernel
theorem dL_law_799 : decode cL_law 799 = .ok (.aload_n 2, 1) := by decide +kernel
theorem dL_law_800 : decode cL_law 800 = .ok (.aload_n 0, 1) := by decide +kernel
theorem dL_law_801 : decode cL_law 801 = .ok (.iload_n 3, 1) := by decide +kernel
theorem dL_law_802 : decode cL_law 802 = .ok (.iconst 1, 1) := by decide +kernel
theorem dL_law_803 : decode cL_law 803 = .ok (.iadd, 1) := by decide +kernel
theorem dL_law_804 : decode cL_law 804 = .ok (.iaload, 1) := by decide +kernel
theorem dL_law_805 : decode cL_law 805 = .ok (.aload_n 0, 1) := by decide +kernel
theorem dL_law_806 : decode cL_law 806 = .ok (.iload_n 3, 1) := by decide +kernel
theorem dL_law_807 : decode cL_law 807 = .ok (.iconst 2, 1) := by decide +kernel
theorem dL_law_808 : decode cL_law 808 = .ok (.iadd, 1) := by decide +kernel
theorem dL_law_809 : decode cL_law 809 = .ok (.iaload, 1) := by decide +kernel
theorem dL_law_810 : decode cL_law 810 = .ok (.aload_n 0, 1) := by decide +kernel
theorem dL_law_811 : decode cL_law 811 = .ok (.iload_n 3, 1) := by decide +kernel
theorem dL_law_812 : decode cL_law 812 = .ok (.iconst 3, 1) := by decide +kernel
theorem dL_law_813 : decode cL_law 813 = .ok (.iadd, 1) := by decide +kernel
theorem dL_law_814 : decode cL_law 814 = .ok (.iaload, 1) := by decide +kernel
theorem dL_law_815 : decode cL_law 815 = .ok (.invokevirtual 111, 3) := by decide +kernel
theorem dL_law_818 : decode cL_law 818 = .ok (.if_icmp .eq 28, 3) := by decide +kernel
theorem dL_law_821 : decode cL_law 821 = .ok (.iconst 0, 1) := by decide +kernel
theorem dL_law_822 : decode cL_law 822 = .ok (.ireturn, 1) := by decide +kernel
theorem dL_law_823 : decode cL_law 823 = .ok (.aload_n 1, 1) := by decide +kernel
theorem dL_law_824 : decode cL_law 824 = .ok (.aload_n 0, 1) := by decide +kernel
theorem dL_law_825 : decode cL_law 825 = .ok (.iload_n 3, 1) := by decide +kernel
theorem dL_law_826 : decode cL_law 826 = .ok (.iconst 1, 1) := by decide +kernel
theorem dL_law_827 : decode cL_law 827 = .ok (.iadd, 1) := by decide +kernel
theorem dL_law_828 : decode cL_law 828 = .ok (.iaload, 1) := by decide +kernel
theorem dL_law_829 : decode cL_law 829 = .ok (.invokevirtual 112, 3) := by decide +kernel
theorem dL_law_832 : decode cL_law 832 = .ok (.aload_n 2, 1) := by decide +kernel
theorem dL_law_833 : decode cL_law 833 = .ok (.aload_n 0, 1) := by decide +kernel
theorem dL_law_834 : decode cL_law 834 = .ok (.iload_n 3, 1) := by decide +kernel
theorem dL_law_835 : decode cL_law 835 = .ok (.iconst 1, 1) := by decide +kernel
theorem dL_law_836 : decode cL_law 836 = .ok (.iadd, 1) := by decide +kernel
theorem dL_law_837 : decode cL_law 837 = .ok (.iaload, 1) := by decide +kernel
theorem dL_law_838 : decode cL_law 838 = .ok (.invokevirtual 115, 3) := by decide +kernel
theorem dL_law_841 : decode cL_law 841 = .ok (.if_icmp .eq 5, 3) := by decide +kernel
theorem dL_law_844 : decode cL_law 844 = .ok (.iconst 0, 1) := by decide +kernel
theorem dL_law_845 : decode cL_law 845 = .ok (.ireturn, 1) := by decide +kernel
theorem dL_law_846 : decode cL_law 846 = .ok (.iinc 3 6, 3) := by decide +kernel
theorem dL_law_849 : decode cL_law 849 = .ok (.goto (-831), 3) := by decide +kernel
theorem dL_law_852 : decode cL_law 852 = .ok (.iconst 1, 1) := by decide +kernel
theorem dL_law_853 : decode cL_law 853 = .ok (.ireturn, 1) := by decide +kernel
